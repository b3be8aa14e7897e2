/-! ===== tables ===== -/
def bI (u : Bool) : Int32 := if u = true then 1 else 0
def skp (f : Nat → Nat) (row : Nat) : Nat → Nat → Nat
  | 0, x => x
  | n + 1, x => if f x ≤ row then x else skp f row n (x + 1)
def put (row rr : Nat) : Nat → (Nat → Nat) → Nat → Bool → (Nat → Nat) × Bool
  | 0, f, _, u => (f, u)
  | c + 1, f, x, u => put row rr c (up f x (max (f x) (row + rr))) (x + 1) (u || decide (row < f x))
def endw (f : Nat → Nat) (row : Nat) : Nat → Nat
  | 0 => 0
  | n + 1 => if row < f n then n + 1 else endw f row n
theorem put_u (row rr : Nat) (u0 : Bool) : ∀ c f x u, put row rr c f x (u0 || u) = ((put row rr c f x u).1, u0 || (put row rr c f x u).2) := by
  intro c
  induction c with
  | zero => intro f x u; rfl
  | succ c ih => intro f x u; rw [put, put, Bool.or_assoc, ih]
theorem skp_le {f : Nat → Nat} {row us : Nat} (h : ∀ y, us ≤ y → f y = 0) : ∀ n x, x ≤ us → us ≤ x + n → skp f row n x ≤ us ∧ x ≤ skp f row n x := by
  intro n
  induction n with
  | zero => intro x h1 h2; exact ⟨by show x ≤ us; omega, Nat.le_refl _⟩
  | succ n ih =>
    intro x h1 h2
    rw [skp]
    by_cases g : f x ≤ row
    · rw [if_pos g]; exact ⟨h1, Nat.le_refl _⟩
    · rw [if_neg g]
      have : x < us := by
        apply Classical.byContradiction
        intro h9
        have := h x (by omega)
        omega
      have := ih (x + 1) (by omega) (by omega)
      omega
theorem put_f {row rr : Nat} (hr : rr ≤ 8) {us : Nat} : ∀ c f x u, (∀ i, f i ≤ row + 8) → (∀ y, us ≤ y → f y = 0) → (∀ i, (put row rr c f x u).1 i ≤ row + 8) ∧ ∀ y, us ≤ y → x + c ≤ y → (put row rr c f x u).1 y = 0 := by
  intro c
  induction c with
  | zero => intro f x u h1 h2; exact ⟨h1, fun y hy _ => h2 y hy⟩
  | succ c ih =>
    intro f x u h1 h2
    rw [put]
    have hb : ∀ i, up f x (max (f x) (row + rr)) i ≤ row + 8 := by
      intro i
      by_cases e : i = x
      · subst e; rw [up_s]; have := h1 i; omega
      · rw [up_n e]; exact h1 i
    have key : ∀ c f x u us, (∀ i, f i ≤ row + 8) → (∀ y, us ≤ y → f y = 0) → (∀ i, (put row rr c f x u).1 i ≤ row + 8) ∧ ∀ y, us ≤ y → x + c ≤ y → (put row rr c f x u).1 y = 0 := by
      intro c
      induction c with
      | zero => intro f x u us h1 h2; exact ⟨h1, fun y hy _ => h2 y hy⟩
      | succ c ih2 =>
        intro f x u us h1 h2
        rw [put]
        have hb : ∀ i, up f x (max (f x) (row + rr)) i ≤ row + 8 := by
          intro i
          by_cases e : i = x
          · subst e; rw [up_s]; have := h1 i; omega
          · rw [up_n e]; exact h1 i
        obtain ⟨a1, a2⟩ := ih2 (up f x (max (f x) (row + rr))) (x + 1) (u || decide (row < f x)) (max us (x + 1)) hb (fun y hy => by rw [up_n (by omega)]; exact h2 y (by omega))
        exact ⟨a1, fun y h3 h4 => a2 y (by omega) (by omega)⟩
    obtain ⟨a1, a2⟩ := key c (up f x (max (f x) (row + rr))) (x + 1) (u || decide (row < f x)) (max us (x + 1)) hb (fun y hy => by rw [up_n (by omega)]; exact h2 y (by omega))
    exact ⟨a1, fun y h3 h4 => a2 y (by omega) (by omega)⟩
def GC (τ : Sg) (f : Nat → Nat) (row x us : Nat) (u : Bool) (w : Int32) : Prop := (∀ i, i < 480 → τ 21 i = nI (f i)) ∧ τ 20 2 = nI row ∧ τ 20 3 = nI x ∧ τ 20 1 = nI us ∧ τ 20 5 = bI u ∧ τ 20 4 = w
theorem max_I {a b : Nat} (ha : a < 2 ^ 31) (hb : b < 2 ^ 31) : (if nI a < nI b then nI b else nI a) = nI (max a b) := by
  by_cases g : a < b
  · rw [if_pos (by rw [ltN ha hb]; exact g), Nat.max_eq_right (by omega)]
  · rw [if_neg (by rw [ltN ha hb]; exact g), Nat.max_eq_left (by omega)]
theorem c_skp {N : Nat} {a b : Int32} {f : Nat → Nat} {row us : Nat} {u : Bool} {w : Int32} (hf : ∀ i, f i ≤ row + 8) (hrow : row ≤ 100) (K : Sg → Option (Int32 × Sg)) : ∀ (n x fuel : Nat) (τ : Sg), x + n = 480 → GC τ f row x us u w → n < fuel → ∃ τ', f_X1_lay_0 N a b K fuel τ = K τ' ∧ GC τ' f row (skp f row n x) us u w ∧ ∀ c, c ≠ 20 → τ' c = τ c := by
  intro n
  induction n with
  | zero =>
    intro x fuel τ hx hG hfu
    obtain ⟨fuel, rfl⟩ : ∃ k, fuel = k + 1 := ⟨fuel - 1, by omega⟩
    refine ⟨τ, ?_, hG, fun c _ => rfl⟩
    rw [f_X1_lay_0, lt_eq, hG.2.2.1, if_pos (by rw [show x = 480 by omega]; decide)]
  | succ n ih =>
    intro x fuel τ hx hG hfu
    obtain ⟨fuel, rfl⟩ : ∃ k, fuel = k + 1 := ⟨fuel - 1, by omega⟩
    have h1 := hf x
    rw [f_X1_lay_0, lt_eq, hG.2.2.1, if_neg (by rw [show (480 : Int32) = nI 480 from rfl, leN (by decide) (by omega)]; omega), lt_eq, rdA_v x (nI (f x)) rfl (by omega) (by decide) (hG.1 x (by omega)), lt_eq, hG.2.1, skp]
    by_cases g : f x ≤ row
    · rw [if_pos (nI_le g (by omega)), if_pos g]
      exact ⟨τ, rfl, hG, fun c _ => rfl⟩
    · rw [if_neg (nI_ge (by omega) (by omega)), if_neg g, lt_eq, st_eq, nI_1]
      obtain ⟨τ', a1, a2, a3⟩ := ih (x + 1) fuel (ss τ 20 3 (nI (x + 1))) (by omega) ⟨hG.1, hG.2.1, rfl, hG.2.2.2⟩ (by omega)
      exact ⟨τ', a1, a2, fun c hc => by rw [a3 c hc, ss_c hc]⟩
theorem c_put {N : Nat} {row us rr cc : Nat} {w : Int32} (hr : rr ≤ 8) (hrow : row ≤ 100) (hcc : cc ≤ 8) (K : Sg → Option (Int32 × Sg)) : ∀ (c k x fuel : Nat) (f : Nat → Nat) (u : Bool) (τ : Sg), k + c = cc → x + c ≤ 480 → (∀ i, f i ≤ row + 8) → GC τ f row x us u w → c < fuel → ∃ τ', f_X1_lay_41 N (nI rr) (nI cc) K fuel (nI k) τ = K τ' ∧ GC τ' (put row rr c f x u).1 row (x + c) us (put row rr c f x u).2 w ∧ ∀ c, c ≠ 20 → c ≠ 21 → τ' c = τ c := by
  intro c
  induction c with
  | zero =>
    intro k x fuel f u τ hk hx hf hG hfu
    obtain ⟨fuel, rfl⟩ : ∃ k, fuel = k + 1 := ⟨fuel - 1, by omega⟩
    refine ⟨τ, ?_, hG, fun c _ _ => rfl⟩
    rw [f_X1_lay_41, if_pos (nI_le (by omega) (by omega))]
  | succ c ih =>
    intro k x fuel f u τ hk hx hf hG hfu
    obtain ⟨fuel, rfl⟩ : ∃ k, fuel = k + 1 := ⟨fuel - 1, by omega⟩
    have h1 := hf x
    obtain ⟨g1, g2, g3, g4, g5, g6⟩ := hG
    have hb : ∀ i, up f x (max (f x) (row + rr)) i ≤ row + 8 := by
      intro i
      by_cases e : i = x
      · subst e; rw [up_s]; have := hf i; omega
      · rw [up_n e]; exact hf i
    have fin : ∀ u' : Bool, u' = (u || decide (row < f x)) → ∃ τ', f_X1_lay_41 N (nI rr) (nI cc) K fuel (nI k + 1) (ss (ss (ss τ 20 5 (bI u')) 21 x (nI (max (f x) (row + rr)))) 20 3 (nI (x + 1))) = K τ' ∧ GC τ' (put row rr (c + 1) f x u).1 row (x + (c + 1)) us (put row rr (c + 1) f x u).2 w ∧ ∀ c, c ≠ 20 → c ≠ 21 → τ' c = τ c := by
      intro u' hu'
      have hG' : GC (ss (ss (ss τ 20 5 (bI u')) 21 x (nI (max (f x) (row + rr)))) 20 3 (nI (x + 1))) (up f x (max (f x) (row + rr))) row (x + 1) us u' w := by
        refine ⟨fun i hi => ?_, g2, rfl, g4, rfl, g6⟩
        show upd (τ 21) x (nI (max (f x) (row + rr))) i = _
        by_cases e : i = x
        · subst e; rw [upd_s, up_s]
        · rw [upd_n e, up_n e]; exact g1 i hi
      obtain ⟨τ', a1, a2, a3⟩ := ih (k + 1) (x + 1) fuel (up f x (max (f x) (row + rr))) u' _ (by omega) (by omega) hb hG' (by omega)
      rw [nI_1]
      refine ⟨τ', a1, ?_, fun c c1 c2 => by rw [a3 c c1 c2, ss_c c1, ss_c c2, ss_c c1]⟩
      rw [put, ← hu', show x + (c + 1) = x + 1 + c by omega]
      exact a2
    rw [f_X1_lay_41, if_neg (nI_ge (by omega) (by omega)), lt_eq, g3, if_neg (by rw [show (480 : Int32) = nI 480 from rfl, leN (by decide) (by omega)]; omega), lt_eq, g5]
    have tail : ∀ v : Int32, ∀ u' : Bool, v = bI u' → (lt (ss τ 20 5 v 20 3) (fun v30 => lt (ss τ 20 5 v 20 3) (fun v31 => rdA 480 (ss τ 20 5 v 21) v31 (fun v32 => lt (ss τ 20 5 v 20 2) (fun v33 => lt (if v32 < (v33 + nI rr) then (v33 + nI rr) else v32) (fun v34 => wrA 480 (ss τ 20 5 v) 21 v30 v34 (fun σ35 => lt (σ35 20 3) (fun v36 => st (ss σ35 20 3 (v36 + 1)) (fun σ37 => lt (nI k + 1) (fun v38 => f_X1_lay_41 N (nI rr) (nI cc) K fuel v38 σ37)))))))))) = f_X1_lay_41 N (nI rr) (nI cc) K fuel (nI k + 1) (ss (ss (ss τ 20 5 (bI u')) 21 x (nI (max (f x) (row + rr)))) 20 3 (nI (x + 1))) := by
      intro v u' hv
      subst hv
      rw [lt_eq, lt_eq, rdA_v x (nI (f x)) (by exact g3) (by omega) (by decide) (by exact g1 x (by omega)), lt_eq, show ss τ 20 5 (bI u') 20 2 = nI row from g2, nI_add, max_I (by omega) (by omega), lt_eq, wrA_eq _ _ _ x (by exact g3) (by omega) (by decide), lt_eq, st_eq, lt_eq, show ss (ss τ 20 5 (bI u')) 21 x (nI (max (f x) (row + rr))) 20 3 = nI x from g3, nI_1, nI_1]
    cases hu : u with
    | true =>
      rw [if_neg (by decide), st_eq, tail 1 true rfl]
      subst hu
      exact fin true rfl
    | false =>
      subst hu
      rw [if_pos (by decide), lt_eq, rdA_v x (nI (f x)) rfl (by omega) (by decide) (by exact g1 x (by omega)), lt_eq, g2]
      by_cases g : f x ≤ row
      · rw [if_pos (nI_le g (by omega)), st_eq, tail 0 false rfl]
        exact fin false (by rw [decide_eq_false (by omega)]; rfl)
      · rw [if_neg (nI_ge (by omega) (by omega)), st_eq, tail 1 true rfl]
        exact fin true (by rw [decide_eq_true (by omega)]; rfl)
theorem c_lay {N : Nat} (hN9 : 600 ≤ N) {row us rr cc x : Nat} {w : Int32} {f : Nat → Nat} {u : Bool} {τ : Sg} (hr : rr ≤ 8) (hrow : row ≤ 100) (hcc : cc ≤ 8) (hf : ∀ i, f i ≤ row + 8) (h0 : ∀ y, us ≤ y → f y = 0) (hx : x ≤ us) (hus : us + cc ≤ 480) (hG : GC τ f row x us u w) : ∃ τ', f_X1_lay N (nI rr) (nI cc) τ = some (0, τ') ∧ GC τ' (put row rr cc f (skp f row (480 - x) x) u).1 row (skp f row (480 - x) x + cc) (max us (skp f row (480 - x) x + cc)) (put row rr cc f (skp f row (480 - x) x) u).2 w ∧ ∀ c, c ≠ 20 → c ≠ 21 → τ' c = τ c := by
  obtain ⟨k1, k2⟩ := skp_le h0 (row := row) (480 - x) x hx (by omega)
  obtain ⟨τ1, a1, a2, a3⟩ := c_skp (N := N) (a := nI rr) (b := nI cc) hf hrow (fun σ9 => f_X1_lay_41 N (nI rr) (nI cc) (fun σ49 => lt (σ49 20 1) (fun v50 => lt (σ49 20 3) (fun v51 => lt (if v50 < v51 then v51 else v50) (fun v52 => st (ss σ49 20 1 v52) (fun σ53 => some (0, σ53)))))) N 0 σ9) (480 - x) x N τ (by omega) hG (by omega)
  obtain ⟨τ2, b1, b2, b3⟩ := c_put (N := N) (row := row) (us := us) (w := w) hr hrow hcc (fun σ49 => lt (σ49 20 1) (fun v50 => lt (σ49 20 3) (fun v51 => lt (if v50 < v51 then v51 else v50) (fun v52 => st (ss σ49 20 1 v52) (fun σ53 => some (0, σ53)))))) cc 0 (skp f row (480 - x) x) N f u τ1 (by omega) (by omega) hf a2 (by omega)
  rw [nI_0] at b1
  refine ⟨ss τ2 20 1 (nI (max us (skp f row (480 - x) x + cc))), ?_, ⟨b2.1, b2.2.1, b2.2.2.1, rfl, b2.2.2.2.2⟩, fun c c1 c2 => by rw [ss_c c1, b3 c c1 c2, a3 c c1]⟩
  rw [f_X1_lay, a1, b1, lt_eq, b2.2.2.2.1, lt_eq, b2.2.2.1, max_I (by omega) (by omega), lt_eq, st_eq]
theorem c_end {N : Nat} {f : Nat → Nat} {row : Nat} (hf : ∀ i, f i ≤ row + 8) (hrow : row ≤ 100) (K : Int32 → Sg → Option (Int32 × Sg)) {τ : Sg} (h1 : ∀ i, i < 480 → τ 21 i = nI (f i)) (h2 : τ 20 2 = nI row) : ∀ (n fuel : Nat), n ≤ 480 → n < fuel → f_X1_endRow_5 N K fuel (nI n) τ = K (nI (endw f row n)) τ := by
  intro n
  induction n with
  | zero =>
    intro fuel hn hfu
    obtain ⟨fuel, rfl⟩ : ∃ k, fuel = k + 1 := ⟨fuel - 1, by omega⟩
    rw [f_X1_endRow_5, if_pos (by decide)]
    rfl
  | succ n ih =>
    intro fuel hn hfu
    obtain ⟨fuel, rfl⟩ : ∃ k, fuel = k + 1 := ⟨fuel - 1, by omega⟩
    have h3 := hf n
    rw [f_X1_endRow_5, if_neg (nI_nle (by omega) (by omega)), rdA_v n (nI (f n)) (nI_pred n) (by omega) (by decide) (h1 n (by omega)), lt_eq, h2, endw]
    by_cases g : row < f n
    · rw [if_pos (nI_lt g (by omega)), if_pos g]
    · rw [if_neg (nI_nlt (by omega) (by omega)), if_neg g, lt_eq, nI_dec]
      exact ih fuel (by omega) (by omega)
def wI (row w : Nat) : Int32 := if row = 0 then -1 else nI w
theorem c_endRow {N : Nat} (hN9 : 600 ≤ N) {f : Nat → Nat} {row x us w : Nat} {u : Bool} {τ : Sg} (hf : ∀ i, f i ≤ row + 8) (hrow : row ≤ 100) (hus : us ≤ 480) (hw : w ≤ 500) (hG : GC τ f row x us u (wI row w)) : ∃ τ', f_X1_endRow N τ = some (0, τ') ∧ GC τ' f (row + 1) x us (u || (row != 0 && endw f row us != w)) (wI (row + 1) (endw f row us)) ∧ ∀ c, c ≠ 20 → τ' c = τ c := by
  obtain ⟨g1, g2, g3, g4, g5, g6⟩ := hG
  have hwI : wI (row + 1) (endw f row us) = nI (endw f row us) := by unfold wI; rw [if_neg (by omega)]
  have hel : ∀ n, endw f row n ≤ n := by
    intro n
    induction n with
    | zero => exact Nat.le_refl _
    | succ n ih => rw [endw]; by_cases g : row < f n
                   · rw [if_pos g]; omega
                   · rw [if_neg g]; omega
  have he := hel us
  have fin : ∀ b : Bool, b = (u || (row != 0 && endw f row us != w)) → GC (ss (ss (ss τ 20 5 (bI b)) 20 4 (nI (endw f row us))) 20 2 (nI row + 1)) f (row + 1) x us (u || (row != 0 && endw f row us != w)) (wI (row + 1) (endw f row us)) ∧ ∀ c, c ≠ 20 → (ss (ss (ss τ 20 5 (bI b)) 20 4 (nI (endw f row us))) 20 2 (nI row + 1)) c = τ c := by
    intro b hb
    refine ⟨⟨g1, ?_, g3, g4, ?_, ?_⟩, fun c hc => by rw [ss_c hc, ss_c hc, ss_c hc]⟩
    · show nI row + 1 = _
      rw [nI_1]
    · show bI b = _
      rw [hb]
    · show nI (endw f row us) = _
      rw [hwI]
  rw [f_X1_endRow, lt_eq, g4, c_end hf hrow _ g1 g2 us N hus (by omega), lt_eq, g5]
  cases hu : u with
  | true =>
    subst hu
    rw [if_neg (by decide), st_eq, st_eq, lt_eq, st_eq, show ss (ss τ 20 5 1) 20 4 (nI (endw f row us)) 20 2 = nI row from g2]
    exact ⟨_, rfl, fin true rfl⟩
  | false =>
    subst hu
    rw [if_pos (by decide), lt_eq, g6]
    by_cases r0 : row = 0
    · rw [if_pos (by unfold wI; rw [if_pos r0]), st_eq, st_eq, lt_eq, st_eq, show ss (ss τ 20 5 0) 20 4 (nI (endw f row us)) 20 2 = nI row from g2]
      exact ⟨_, rfl, fin false (by simp [r0])⟩
    · have : wI row w = nI w := by unfold wI; rw [if_neg r0]
      rw [this, if_neg (m1_ne (by omega)), lt_eq]
      by_cases e : w = endw f row us
      · rw [if_pos (by rw [← e]), st_eq, st_eq, lt_eq, st_eq, show ss (ss τ 20 5 0) 20 4 (nI (endw f row us)) 20 2 = nI row from g2]
        exact ⟨_, rfl, fin false (by simp [r0, ← e])⟩
      · rw [if_neg (by rw [eqN (by omega) (by omega)]; exact e), st_eq, st_eq, lt_eq, st_eq, show ss (ss τ 20 5 1) 20 4 (nI (endw f row us)) 20 2 = nI row from g2]
        exact ⟨_, rfl, fin true (by simp [r0]; exact fun h => e (Eq.symm h))⟩
