/-! ===== what holds between calls: the class's cells and the reference's ===== -/
def own (r : Int32) : Prop := 100 ≤ r ∧ r < 120
/-- a role, or where a map leads: none, standard, own -/
def okR (r : Int32) : Prop := r = -1 ∨ ∃ k : Nat, r = nI k ∧ (k ≤ 12 ∨ (100 ≤ k ∧ k < 120))
/-- one step of the maps -/
def stp (m : Nat → Int32) (r : Int32) : Int32 := if 100 ≤ r then m (r - 100).toNatClampNeg else r
def itr (m : Nat → Int32) : Nat → Int32 → Int32
  | 0, r => r
  | n + 1, r => itr m n (stp m r)
def gN (a1 b1 a2 b2 a3 b3 b4 b5 a6 b6 : Int32) (ne nk np nt ns nf : Nat) : Prop :=
  a1 = nI ne ∧ b1 = nI ne ∧ a2 = nI np ∧ b2 = nI np ∧ a3 = nI nt ∧ b3 = nI nt ∧ b4 = nI nk ∧ b5 = nI ns ∧ a6 = nI nf ∧ b6 = nI nf ∧ 1 ≤ ne ∧ ne ≤ 60 ∧ np ≤ 100 ∧ nt ≤ 40 ∧ ns ≤ 200 ∧ nf ≤ 700 ∧ nk + 1 = ne + np
def gV (ro le wo rw co : Nat → Int32) (ne : Nat) : Prop :=
  ro 0 = 0 ∧ (∀ e, e < 60 → okR (ro e) ∧ ro e ≠ -1) ∧ (∀ e, e < 60 → ∃ v : Nat, v ≤ 6 ∧ le e = nI v) ∧ (∀ e, e < 60 → wo e = 0 ∨ wo e = 1) ∧ (∀ e, e < 60 → ∃ v : Nat, 1 ≤ v ∧ v ≤ 8 ∧ rw e = nI v) ∧ (∀ e, e < 60 → ∃ v : Nat, 1 ≤ v ∧ v ≤ 8 ∧ co e = nI v)
def gM (m : Nat → Int32) : Prop := (∀ k, k < 20 → okR (m k)) ∧ ∀ k, k < 20 → ¬ own (itr m 20 (nI (100 + k)))
/-- a node of the tree: an element, or a marked part behind them all -/
def nd (v : Nat) : Nat := if v < 1000 then v else v - 940
def gK (kf kd : Nat → Int32) (ne nk : Nat) (kp kn : Nat → Nat) : Prop :=
  (∀ j, j < nk → kf j = nI (kp j) ∧ kd j = nI (kn j) ∧ kp j < ne) ∧ (∀ j, j < nk → (1 ≤ kn j ∧ kn j < ne ∧ kp j < kn j) ∨ (1000 ≤ kn j ∧ kn j < 1200)) ∧ (∀ i j, i < j → j < nk → kn i ≠ kn j) ∧ (∀ i j, i < j → j < nk → kn i < 1000 → kn j < 1000 → kn i < kn j) ∧ (∀ e, 1 ≤ e → e < ne → ∃ j, j < nk ∧ kn j = e)
/-- the first place from j on whose kid is e's -/
def nx (kp : Nat → Nat) (nk e : Nat) : Nat → Nat → Nat
  | 0, j => j
  | n + 1, j => if j < nk then (if kp j = e then j else nx kp nk e n (j + 1)) else nk
def nxt (kp : Nat → Nat) (nk e j : Nat) : Nat := nx kp nk e (nk - j) j
def lnk (kp kn : Nat → Nat) (nk e j : Nat) : Int32 := if nxt kp nk e j < nk then nI (nd (kn (nxt kp nk e j))) else -1
def gT (fk lk pa nk' : Nat → Int32) (nk : Nat) (kp kn : Nat → Nat) : Prop :=
  (∀ e, e < 60 → fk e = lnk kp kn nk e 0) ∧ (∀ e, e < 60 → lk e = -1 ∧ (∀ j, j < nk → kp j ≠ e) ∨ ∃ j, j < nk ∧ kp j = e ∧ (∀ i, j < i → i < nk → kp i ≠ e) ∧ lk e = nI (nd (kn j))) ∧ (∀ j, j < nk → pa (nd (kn j)) = nI (kp j)) ∧ (∀ v, v < 260 → (∀ j, j < nk → nd (kn j) ≠ v) → pa v = -1 ∧ nk' v = -1) ∧ (∀ j, j < nk → nk' (nd (kn j)) = lnk kp kn nk (kp j) (j + 1))
/-- how many of the first m shown marks page p shows -/
def cnt (sh : Nat → Nat) (p : Nat) : Nat → Nat
  | 0 => 0
  | m + 1 => cnt sh p m + (if sh m / 20 = p then 1 else 0)
def gP (cd pl ct sw : Nat → Int32) (ns : Nat) (sh : Nat → Nat) : Prop :=
  (∀ j, j < ns → sw j = nI (sh j) ∧ sh j < 200) ∧ (∀ i j, i < j → j < ns → sh i ≠ sh j) ∧ (∀ p, p < 10 → ct p = nI (cnt sh p ns)) ∧ (∀ j, j < ns → pl (sh j) = nI (cnt sh (sh j / 20) j) ∧ cd (20 * (sh j / 20) + cnt sh (sh j / 20) j) = nI (sh j)) ∧ (∀ c, c < 200 → (∀ j, j < ns → sh j ≠ c) → pl c = -1)
def gF (k1 e1 n1 k2 e2 n2 : Nat → Int32) (nf : Nat) : Prop := ∀ i, i < nf → k1 i = k2 i ∧ e1 i = e2 i ∧ n1 i = n2 i
def gE (σ : Sg) : Prop := σ 4 = σ 36 ∧ σ 26 = σ 37 ∧ σ 27 = σ 38 ∧ σ 28 = σ 39 ∧ σ 29 = σ 40 ∧ σ 2 = σ 41 ∧ σ 30 = σ 45 ∧ σ 31 = σ 44
def IA (σ : Sg) (ne nk np nt ns nf : Nat) (kp kn sh : Nat → Nat) : Prop :=
  gN (σ 3 6) (σ 35 1) (σ 3 7) (σ 35 11) (σ 0 13) (σ 35 12) (σ 35 8) (σ 35 15) (σ 22 3) (σ 35 25) ne nk np nt ns nf ∧ gE σ ∧ gV (σ 36) (σ 37) (σ 38) (σ 39) (σ 40) ne ∧ gM (σ 41) ∧ gK (σ 42) (σ 43) ne nk kp kn ∧ gT (σ 5) (σ 6) (σ 7) (σ 8) nk kp kn ∧ gP (σ 13) (σ 14) (σ 15) (σ 46) ns sh ∧ gF (σ 23) (σ 24) (σ 25) (σ 53) (σ 54) (σ 55) nf
def Inv (σ : Sg) : Prop := ∃ (ne nk np nt ns nf : Nat) (kp kn sh : Nat → Nat), IA σ ne nk np nt ns nf kp kn sh
/-- a call: the class by its wrapper, then the reference -/
def OpOK (fL fM : Sg → Option (Int32 × Sg)) (σ : Sg) : Prop := ∃ (k : Int32) (σ1 : Sg) (r : Int32) (σ2 : Sg), fL σ = some (k, σ1) ∧ fM σ1 = some (r, σ2) ∧ σ2 35 0 = k ∧ (k = 0 → σ2 34 0 = r) ∧ Inv σ2
theorem inv_0 : Inv sg0 := by
  refine ⟨1, 0, 0, 0, 0, 0, fun _ => 0, fun _ => 0, fun _ => 0, ?_, ?_, ?_, ?_, ?_, ?_, ?_, ?_⟩
  · exact ⟨rfl, rfl, rfl, rfl, rfl, rfl, rfl, rfl, rfl, rfl, by decide, by decide, by decide, by decide, by decide, by decide, by decide⟩
  · exact ⟨rfl, rfl, rfl, rfl, rfl, rfl, rfl, rfl⟩
  · refine ⟨rfl, fun e _ => ⟨Or.inr ⟨0, rfl, Or.inl (by decide)⟩, fun h => absurd (show (0 : Int32) = -1 from h) (by decide)⟩, fun e _ => ⟨0, by decide, rfl⟩, fun e _ => Or.inl rfl, fun e _ => ⟨1, by decide, by decide, rfl⟩, fun e _ => ⟨1, by decide, by decide, rfl⟩⟩
  · refine ⟨fun k _ => Or.inl rfl, fun k hk h => ?_⟩
    have hst : stp (sg0 41) (nI (100 + k)) = -1 := by
      unfold stp
      rw [if_pos (by rw [show (100 : Int32) = nI 100 from rfl, leN (by decide) (by omega)]; omega)]
      rfl
    have h1 : ∀ n, itr (sg0 41) n (-1) = -1 := by
      intro n
      induction n with
      | zero => rfl
      | succ n ih => rw [itr, show stp (sg0 41) (-1) = -1 from by unfold stp; rw [if_neg (by decide)]]; exact ih
    rw [itr, hst, h1] at h
    exact absurd h.1 (by decide)
  · exact ⟨fun j h => absurd h (by omega), fun j h => absurd h (by omega), fun i j _ h => absurd h (by omega), fun i j _ h => absurd h (by omega), fun e h1 h2 => absurd h2 (by omega)⟩
  · refine ⟨fun e _ => rfl, fun e _ => Or.inl ⟨rfl, fun j h => absurd h (by omega)⟩, fun j h => absurd h (by omega), fun v _ _ => ⟨rfl, rfl⟩, fun j h => absurd h (by omega)⟩
  · exact ⟨fun j h => absurd h (by omega), fun i j _ h => absurd h (by omega), fun p _ => rfl, fun j h => absurd h (by omega), fun c _ _ => rfl⟩
  · exact fun i h => absurd h (by omega)
