/-! ===== the pure part: what the mirrors answer ===== -/
section PU
variable {β : Type}
theorem lt_eq (x : Int32) (K : Int32 → Option β) : lt x K = K x := rfl
theorem st_eq (σ : Sg) (K : Sg → Option β) : st σ K = K σ := rfl
theorem cI_eq (r : Int32) (σ : Sg) (K : Int32 → Sg → Option β) : cI (some (r, σ)) K = K r σ := rfl
theorem cT_r (r : Int32) (σ : Sg) (K : Int32 → Sg → Option Out) : cT (some (.inr r, σ)) K = K r σ := rfl
theorem cT_l (E : String) (σ : Sg) (K : Int32 → Sg → Option Out) : cT (some (.inl E, σ)) K = some (.inl E, σ) := rfl
theorem rdA_eq {n : Nat} (f : Nat → Int32) {i : Int32} (j : Nat) (hi : i = nI j) (hj : j < n) (hn : n < 2 ^ 31) (K : Int32 → Option β) : rdA n f i K = K (f j) := by
  subst hi
  unfold rdA
  have h1 : ¬ nI j < 0 := nI_pos (by omega)
  have h2 : (nI j).toNatClampNeg = j := nI_clamp (by omega)
  rw [if_neg h1, h2, if_neg (by omega)]
theorem wrA_eq {n : Nat} (σ : Sg) (c : Nat) {i : Int32} (x : Int32) (j : Nat) (hi : i = nI j) (hj : j < n) (hn : n < 2 ^ 31) (K : Sg → Option β) : wrA n σ c i x K = K (ss σ c j x) := by
  subst hi
  unfold wrA
  have h1 : ¬ nI j < 0 := nI_pos (by omega)
  have h2 : (nI j).toNatClampNeg = j := nI_clamp (by omega)
  rw [if_neg h1, h2, if_neg (by omega)]
theorem gd_eq {c : Prop} [Decidable c] (h : c) (K : Option β) : gd c K = K := by unfold gd; rw [if_pos h]
end PU
theorem ss_c {σ : Sg} {c i : Nat} {x : Int32} {c' : Nat} (h : c' ≠ c) : ss σ c i x c' = σ c' := by unfold ss; rw [if_neg h]
theorem ss_s {σ : Sg} {c i : Nat} {x : Int32} : ss σ c i x c = upd (σ c) i x := by unfold ss; rw [if_pos rfl]
theorem upd_s {f : Nat → Int32} {i : Nat} {x : Int32} : upd f i x i = x := by unfold upd; rw [if_pos rfl]
theorem upd_n {f : Nat → Int32} {i j : Nat} {x : Int32} (h : j ≠ i) : upd f i x j = f j := by unfold upd; rw [if_neg h]
/-- numbers: a value is one of the small ones, or told by an inequality -/
theorem i32_cases (x : Int32) : x < 0 ∨ ∃ j : Nat, j < 2 ^ 31 ∧ x = nI j := by
  by_cases h : x < 0
  · exact Or.inl h
  · exact Or.inr (nI_of h)
theorem ltN {a b : Nat} (ha : a < 2 ^ 31) (hb : b < 2 ^ 31) : (nI a < nI b) = (a < b) := propext (nI_ltI ha hb)
theorem leN {a b : Nat} (ha : a < 2 ^ 31) (hb : b < 2 ^ 31) : (nI a ≤ nI b) = (a ≤ b) := propext (nI_leI ha hb)
theorem eqN {a b : Nat} (ha : a < 2 ^ 31) (hb : b < 2 ^ 31) : (nI a = nI b) = (a = b) := propext (nI_eq ha hb)
theorem m1_ne {a : Nat} (ha : a < 2 ^ 31) : nI a ≠ -1 := by
  intro h
  have h1 := nI_toInt ha
  rw [h] at h1
  have h2 : (-1 : Int32).toInt = -1 := by decide
  omega
theorem m1_lt : (-1 : Int32) < 0 := by decide
