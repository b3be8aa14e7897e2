def lvN (le : Nat → Int32) (e : Nat) : Nat := (le e).toNatClampNeg
theorem lvN_eq {le : Nat → Int32} {e : Nat} (h : ∃ v : Nat, v ≤ 6 ∧ le e = nI v) : le e = nI (lvN le e) ∧ lvN le e ≤ 6 := by
  obtain ⟨v, h1, h2⟩ := h
  unfold lvN
  rw [h2, nI_clamp (by omega)]
  exact ⟨rfl, h1⟩
def dB (lv h D : Nat → Nat) (l : Nat) : Nat → Nat
  | 0 => 0
  | i + 1 => if lv (h i) < l then D i + 1 else dB lv h D l i
def Dt (lv h : Nat → Nat) : Nat → Nat → Nat
  | 0 => fun _ => 0
  | k + 1 => up (Dt lv h k) k (dB lv h (Dt lv h k) (lv (h k)) k)
theorem dB_le {lv h D : Nat → Nat} {l : Nat} (hD : ∀ i, D i ≤ i) : ∀ i, dB lv h D l i ≤ i := by
  intro i
  induction i with
  | zero => exact Nat.le_refl _
  | succ i ih =>
    rw [dB]
    by_cases g : lv (h i) < l
    · rw [if_pos g]; have := hD i; omega
    · rw [if_neg g]; omega
theorem Dt_le (lv h : Nat → Nat) : ∀ k i, Dt lv h k i ≤ i := by
  intro k
  induction k with
  | zero => intro i; exact Nat.zero_le _
  | succ k ih =>
    intro i
    rw [Dt]
    by_cases g : i = k
    · rw [g, up_s]; exact dB_le ih k
    · rw [up_n g]; exact ih i
theorem x2_depth {N : Nat} {σ : Sg} {lv h D : Nat → Nat} {l k : Nat} (hl : l ≤ 6) (hk : k ≤ 60) (hlv : ∀ i, i < k → lv (h i) ≤ 6) (hD : ∀ i, D i ≤ i) (hA : ∀ i, i < k → σ 18 i = nI (lv (h i)) ∧ σ 19 i = nI (D i)) : ∀ i n, i ≤ k → i < n → f_X2_depthBehind_7 N (nI l) (fun σ8 => some (0, σ8)) n (nI i + (-1)) σ = some (nI (dB lv h D l i), σ) := by
  intro i
  induction i with
  | zero =>
    intro n _ hn
    obtain ⟨n, rfl⟩ : ∃ k, n = k + 1 := ⟨n - 1, by omega⟩
    rw [f_X2_depthBehind_7, if_pos (by decide)]
    rfl
  | succ i ih =>
    intro n hi hn
    obtain ⟨n, rfl⟩ : ∃ k, n = k + 1 := ⟨n - 1, by omega⟩
    have h1 := hlv i (by omega)
    rw [nI_dec, f_X2_depthBehind_7, if_neg (nI_pos (by omega)), rdA_eq _ i rfl (by omega) (by decide), (hA i (by omega)).1, dB]
    by_cases g : lv (h i) < l
    · rw [if_neg (by rw [leN (by omega) (by omega)]; omega), rdA_eq _ i rfl (by omega) (by decide), (hA i (by omega)).2, if_pos g, nI_1]
    · rw [if_pos (by rw [leN (by omega) (by omega)]; omega), lt_eq, if_neg g]
      exact ih n (by omega) (by omega)
theorem x8_depth {N : Nat} {σ : Sg} {lv h D : Nat → Nat} {x : Int32} {e k : Nat} (he : e < 60) (hle : ∀ e, e < 60 → σ 37 e = nI (lv e) ∧ lv e ≤ 6) (hk : k ≤ 60) (hh : ∀ i, i < k → h i < 60) (hD : ∀ i, D i ≤ i) (hA : ∀ i, i < k → σ 51 i = nI (h i) ∧ σ 52 i = nI (D i)) (K : Int32 → Sg → Option (Int32 × Sg)) : ∀ i n, i ≤ k → i + 1 < n → f_X8_go_208 N x (nI e) K n 0 (nI i + (-1)) σ = K (nI (dB lv h D (lv e) i)) σ := by
  intro i
  induction i with
  | zero =>
    intro n _ hn
    obtain ⟨n, rfl⟩ : ∃ k, n = k + 1 := ⟨n - 1, by omega⟩
    rw [f_X8_go_208, if_pos (by decide)]
    rfl
  | succ i ih =>
    intro n hi hn
    obtain ⟨n, rfl⟩ : ∃ k, n = k + 2 := ⟨n - 2, by omega⟩
    have h1 := hh i (by omega)
    have h2 := hle _ h1
    have h3 := hle e he
    rw [nI_dec, f_X8_go_208, if_neg (nI_pos (by omega)), if_pos rfl, rdA_eq _ i rfl (by omega) (by decide), (hA i (by omega)).1, rdA_eq _ (h i) rfl h1 (by decide), h2.1, rdA_eq _ e rfl he (by decide), h3.1, dB]
    by_cases g : lv (h i) < lv e
    · have := hD i
      rw [if_neg (by rw [leN (by omega) (by omega)]; omega), rdA_eq _ i rfl (by omega) (by decide), (hA i (by omega)).2, if_pos g, nI_1, lt_eq, lt_eq, f_X8_go_208, if_neg (nI_ne0 (by omega) (by omega))]
      by_cases g2 : nI i + (-1) < 0
      · rw [if_pos g2]
      · rw [if_neg g2]
    · rw [if_pos (by rw [leN (by omega) (by omega)]; omega), lt_eq, if_neg g]
      exact ih (n + 1) (by omega) (by omega)
def hds (m ro le : Nat → Int32) : List Nat → List Nat
  | [] => []
  | x :: R => if le x ≠ 0 ∧ std m (ro x) = 2 then x :: hds m ro le R else hds m ro le R
theorem hds_le (m ro le : Nat → Int32) : ∀ R, (hds m ro le R).length ≤ R.length := by
  intro R
  induction R with
  | nil => exact Nat.le_refl _
  | cons x R ih =>
    rw [hds]
    by_cases g : le x ≠ 0 ∧ std m (ro x) = 2
    · rw [if_pos g, List.length_cons, List.length_cons]; omega
    · rw [if_neg g, List.length_cons]; omega
theorem hds_mem {m ro le : Nat → Int32} {x : Nat} : ∀ {R}, x ∈ hds m ro le R → x ∈ R := by
  intro R
  induction R with
  | nil => intro h; exact h
  | cons y R ih =>
    intro h
    rw [hds] at h
    by_cases g : le y ≠ 0 ∧ std m (ro y) = 2
    · rw [if_pos g] at h
      rcases List.mem_cons.mp h with h | h
      · rw [h]; exact List.mem_cons_self ..
      · exact List.mem_cons_of_mem _ (ih h)
    · rw [if_neg g] at h; exact List.mem_cons_of_mem _ (ih h)
def HC (τ : Sg) (lv h : Nat → Nat) (k : Nat) : Prop := τ 16 3 = nI k ∧ ∀ i, i < k → τ 17 i = nI (h i) ∧ τ 18 i = nI (lv (h i)) ∧ τ 19 i = nI (Dt lv h k i)
def HR (τ : Sg) (lv h : Nat → Nat) (k : Nat) : Prop := τ 35 22 = nI k ∧ ∀ i, i < k → τ 51 i = nI (h i) ∧ τ 52 i = nI (Dt lv h k i)
theorem x7_heads {N : Nat} (hN9 : 200 ≤ N) {ne nE : Nat} (hne : ne ≤ 60) (hnE : nE ≤ 60) {h : Nat → Nat} {m ro le : Nat → Int32} (hM : gM m) (hr : ∀ e, e < 60 → okR (ro e)) (hle : ∀ e, e < 60 → le e = nI (lvN le e) ∧ lvN le e ≤ 6) (K : Sg → Option (Int32 × Sg)) : ∀ (R : List Nat) (i k fuel : Nat) (τ : Sg), (∀ i', i' < R.length → τ 10 (i + i') = nI (gl R i')) → (∀ x, x ∈ R → x < ne) → i + R.length = nE → τ 9 3 = nI nE → τ 3 6 = nI ne → τ 2 = m → τ 4 = ro → τ 26 = le → (∀ i', i' < (hds m ro le R).length → h (k + i') = gl (hds m ro le R) i') → (∀ i', i' < k → h i' < 60) → k ≤ i → HC τ (lvN le) h k → R.length < fuel → ∃ τ', f_X7_gatherHeadings_17 N K fuel (nI i) τ = K τ' ∧ HC τ' (lvN le) h (k + (hds m ro le R).length) ∧ ∀ c, c ≠ 16 → c ≠ 17 → c ≠ 18 → c ≠ 19 → τ' c = τ c := by
  intro R
  induction R with
  | nil =>
    intro i k fuel τ h10 hx hi h93 h36 h2 h4 h26 hh hh2 hki hC hf
    obtain ⟨fuel, rfl⟩ : ∃ k, fuel = k + 1 := ⟨fuel - 1, by omega⟩
    rw [List.length_nil] at hi
    refine ⟨τ, ?_, hC, fun c _ _ _ _ => rfl⟩
    rw [f_X7_gatherHeadings_17, lt_eq, h93, if_pos (nI_le (by omega) (by omega))]
  | cons x R ih =>
    intro i k fuel τ h10 hx hi h93 h36 h2 h4 h26 hh hh2 hki hC hf
    obtain ⟨fuel, rfl⟩ : ∃ k, fuel = k + 1 := ⟨fuel - 1, by omega⟩
    rw [List.length_cons] at hi hf
    have hxn := hx x (List.mem_cons_self ..)
    have hx0 : τ 10 i = nI x := by have := h10 0 (by rw [List.length_cons]; omega); rw [gl_0] at this; exact this
    have h10' : ∀ i', i' < R.length → τ 10 (i + 1 + i') = nI (gl R i') := fun i' hi' => by
      have := h10 (i' + 1) (by rw [List.length_cons]; omega)
      rw [gl_s] at this
      rw [show i + 1 + i' = i + (i' + 1) by omega]
      exact this
    have hx' : ∀ y, y ∈ R → y < ne := fun y hy => hx y (List.mem_cons_of_mem _ hy)
    rw [f_X7_gatherHeadings_17, lt_eq, h93, if_neg (nI_ge (by omega) (by omega)), rdA_v i (nI x) rfl (by omega) (by decide) hx0, rdA_v x (le x) rfl (by omega) (by decide) (by rw [h26])]
    by_cases g : le x ≠ 0 ∧ std m (ro x) = 2
    · have eH : hds m ro le (x :: R) = x :: hds m ro le R := by rw [hds, if_pos g]
      rw [eH] at hh ⊢
      have hk0 : h k = x := by have := hh 0 (by rw [List.length_cons]; omega); rw [gl_0] at this; exact this
      have hlx := hle x (by omega)
      rw [if_neg g.1, x6_std (by omega) h36 hne hxn (by rw [h2]; exact hM) (by rw [h4]; exact hr x (by omega)), cI_eq, if_pos (by rw [h2, h4]; exact g.2), rdA_v x (nI (lvN le x)) rfl (by omega) (by decide) (by rw [h26]; exact hlx.1), f_X2_append, lt_eq, hC.1, if_neg (by rw [show (60 : Int32) = nI 60 from rfl, leN (by decide) (by omega)]; omega), lt_eq, wrA_eq _ _ _ k rfl (by omega) (by decide), lt_eq, wrA_eq _ _ _ k (by exact hC.1) (by omega) (by decide), lt_eq, f_X2_depthBehind, lt_eq, lt_eq]
      rw [show ss (ss τ 17 k (nI x)) 18 k (nI (lvN le x)) 16 3 = nI k from hC.1, Int32.sub_eq_add_neg]
      rw [x2_depth (σ := ss (ss τ 17 k (nI x)) 18 k (nI (lvN le x))) (lv := lvN le) (h := h) (D := Dt (lvN le) h k) (k := k) hlx.2 (by omega) (fun i' hi' => (hle _ (hh2 i' hi')).2) (Dt_le _ _ k) (fun i' hi' => ⟨by
        show upd (τ 18) k (nI (lvN le x)) i' = _
        rw [upd_n (by omega)]; exact (hC.2 i' hi').2.1, (hC.2 i' hi').2.2⟩) k N (by omega) (by omega), cI_eq, wrA_eq _ _ _ k rfl (by omega) (by decide), lt_eq, st_eq, cI_eq, lt_eq, nI_1]
      have hC' : HC (ss (ss (ss (ss τ 17 k (nI x)) 18 k (nI (lvN le x))) 19 k (nI (dB (lvN le) h (Dt (lvN le) h k) (lvN le x) k))) 16 3 (ss (ss (ss τ 17 k (nI x)) 18 k (nI (lvN le x))) 19 k (nI (dB (lvN le) h (Dt (lvN le) h k) (lvN le x) k)) 16 3 + 1)) (lvN le) h (k + 1) := by
        refine ⟨?_, fun i' hi' => ?_⟩
        · show τ 16 3 + 1 = nI (k + 1)
          rw [hC.1, nI_1]
        · show upd (τ 17) k (nI x) i' = _ ∧ upd (τ 18) k (nI (lvN le x)) i' = _ ∧ upd (τ 19) k (nI (dB (lvN le) h (Dt (lvN le) h k) (lvN le x) k)) i' = _
          by_cases e1 : i' = k
          · subst e1
            rw [upd_s, upd_s, upd_s, hk0, Dt, up_s, hk0]
            exact ⟨rfl, rfl, rfl⟩
          · rw [upd_n e1, upd_n e1, upd_n e1, Dt, up_n e1]
            exact hC.2 i' (by omega)
      obtain ⟨τ', t1, t2, t3⟩ := ih (i + 1) (k + 1) fuel (ss (ss (ss (ss τ 17 k (nI x)) 18 k (nI (lvN le x))) 19 k (nI (dB (lvN le) h (Dt (lvN le) h k) (lvN le x) k))) 16 3 (ss (ss (ss τ 17 k (nI x)) 18 k (nI (lvN le x))) 19 k (nI (dB (lvN le) h (Dt (lvN le) h k) (lvN le x) k)) 16 3 + 1)) h10' hx' (by omega) h93 h36 h2 h4 h26 (fun i' hi' => by
        have := hh (i' + 1) (by rw [List.length_cons]; omega)
        rw [gl_s] at this
        rw [show k + 1 + i' = k + (i' + 1) by omega]
        exact this) (fun i' hi' => by
        by_cases e1 : i' = k
        · rw [e1, hk0]; omega
        · exact hh2 i' (by omega)) (by omega) hC' (by omega)
      refine ⟨τ', t1, by rw [List.length_cons, show k + ((hds m ro le R).length + 1) = k + 1 + (hds m ro le R).length by omega]; exact t2, fun c c1 c2 c3 c4 => ?_⟩
      rw [t3 c c1 c2 c3 c4, ss_c c1, ss_c c4, ss_c c3, ss_c c2]
    · have eH : hds m ro le (x :: R) = hds m ro le R := by rw [hds, if_neg g]
      rw [eH] at hh ⊢
      have fin := ih (i + 1) k fuel τ h10' hx' (by omega) h93 h36 h2 h4 h26 hh hh2 (by omega) hC (by omega)
      by_cases g0 : le x = 0
      · rw [if_pos g0, lt_eq, nI_1]; exact fin
      · rw [if_neg g0, x6_std (by omega) h36 hne hxn (by rw [h2]; exact hM) (by rw [h4]; exact hr x (by omega)), cI_eq, if_neg (by rw [h2, h4]; exact fun g1 => g ⟨g0, g1⟩), lt_eq, nI_1]
        exact fin
def eln : List Nat → List Nat
  | [] => []
  | x :: R => if x < 1000 then x :: eln R else eln R
theorem eln_map (kn : Nat → Nat) : ∀ L : List Nat, eln (L.map kn) = els kn L := by
  intro L
  induction L with
  | nil => rfl
  | cons t L ih =>
    rw [List.map_cons, eln, els]
    by_cases g : kn t < 1000
    · rw [if_pos g, if_pos g, ih]
    · rw [if_neg g, if_neg g, ih]
theorem x8_heads {N : Nat} (hN9 : 200 ≤ N) {nE : Nat} (hnE : nE ≤ 160) {h : Nat → Nat} {m ro le : Nat → Int32} (hM : gM m) (hr : ∀ e, e < 60 → okR (ro e)) (hle : ∀ e, e < 60 → le e = nI (lvN le e) ∧ lvN le e ≤ 6) (K : Sg → Option (Int32 × Sg)) : ∀ (R : List Nat) (i k fuel : Nat) (τ : Sg), (∀ i', i' < R.length → τ 47 (i + i') = nI (gl R i')) → (∀ x, x ∈ R → x < 60 ∨ (1000 ≤ x ∧ x < 1200)) → i + R.length = nE → τ 35 17 = nI nE → τ 41 = m → τ 36 = ro → τ 37 = le → (∀ i', i' < (hds m ro le (eln R)).length → h (k + i') = gl (hds m ro le (eln R)) i') → (∀ i', i' < k → h i' < 60) → k + (hds m ro le (eln R)).length ≤ 60 → HR τ (lvN le) h k → R.length < fuel → ∃ τ', f_X8_go_157 N K fuel (nI i) τ = K τ' ∧ HR τ' (lvN le) h (k + (hds m ro le (eln R)).length) ∧ (∀ i, i ≠ 22 → τ' 35 i = τ 35 i) ∧ ∀ c, c ≠ 35 → c ≠ 51 → c ≠ 52 → τ' c = τ c := by
  intro R
  induction R with
  | nil =>
    intro i k fuel τ h47 hx hi h17 h41 h36 h37 hh hh2 hk60 hC hf
    obtain ⟨fuel, rfl⟩ : ∃ k, fuel = k + 1 := ⟨fuel - 1, by omega⟩
    rw [List.length_nil] at hi
    refine ⟨τ, ?_, hC, fun i _ => rfl, fun c _ _ _ => rfl⟩
    rw [f_X8_go_157, lt_eq, h17, if_pos (nI_le (by omega) (by omega))]
  | cons x R ih =>
    intro i k fuel τ h47 hx hi h17 h41 h36 h37 hh hh2 hk60 hC hf
    obtain ⟨fuel, rfl⟩ : ∃ k, fuel = k + 1 := ⟨fuel - 1, by omega⟩
    rw [List.length_cons] at hi hf
    have hxn := hx x (List.mem_cons_self ..)
    have hx0 : τ 47 i = nI x := by have := h47 0 (by rw [List.length_cons]; omega); rw [gl_0] at this; exact this
    have h47' : ∀ i', i' < R.length → τ 47 (i + 1 + i') = nI (gl R i') := fun i' hi' => by
      have := h47 (i' + 1) (by rw [List.length_cons]; omega)
      rw [gl_s] at this
      rw [show i + 1 + i' = i + (i' + 1) by omega]
      exact this
    have hx' : ∀ y, y ∈ R → y < 60 ∨ (1000 ≤ y ∧ y < 1200) := fun y hy => hx y (List.mem_cons_of_mem _ hy)
    rw [f_X8_go_157, lt_eq, h17, if_neg (nI_ge (by omega) (by omega)), rdA_v i (nI x) rfl (by omega) (by decide) hx0]
    rcases hxn with hxn | hxn
    · have eE : eln (x :: R) = x :: eln R := by rw [eln, if_pos (by omega)]
      rw [if_neg (by rw [show (1000 : Int32) = nI 1000 from rfl, leN (by decide) (by omega)]; omega), x8_is (by omega) hxn (by rw [h41]; exact hM) (by rw [h36]; exact hr x hxn) 2, cI_eq, h41, h36]
      rw [eE] at hh hk60 ⊢
      have hlx := hle x hxn
      by_cases g : le x ≠ 0 ∧ std m (ro x) = 2
      · have eH : hds m ro le (x :: eln R) = x :: hds m ro le (eln R) := by rw [hds, if_pos g]
        rw [eH] at hh hk60 ⊢
        rw [List.length_cons] at hk60
        have hk0 : h k = x := by have := hh 0 (by rw [List.length_cons]; omega); rw [gl_0] at this; exact this
        have hl0 : lvN le x ≠ 0 := fun e0 => g.1 (by rw [hlx.1, e0]; rfl)
        rw [if_pos g.2, if_neg (by decide), rdA_v x (nI (lvN le x)) rfl (by omega) (by decide) (by rw [h37]; exact hlx.1), if_neg (nI_nle (by omega) (by omega)), lt_eq, lt_eq, hC.1, Int32.sub_eq_add_neg, x8_depth (lv := lvN le) (h := h) (D := Dt (lvN le) h k) (k := k) hxn (by rw [h37]; exact hle) (by omega) hh2 (Dt_le _ _ k) (fun i' hi' => hC.2 i' hi') _ k N (by omega) (by omega), lt_eq, wrA_eq _ _ _ k (by exact hC.1) (by omega) (by decide), lt_eq, wrA_eq _ _ _ k (by exact hC.1) (by omega) (by decide), lt_eq, st_eq, lt_eq, nI_1]
        have hC' : HR (ss (ss (ss τ 51 k (nI x)) 52 k (nI (dB (lvN le) h (Dt (lvN le) h k) (lvN le x) k))) 35 22 (ss (ss τ 51 k (nI x)) 52 k (nI (dB (lvN le) h (Dt (lvN le) h k) (lvN le x) k)) 35 22 + 1)) (lvN le) h (k + 1) := by
          refine ⟨?_, fun i' hi' => ?_⟩
          · show τ 35 22 + 1 = nI (k + 1)
            rw [hC.1, nI_1]
          · show upd (τ 51) k (nI x) i' = _ ∧ upd (τ 52) k (nI (dB (lvN le) h (Dt (lvN le) h k) (lvN le x) k)) i' = _
            by_cases e1 : i' = k
            · subst e1
              rw [upd_s, upd_s, hk0, Dt, up_s, hk0]
              exact ⟨rfl, rfl⟩
            · rw [upd_n e1, upd_n e1, Dt, up_n e1]
              exact hC.2 i' (by omega)
        obtain ⟨τ', t1, t2, t4, t3⟩ := ih (i + 1) (k + 1) fuel (ss (ss (ss τ 51 k (nI x)) 52 k (nI (dB (lvN le) h (Dt (lvN le) h k) (lvN le x) k))) 35 22 (ss (ss τ 51 k (nI x)) 52 k (nI (dB (lvN le) h (Dt (lvN le) h k) (lvN le x) k)) 35 22 + 1)) h47' hx' (by omega) h17 h41 h36 h37 (fun i' hi' => by
          have := hh (i' + 1) (by rw [List.length_cons]; omega)
          rw [gl_s] at this
          rw [show k + 1 + i' = k + (i' + 1) by omega]
          exact this) (fun i' hi' => by
          by_cases e1 : i' = k
          · rw [e1, hk0]; omega
          · exact hh2 i' (by omega)) (by omega) hC' (by omega)
        refine ⟨τ', t1, by rw [List.length_cons, show k + ((hds m ro le (eln R)).length + 1) = k + 1 + (hds m ro le (eln R)).length by omega]; exact t2, fun i' hi' => ?_, fun c c1 c2 c3 => ?_⟩
        · rw [t4 i' hi']
          show upd (τ 35) 22 _ i' = _
          rw [upd_n hi']
        · rw [t3 c c1 c2 c3, ss_c c1, ss_c c3, ss_c c2]
      · have eH : hds m ro le (x :: eln R) = hds m ro le (eln R) := by rw [hds, if_neg g]
        rw [eH] at hh hk60 ⊢
        have fin := ih (i + 1) k fuel τ h47' hx' (by omega) h17 h41 h36 h37 hh hh2 hk60 hC (by omega)
        by_cases g2 : std m (ro x) = 2
        · have g0 : le x = 0 := Classical.not_not.mp (fun g9 => g ⟨g9, g2⟩)
          rw [if_pos g2, if_neg (by decide), rdA_v x 0 rfl (by omega) (by decide) (by rw [h37]; exact g0), if_pos (by decide), lt_eq, nI_1]
          exact fin
        · rw [if_neg g2, if_pos rfl, lt_eq, nI_1]; exact fin
    · have eE : eln (x :: R) = eln R := by rw [eln, if_neg (by omega)]
      rw [if_pos (by rw [show (1000 : Int32) = nI 1000 from rfl, leN (by decide) (by omega)]; omega), lt_eq, nI_1]
      rw [eE] at hh hk60 ⊢
      exact ih (i + 1) k fuel τ h47' hx' (by omega) h17 h41 h36 h37 hh hh2 hk60 hC (by omega)
