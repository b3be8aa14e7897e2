theorem fb_holes : ∀ (m n : Nat) (f : Nat → Nat), (∀ i, i < n → f i < m) → (∀ i j, i < j → j < n → f i ≠ f j) → n ≤ m := by
  intro m
  induction m with
  | zero =>
    intro n f h1 _
    rcases Nat.eq_zero_or_pos n with h | h
    · omega
    · exact absurd (h1 0 h) (Nat.not_lt_zero _)
  | succ m ih =>
    intro n f h1 h2
    by_cases hx : ∃ i, i < n ∧ f i = m
    · obtain ⟨a, ha, hfa⟩ := hx
      have hg := ih (n - 1) (fun i => if i < a then f i else f (i + 1)) (by
        intro i hi
        by_cases q : i < a
        · simp only [if_pos q]
          have b1 := h1 i (by omega)
          have b2 := h2 i a q ha
          omega
        · simp only [if_neg q]
          have b1 := h1 (i + 1) (by omega)
          have b2 := h2 a (i + 1) (by omega) (by omega)
          omega) (by
        intro i j hij hj
        by_cases q : i < a
        · by_cases r : j < a
          · simp only [if_pos q, if_pos r]
            exact h2 i j hij (by omega)
          · simp only [if_pos q, if_neg r]
            exact h2 i (j + 1) (by omega) (by omega)
        · have r : ¬ j < a := by omega
          simp only [if_neg q, if_neg r]
          exact h2 (i + 1) (j + 1) (by omega) (by omega))
      omega
    · have hg := ih n f (fun i hi => by
        have b1 := h1 i hi
        have b2 : f i ≠ m := fun e => hx ⟨i, hi, e⟩
        omega) h2
      omega
/-- two of them in one place -/
theorem fb_twice {m n : Nat} {f : Nat → Nat} (h : ∀ i, i < n → f i < m) (hm : m < n) : ∃ i j, i < j ∧ j < n ∧ f i = f j := by
  refine Classical.byContradiction fun hx => ?_
  have := fb_holes m n f h (fun i j hij hj e => hx ⟨i, j, hij, hj, e⟩)
  omega
/-! ===== roles and their maps ===== -/
theorem ownN {k : Nat} (h : k < 20) : own (nI (100 + k)) := by
  refine ⟨?_, ?_⟩
  · rw [show (100 : Int32) = nI 100 from rfl, leN (by decide) (by omega)]; omega
  · rw [show (120 : Int32) = nI 120 from rfl, ltN (by omega) (by decide)]; omega
theorem own_ok {r : Int32} (hr : okR r) (h : 100 ≤ r) : ∃ k : Nat, k < 20 ∧ r = nI (100 + k) := by
  rcases hr with rfl | ⟨k, rfl, hk | hk⟩
  · exact absurd h (by decide)
  · rw [show (100 : Int32) = nI 100 from rfl, leN (by decide) (by omega)] at h; omega
  · exact ⟨k - 100, by omega, by congr 1; omega⟩
theorem idx_ok {k : Nat} (h : k < 20) : nI (100 + k) - 100 = nI k := by
  rw [show (100 : Int32) = nI 100 from rfl, pk_sub (by omega)]; congr 1; omega
theorem stp_own (m : Nat → Int32) {k : Nat} (h : k < 20) : stp m (nI (100 + k)) = m k := by
  unfold stp
  rw [if_pos (ownN h).1, idx_ok h, nI_clamp (by omega)]
theorem stp_non (m : Nat → Int32) {r : Int32} (h : ¬ 100 ≤ r) : stp m r = r := by unfold stp; rw [if_neg h]
theorem itr_non (m : Nat → Int32) {r : Int32} (h : ¬ 100 ≤ r) : ∀ n, itr m n r = r
  | 0 => rfl
  | n + 1 => by rw [itr, stp_non m h]; exact itr_non m h n
theorem itr_add (m : Nat → Int32) : ∀ (a b : Nat) (r : Int32), itr m (a + b) r = itr m b (itr m a r)
  | 0, b, r => by rw [Nat.zero_add]; rfl
  | a + 1, b, r => by rw [show a + 1 + b = (a + b) + 1 by omega, itr, itr, itr_add m a b]
theorem ok_own {r : Int32} (hr : okR r) : own r ↔ 100 ≤ r := by
  constructor
  · exact fun h => h.1
  · intro h
    obtain ⟨k, hk, rfl⟩ := own_ok hr h
    exact ownN hk
theorem ok_stp {m : Nat → Int32} (hm : ∀ k, k < 20 → okR (m k)) {r : Int32} (hr : okR r) : okR (stp m r) := by
  by_cases h : 100 ≤ r
  · obtain ⟨k, hk, rfl⟩ := own_ok hr h
    rw [stp_own m hk]; exact hm k hk
  · rw [stp_non m h]; exact hr
theorem ok_itr {m : Nat → Int32} (hm : ∀ k, k < 20 → okR (m k)) : ∀ (n : Nat) {r : Int32}, okR r → okR (itr m n r)
  | 0, _, hr => hr
  | n + 1, _, hr => by rw [itr]; exact ok_itr hm n (ok_stp hm hr)
theorem itr_out {m : Nat → Int32} (hM : gM m) {r : Int32} (hr : okR r) : ¬ own (itr m 20 r) := by
  by_cases h : 100 ≤ r
  · obtain ⟨k, hk, rfl⟩ := own_ok hr h
    exact hM.2 k hk
  · rw [itr_non m h]; exact fun g => h g.1
theorem itr_stay {m : Nat → Int32} (hm : ∀ k, k < 20 → okR (m k)) {r : Int32} (hr : okR r) {a b : Nat} (hab : a ≤ b) (h : ¬ own (itr m a r)) : itr m b r = itr m a r := by
  obtain ⟨d, rfl⟩ : ∃ d, b = a + d := ⟨b - a, by omega⟩
  rw [itr_add, itr_non]
  exact fun g => h ((ok_own (ok_itr hm a hr)).mpr g)
/-- a way that ends at all ends within twenty steps -/
theorem itr_20 {m : Nat → Int32} (hm : ∀ k, k < 20 → okR (m k)) {r : Int32} (hr : okR r) {n : Nat} (h : ¬ own (itr m n r)) : ¬ own (itr m 20 r) := by
  intro h20
  have hall : ∀ t, t < 21 → own (itr m t r) := by
    intro t ht
    by_cases g : own (itr m t r)
    · exact g
    · rw [itr_stay hm hr (by omega : t ≤ 20) g] at h20
      exact absurd h20 g
  have hex : ∀ t, ∃ k : Nat, t < 21 → k < 20 ∧ itr m t r = nI (100 + k) := by
    intro t
    by_cases ht : t < 21
    · obtain ⟨k, hk, e⟩ := own_ok (ok_itr hm t hr) (hall t ht).1
      exact ⟨k, fun _ => ⟨hk, e⟩⟩
    · exact ⟨0, fun g => absurd g ht⟩
  obtain ⟨i, j, hij, hj, e⟩ := fb_twice (m := 20) (n := 21) (f := fun t => (hex t).choose) (fun t ht => ((hex t).choose_spec ht).1) (by decide)
  have ei : itr m i r = itr m j r := by
    rw [((hex i).choose_spec (by omega)).2, ((hex j).choose_spec hj).2]
    rw [show (hex i).choose = (hex j).choose from e]
  have hper : ∀ q, itr m (i + q * (j - i)) r = itr m i r := by
    intro q
    induction q with
    | zero => simp
    | succ q ih =>
      rw [show i + (q + 1) * (j - i) = (i + q * (j - i)) + (j - i) by rw [Nat.succ_mul]; omega, itr_add, ih, ← itr_add, show i + (j - i) = j by omega, ei]
  have hbig : n ≤ i + n * (j - i) := by
    have : n * 1 ≤ n * (j - i) := Nat.mul_le_mul_left n (by omega)
    omega
  have h1 := hper n
  rw [itr_stay hm hr hbig h] at h1
  exact h (by rw [h1]; exact hall i (by omega))
/-- the standard of a role -/
def std (m : Nat → Int32) (r : Int32) : Int32 := itr m 20 r
theorem le99 {r : Int32} : r ≤ 99 ↔ ¬ 100 ≤ r := by
  rw [Int32.le_iff_toInt_le, Int32.le_iff_toInt_le]
  have e1 : (99 : Int32).toInt = 99 := by decide
  have e2 : (100 : Int32).toInt = 100 := by decide
  omega
theorem x8_std_loop {N : Nat} {σ : Sg} {m : Nat → Int32} (h41 : σ 41 = m) (hm : ∀ k, k < 20 → okR (m k)) (K : Int32 → Sg → Option (Int32 × Sg)) : ∀ (s n : Nat) (r : Int32), okR r → ¬ own (itr m s r) → s < n → f_X8_standardOf_2 N K n r σ = K (itr m s r) σ := by
  intro s
  induction s with
  | zero =>
    intro n r hr h hn
    obtain ⟨n, rfl⟩ : ∃ k, n = k + 1 := ⟨n - 1, by omega⟩
    rw [f_X8_standardOf_2, if_pos (le99.mpr (fun g => h ((ok_own hr).mpr g)))]
    rfl
  | succ s ih =>
    intro n r hr h hn
    obtain ⟨n, rfl⟩ : ∃ k, n = k + 1 := ⟨n - 1, by omega⟩
    by_cases g : 100 ≤ r
    · obtain ⟨k, hk, rfl⟩ := own_ok hr g
      rw [f_X8_standardOf_2, if_neg (fun g9 => le99.mp g9 g), idx_ok hk, rdA_eq _ k rfl hk (by decide), h41]
      rw [itr, stp_own m hk] at h ⊢
      exact ih n (m k) (hm k hk) h (by omega)
    · rw [f_X8_standardOf_2, if_pos (le99.mpr g), itr_non m g]
theorem x8_std {N : Nat} (hN : 20 < N) {σ : Sg} (hM : gM (σ 41)) {r : Int32} (hr : okR r) : f_X8_standardOf N r σ = some (std (σ 41) r, σ) := by
  rw [f_X8_standardOf, x8_std_loop rfl hM.1 _ 20 N r hr (itr_out hM hr) hN]
  rfl
theorem isOwn_y {N : Nat} {σ : Sg} {k : Nat} (hk : k < 20) : f_X4_isOwn N (nI (100 + k)) σ = some (1, σ) := by
  unfold f_X4_isOwn
  rw [if_neg, if_neg]
  · rw [show (120 : Int32) = nI 120 from rfl, leN (by decide) (by omega)]; omega
  · rw [show (100 : Int32) = nI 100 from rfl, ltN (by omega) (by decide)]; omega
theorem isOwn_n {N : Nat} {σ : Sg} {r : Int32} (h : ¬ own r) : f_X4_isOwn N r σ = some (0, σ) := by
  unfold f_X4_isOwn
  by_cases h1 : r < 100
  · rw [if_pos h1]
  · rw [if_neg h1, if_pos]
    apply le_of_nlt
    exact fun g => h ⟨le_of_nlt h1, g⟩
theorem x4_std_loop {N : Nat} {σ : Sg} {m : Nat → Int32} (h2 : σ 2 = m) (hm : ∀ k, k < 20 → okR (m k)) (K : Int32 → Sg → Option (Int32 × Sg)) : ∀ (s n c : Nat) (r : Int32), okR r → ¬ own (itr m s r) → c + s ≤ 20 → s < n → f_X4_standardOf_4 N K n r (nI c) σ = K (itr m s r) σ := by
  intro s
  induction s with
  | zero =>
    intro n c r hr h hc hn
    obtain ⟨n, rfl⟩ : ∃ k, n = k + 1 := ⟨n - 1, by omega⟩
    rw [f_X4_standardOf_4]
    by_cases g : (20 : Int32) ≤ nI c
    · rw [if_pos g]; rfl
    · rw [if_neg g, isOwn_n (show ¬ own r from h), cI_eq, if_pos rfl]; rfl
  | succ s ih =>
    intro n c r hr h hc hn
    obtain ⟨n, rfl⟩ : ∃ k, n = k + 1 := ⟨n - 1, by omega⟩
    have g : ¬ (20 : Int32) ≤ nI c := by
      rw [show (20 : Int32) = nI 20 from rfl, leN (by decide) (by omega)]; omega
    by_cases g1 : 100 ≤ r
    · obtain ⟨k, hk, rfl⟩ := own_ok hr g1
      rw [f_X4_standardOf_4, if_neg g, isOwn_y hk, cI_eq, if_neg (by decide), idx_ok hk, rdA_eq _ k rfl hk (by decide), lt_eq, h2, show nI c + 1 = nI (c + 1) from nI_1 c]
      rw [itr, stp_own m hk] at h ⊢
      exact ih n (c + 1) (m k) (hm k hk) h (by omega) (by omega)
    · rw [f_X4_standardOf_4, if_neg g, isOwn_n (fun g9 => g1 g9.1), cI_eq, if_pos rfl, itr_non m g1]
theorem x4_std {N : Nat} (hN : 20 < N) {σ : Sg} (hM : gM (σ 2)) {r : Int32} (hr : okR r) : f_X4_standardOf N r σ = some (std (σ 2) r, σ) := by
  have h := x4_std_loop (N := N) (σ := σ) rfl hM.1 (fun v7 σ8 => cI (f_X4_isOwn N v7 σ8) (fun v9 σ10 => if v9 = 0 then (some (v7, σ10)) else (some ((-1), σ10)))) 20 N 0 r hr (itr_out hM hr) (by decide) hN
  rw [nI_0] at h
  rw [f_X4_standardOf, h, isOwn_n (itr_out hM hr), cI_eq, if_pos rfl]
  rfl
theorem x6_std {N : Nat} (hN : 20 < N) {σ : Sg} {ne e : Nat} (h1 : σ 3 6 = nI ne) (h60 : ne ≤ 60) (he : e < ne) (hM : gM (σ 2)) (hr : okR (σ 4 e)) : f_X6_standardOf N (nI e) σ = some (std (σ 2) (σ 4 e), σ) := by
  rw [f_X6_standardOf, if_neg (nI_pos (by omega)), lt_eq, h1, if_pos (nI_lt he (by omega)), rdA_eq _ e rfl (by omega) (by decide), x4_std hN hM hr, cI_eq]
theorem x8_is {N : Nat} (hN : 20 < N) {σ : Sg} {e : Nat} (he : e < 60) (hM : gM (σ 41)) (hr : okR (σ 36 e)) (w : Int32) : f_X8_is N (nI e) w σ = some (if std (σ 41) (σ 36 e) = w then 1 else 0, σ) := by
  rw [f_X8_is, rdA_eq _ e rfl he (by decide), x8_std hN hM hr, cI_eq]
  by_cases g : std (σ 41) (σ 36 e) = w
  · rw [if_pos g, if_pos g]
  · rw [if_neg g, if_neg g]
/-! whether one role leads to another -/
theorem x4_leads_loop {N : Nat} {σ : Sg} {m : Nat → Int32} (h2 : σ 2 = m) (hm : ∀ k, k < 20 → okR (m k)) {q : Int32} (hq : own q) (K : Int32 → Sg → Option (Int32 × Sg)) : ∀ (s n c : Nat) (r : Int32), okR r → ¬ own (itr m s r) → c + s ≤ 20 → s < n → ∃ y, f_X4_leads_5 N q K n r (nI c) σ = K y σ ∧ (y = q ↔ ∃ t, t ≤ s ∧ itr m t r = q) := by
  intro s
  induction s with
  | zero =>
    intro n c r hr h hc hn
    obtain ⟨n, rfl⟩ : ∃ k, n = k + 1 := ⟨n - 1, by omega⟩
    have hrq : r ≠ q := fun e => h (by rw [show itr m 0 r = r from rfl, e]; exact hq)
    refine ⟨r, ?_, ⟨fun e => absurd e hrq, fun ⟨t, ht, e⟩ => absurd (by rw [show t = 0 by omega] at e; exact e) hrq⟩⟩
    rw [f_X4_leads_5]
    by_cases g : (20 : Int32) ≤ nI c
    · rw [if_pos g]
    · rw [if_neg g, if_neg hrq, isOwn_n (show ¬ own r from h), cI_eq, if_pos rfl]
  | succ s ih =>
    intro n c r hr h hc hn
    obtain ⟨n, rfl⟩ : ∃ k, n = k + 1 := ⟨n - 1, by omega⟩
    have g : ¬ (20 : Int32) ≤ nI c := by
      rw [show (20 : Int32) = nI 20 from rfl, leN (by decide) (by omega)]; omega
    by_cases hrq : r = q
    · refine ⟨r, ?_, ⟨fun _ => ⟨0, by omega, hrq⟩, fun _ => hrq⟩⟩
      rw [f_X4_leads_5, if_neg g, if_pos hrq]
    · by_cases g1 : 100 ≤ r
      · obtain ⟨k, hk, rfl⟩ := own_ok hr g1
        rw [itr, stp_own m hk] at h
        obtain ⟨y, h3, h4⟩ := ih n (c + 1) (m k) (hm k hk) h (by omega) (by omega)
        refine ⟨y, ?_, ?_⟩
        · rw [f_X4_leads_5, if_neg g, if_neg hrq, isOwn_y hk, cI_eq, if_neg (by decide), idx_ok hk, rdA_eq _ k rfl hk (by decide), lt_eq, h2, show nI c + 1 = nI (c + 1) from nI_1 c]
          exact h3
        · rw [h4]
          constructor
          · rintro ⟨t, ht, e⟩
            exact ⟨t + 1, by omega, by rw [itr, stp_own m hk]; exact e⟩
          · rintro ⟨t, ht, e⟩
            match t, e with
            | 0, e => exact absurd e hrq
            | t + 1, e => exact ⟨t, by omega, by rw [itr, stp_own m hk] at e; exact e⟩
      · refine ⟨r, ?_, ⟨fun e => absurd e hrq, fun ⟨t, ht, e⟩ => absurd (by rw [itr_non m g1] at e; exact e) hrq⟩⟩
        rw [f_X4_leads_5, if_neg g, if_neg hrq, isOwn_n (fun g9 => g1 g9.1), cI_eq, if_pos rfl]
def Ld (m : Nat → Int32) (r q : Int32) : Prop := ∃ t, t ≤ 20 ∧ itr m t r = q
theorem x4_leads {N : Nat} (hN : 20 < N) {σ : Sg} (hM : gM (σ 2)) {r q : Int32} (hr : okR r) (hq : own q) : ∃ x : Int32, f_X4_leads N r q σ = some (x, σ) ∧ (x = 0 ↔ ¬ Ld (σ 2) r q) := by
  obtain ⟨y, h1, h2⟩ := x4_leads_loop (N := N) (σ := σ) rfl hM.1 hq (fun v8 σ9 => if v8 = q then (some (1, σ9)) else (some (0, σ9))) 20 N 0 r hr (itr_out hM hr) (by decide) hN
  rw [nI_0] at h1
  rw [f_X4_leads, h1]
  by_cases g : y = q
  · exact ⟨1, by rw [if_pos g], ⟨fun e => absurd e (by decide), fun e => absurd (h2.mp g) e⟩⟩
  · exact ⟨0, by rw [if_neg g], ⟨fun _ e => g (h2.mpr e), fun _ => rfl⟩⟩
theorem x8_leads_loop {N : Nat} {σ : Sg} {m : Nat → Int32} (h41 : σ 41 = m) (hm : ∀ k, k < 20 → okR (m k)) {q : Int32} (hq : own q) (K : Int32 → Sg → Option (Int32 × Sg)) : ∀ (s n : Nat) (r f : Int32), (f = 0 ∨ f = 1) → okR r → ¬ own (itr m s r) → s < n → ∃ f', f_X8_leadsTo_5 N q K n r f σ = K f' σ ∧ (f' = 0 ∨ f' = 1) ∧ (f' = 0 ↔ f = 0 ∧ ¬ ∃ t, t ≤ s ∧ itr m t r = q) := by
  intro s
  induction s with
  | zero =>
    intro n r f hf hr h hn
    obtain ⟨n, rfl⟩ : ∃ k, n = k + 1 := ⟨n - 1, by omega⟩
    have hrq : r ≠ q := fun e => h (by rw [show itr m 0 r = r from rfl, e]; exact hq)
    refine ⟨f, ?_, hf, ⟨fun e => ⟨e, fun ⟨t, ht, e9⟩ => hrq (by rw [show t = 0 by omega] at e9; exact e9)⟩, fun e => e.1⟩⟩
    rw [f_X8_leadsTo_5, if_pos (le99.mpr (fun g => h ((ok_own hr).mpr g)))]
  | succ s ih =>
    intro n r f hf hr h hn
    obtain ⟨n, rfl⟩ : ∃ k, n = k + 1 := ⟨n - 1, by omega⟩
    by_cases g1 : 100 ≤ r
    · obtain ⟨k, hk, rfl⟩ := own_ok hr g1
      have hs : ∀ P : Prop, (P ↔ ∃ t, t ≤ s ∧ itr m t (m k) = q) → ((nI (100 + k) = q ∨ P) ↔ ∃ t, t ≤ s + 1 ∧ itr m t (nI (100 + k)) = q) := by
        intro P hP
        constructor
        · rintro (e | p)
          · exact ⟨0, by omega, e⟩
          · obtain ⟨t, ht, e⟩ := hP.mp p
            exact ⟨t + 1, by omega, by rw [itr, stp_own m hk]; exact e⟩
        · rintro ⟨t, ht, e⟩
          match t, e with
          | 0, e => exact Or.inl e
          | t + 1, e => exact Or.inr (hP.mpr ⟨t, by omega, by rw [itr, stp_own m hk] at e; exact e⟩)
      rw [itr, stp_own m hk] at h
      rw [f_X8_leadsTo_5, if_neg (fun g9 => le99.mp g9 g1), idx_ok hk]
      simp only [rdA_eq _ k rfl hk (by decide : 20 < 2 ^ 31)]
      rw [h41]
      by_cases hf0 : f = 0
      · rw [if_pos hf0]
        by_cases e : nI (100 + k) = q
        · rw [if_pos e]
          obtain ⟨f', h3, h4, h5⟩ := ih n (m k) 1 (Or.inr rfl) (hm k hk) h (by omega)
          refine ⟨f', h3, h4, ⟨fun g9 => absurd (h5.mp g9).1 (by decide), fun g9 => absurd ((hs _ Iff.rfl).mp (Or.inl e)) g9.2⟩⟩
        · rw [if_neg e]
          obtain ⟨f', h3, h4, h5⟩ := ih n (m k) 0 (Or.inl rfl) (hm k hk) h (by omega)
          refine ⟨f', h3, h4, ⟨fun g9 => ⟨hf0, fun g8 => ((hs _ Iff.rfl).mpr g8).elim e (h5.mp g9).2⟩, fun g9 => h5.mpr ⟨rfl, fun g8 => g9.2 ((hs _ Iff.rfl).mp (Or.inr g8))⟩⟩⟩
      · rw [if_neg hf0]
        obtain ⟨f', h3, h4, h5⟩ := ih n (m k) 1 (Or.inr rfl) (hm k hk) h (by omega)
        exact ⟨f', h3, h4, ⟨fun g9 => absurd (h5.mp g9).1 (by decide), fun g9 => absurd g9.1 hf0⟩⟩
    · have hrq : r ≠ q := fun e => g1 (by rw [e]; exact hq.1)
      refine ⟨f, ?_, hf, ⟨fun e => ⟨e, fun ⟨t, ht, e9⟩ => hrq (by rw [itr_non m g1] at e9; exact e9)⟩, fun e => e.1⟩⟩
      rw [f_X8_leadsTo_5, if_pos (le99.mpr g1)]
theorem x8_leads {N : Nat} (hN : 20 < N) {σ : Sg} (hM : gM (σ 41)) {r q : Int32} (hr : okR r) (hq : own q) : ∃ x : Int32, f_X8_leadsTo N r q σ = some (x, σ) ∧ (x = 0 ↔ ¬ Ld (σ 41) r q) := by
  obtain ⟨f', h1, h2, h3⟩ := x8_leads_loop (N := N) (σ := σ) rfl hM.1 hq (fun v7 σ8 => gd (v7 = 0 ∨ v7 = 1) (some (v7, σ8))) 20 N r 0 (Or.inl rfl) hr (itr_out hM hr) hN
  refine ⟨f', ?_, ⟨fun e => (h3.mp e).2, fun e => h3.mpr ⟨rfl, e⟩⟩⟩
  rw [f_X8_leadsTo, h1, gd_eq h2]
/-- a new map that leads not back -/
theorem gM_upd {m : Nat → Int32} (hM : gM m) {k0 : Nat} (hk0 : k0 < 20) {to : Int32} (ht : okR to) (hL : ¬ Ld m to (nI (100 + k0))) : gM (upd m k0 to) := by
  have hm' : ∀ k, k < 20 → okR (upd m k0 to k) := by
    intro k hk
    by_cases e : k = k0
    · subst e; rw [upd_s]; exact ht
    · rw [upd_n e]; exact hM.1 k hk
  have hst : ∀ {r : Int32}, okR r → r ≠ nI (100 + k0) → stp (upd m k0 to) r = stp m r := by
    intro r hr hne
    by_cases g : 100 ≤ r
    · obtain ⟨k, hk, rfl⟩ := own_ok hr g
      rw [stp_own _ hk, stp_own _ hk, upd_n]
      exact fun e => hne (by rw [e])
    · rw [stp_non _ g, stp_non _ g]
  have hnever : ∀ t, itr m t to ≠ nI (100 + k0) := by
    intro t e
    by_cases g : t ≤ 20
    · exact hL ⟨t, g, e⟩
    · have h9 := itr_stay hM.1 ht (by omega : 20 ≤ t) (itr_out hM ht)
      rw [h9] at e
      exact itr_out hM ht (by rw [e]; exact ownN hk0)
  have hsame : ∀ (n : Nat) {r : Int32}, okR r → (∀ t, t < n → itr m t r ≠ nI (100 + k0)) → itr (upd m k0 to) n r = itr m n r := by
    intro n
    induction n with
    | zero => intro r _ _; rfl
    | succ n ih =>
      intro r hr h
      rw [itr, itr, hst hr (h 0 (by omega))]
      exact ih (ok_stp hM.1 hr) (fun t ht9 => h (t + 1) (by omega))
  refine ⟨hm', fun k hk => ?_⟩
  have hr : okR (nI (100 + k)) := Or.inr ⟨100 + k, rfl, Or.inr ⟨by omega, by omega⟩⟩
  by_cases hx : ∃ t, t < 20 ∧ itr m t (nI (100 + k)) = nI (100 + k0)
  · obtain ⟨t0, ⟨h1, h2⟩, h3⟩ := pk_least (fun t => t < 20 ∧ itr m t (nI (100 + k)) = nI (100 + k0)) hx
    have e1 : itr (upd m k0 to) t0 (nI (100 + k)) = nI (100 + k0) := by
      rw [hsame t0 hr (fun t ht9 e => h3 t ht9 ⟨by omega, e⟩)]; exact h2
    have e2 : itr (upd m k0 to) (t0 + (1 + 20)) (nI (100 + k)) = itr m 20 to := by
      rw [itr_add, e1, itr_add]
      show itr (upd m k0 to) 20 (stp (upd m k0 to) (nI (100 + k0))) = _
      rw [stp_own _ hk0, upd_s, hsame 20 ht (fun t _ => hnever t)]
    exact itr_20 hm' hr (n := t0 + (1 + 20)) (by rw [e2]; exact itr_out hM ht)
  · rw [hsame 20 hr (fun t ht9 e => hx ⟨t, ht9, e⟩)]
    exact hM.2 k hk
