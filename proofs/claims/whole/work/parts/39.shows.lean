theorem nI_div20 {a : Nat} (h : a < 2 ^ 31) : nI a / 20 = nI (a / 20) := by
  apply Int32.toInt_inj.mp
  rw [Int32.toInt_div, nI_toInt h, nI_toInt (by omega)]
  have e1 : (20 : Int32).toInt = 20 := by decide
  rw [e1, Int.tdiv_eq_ediv_of_nonneg (by omega)]
  rw [Int.bmod_eq_of_le (by omega) (by omega)]
  omega
theorem place_none {N : Nat} {σ : Sg} {ns c : Nat} {sh : Nat → Nat} (h15 : σ 35 15 = nI ns) (hns : ns ≤ 200) (hs : ∀ j, j < ns → σ 46 j = nI (sh j) ∧ sh j < 200) (hc : c < 200) (K : Int32 → Sg → Option (Int32 × Sg)) : ∀ (n j : Nat) (x : Int32), j ≤ ns → ns - j < n → (∀ i, j ≤ i → i < ns → sh i ≠ c) → f_X8_placeOf_7 N (nI c) K n (nI (cnt sh (c / 20) j)) x (nI j) σ = K x σ := by
  intro n
  induction n with
  | zero => intro j x _ h; exact absurd h (by omega)
  | succ n ih =>
    intro j x hj hn hno
    rw [f_X8_placeOf_7, lt_eq, h15]
    by_cases g : ns ≤ j
    · rw [if_pos (nI_le g (by omega))]
    · have hj2 := hs j (by omega)
      have hc1 : ¬ nI (sh j) = nI c := by
        rw [eqN (by omega) (by omega)]
        exact hno j (by omega) (by omega)
      rw [if_neg (nI_ge (by omega) (by omega)), rdA_eq _ j rfl (by omega) (by decide), hj2.1, nI_div20 (by omega), nI_div20 (by omega)]
      have := ih (j + 1) x (by omega) (by omega) (fun i h1 h2 => hno i (by omega) h2)
      by_cases e : sh j / 20 = c / 20
      · rw [if_pos (by rw [e]), lt_eq, rdA_eq _ j rfl (by omega) (by decide), hj2.1, if_neg hc1, lt_eq, nI_1, nI_1]
        rw [cnt, if_pos e] at this
        exact this
      · rw [if_neg (by rw [eqN (by omega) (by omega)]; exact e), rdA_eq _ j rfl (by omega) (by decide), hj2.1, if_neg hc1, lt_eq, nI_1]
        rw [cnt, if_neg e] at this
        exact this
theorem place_some {N : Nat} {σ : Sg} {ns c t : Nat} {sh : Nat → Nat} (h15 : σ 35 15 = nI ns) (hns : ns ≤ 200) (hs : ∀ j, j < ns → σ 46 j = nI (sh j) ∧ sh j < 200) (hi : ∀ i j, i < j → j < ns → sh i ≠ sh j) (hc : c < 200) (ht : t < ns) (htc : sh t = c) (K : Int32 → Sg → Option (Int32 × Sg)) : ∀ (n j : Nat) (x : Int32), j ≤ t → ns - j < n → f_X8_placeOf_7 N (nI c) K n (nI (cnt sh (c / 20) j)) x (nI j) σ = K (nI (cnt sh (c / 20) t + 1)) σ := by
  intro n
  induction n with
  | zero => intro j x _ h; exact absurd h (by omega)
  | succ n ih =>
    intro j x hj hn
    have hj2 := hs j (by omega)
    rw [f_X8_placeOf_7, lt_eq, h15, if_neg (nI_ge (by omega) (by omega)), rdA_eq _ j rfl (by omega) (by decide), hj2.1, nI_div20 (by omega), nI_div20 (by omega)]
    by_cases ej : j = t
    · subst ej
      have e : sh j / 20 = c / 20 := by rw [htc]
      rw [if_pos (by rw [e]), lt_eq, rdA_eq _ j rfl (by omega) (by decide), hj2.1, if_pos (by rw [htc]), lt_eq, nI_1, nI_1]
      have := place_none (N := N) h15 hns hs hc K n (j + 1) (nI (cnt sh (c / 20) j + 1)) (by omega) (by omega) (fun i h1 h2 h3 => hi j i (by omega) h2 (by rw [h3, htc]))
      rw [cnt, if_pos e] at this
      exact this
    · have hc1 : ¬ nI (sh j) = nI c := by
        rw [eqN (by omega) (by omega), ← htc]
        exact hi j t (by omega) ht
      have := ih (j + 1) x (by omega) (by omega)
      by_cases e : sh j / 20 = c / 20
      · rw [if_pos (by rw [e]), lt_eq, rdA_eq _ j rfl (by omega) (by decide), hj2.1, if_neg hc1, lt_eq, nI_1, nI_1]
        rw [cnt, if_pos e] at this
        exact this
      · rw [if_neg (by rw [eqN (by omega) (by omega)]; exact e), rdA_eq _ j rfl (by omega) (by decide), hj2.1, if_neg hc1, lt_eq, nI_1]
        rw [cnt, if_neg e] at this
        exact this
theorem x8_place_n {N : Nat} (hN9 : 200 < N) {σ : Sg} {ns c : Nat} {sh : Nat → Nat} (h15 : σ 35 15 = nI ns) (hns : ns ≤ 200) (hs : ∀ j, j < ns → σ 46 j = nI (sh j) ∧ sh j < 200) (hc : c < 200) (hno : ∀ i, i < ns → sh i ≠ c) : f_X8_placeOf N (nI c) σ = some (0, σ) := by
  have := place_none (N := N) h15 hns hs hc (fun v14 σ15 => some (v14, σ15)) N 0 0 (by omega) (by omega) (fun i _ h => hno i h)
  exact this
theorem x8_place_y {N : Nat} (hN9 : 200 < N) {σ : Sg} {ns c t : Nat} {sh : Nat → Nat} (h15 : σ 35 15 = nI ns) (hns : ns ≤ 200) (hs : ∀ j, j < ns → σ 46 j = nI (sh j) ∧ sh j < 200) (hi : ∀ i j, i < j → j < ns → sh i ≠ sh j) (hc : c < 200) (ht : t < ns) (htc : sh t = c) : f_X8_placeOf N (nI c) σ = some (nI (cnt sh (c / 20) t + 1), σ) := by
  have := place_some (N := N) h15 hns hs hi hc ht htc (fun v14 σ15 => some (v14, σ15)) N 0 0 (by omega) (by omega)
  exact this
/-- distinct numbers below m -/
theorem pigeon : ∀ (m n : Nat) (f : Nat → Nat), (∀ i, i < n → f i < m) → (∀ i j, i < j → j < n → f i ≠ f j) → n ≤ m := by
  intro m
  induction m with
  | zero =>
    intro n f h1 _
    cases n with
    | zero => exact Nat.le_refl _
    | succ n => exact absurd (h1 0 (by omega)) (by omega)
  | succ m ih =>
    intro n f h1 h2
    by_cases h : ∃ t, t < n ∧ f t = m
    · obtain ⟨t, ht, hm⟩ := h
      have := ih (n - 1) (fun i => if i < t then f i else f (i + 1)) (fun i hi => by
        by_cases g : i < t
        · show (if i < t then f i else f (i + 1)) < m
          rw [if_pos g]
          have := h1 i (by omega)
          have := h2 i t g ht
          omega
        · show (if i < t then f i else f (i + 1)) < m
          rw [if_neg g]
          have := h1 (i + 1) (by omega)
          have := h2 t (i + 1) (by omega) (by omega)
          omega) (fun i j hij hj => by
        show (if i < t then f i else f (i + 1)) ≠ (if j < t then f j else f (j + 1))
        by_cases g : i < t
        · rw [if_pos g]
          by_cases g' : j < t
          · rw [if_pos g']; exact h2 i j hij (by omega)
          · rw [if_neg g']; exact h2 i (j + 1) (by omega) (by omega)
        · rw [if_neg g, if_neg (by omega)]; exact h2 (i + 1) (j + 1) (by omega) (by omega))
      omega
    · have := ih n f (fun i hi => by
        have := h1 i hi
        have : f i ≠ m := fun e => h ⟨i, hi, e⟩
        omega) h2
      omega
theorem cnt_le (sh : Nat → Nat) (p : Nat) : ∀ m, cnt sh p m ≤ m := by
  intro m
  induction m with
  | zero => exact Nat.le_refl _
  | succ m ih => rw [cnt]; split <;> omega
theorem cnt_mono (sh : Nat → Nat) (p : Nat) {a b : Nat} (h : a ≤ b) : cnt sh p a ≤ cnt sh p b := by
  induction b with
  | zero => have : a = 0 := by omega
            rw [this]; exact Nat.le_refl _
  | succ b ih =>
    by_cases e : a = b + 1
    · rw [e]; exact Nat.le_refl _
    · have := ih (by omega)
      rw [cnt]; omega
/-- the t-th mark of page p: the place where it stands -/
theorem cnt_at (sh : Nat → Nat) (p : Nat) : ∀ (m i : Nat), i < cnt sh p m → ∃ t, t < m ∧ sh t / 20 = p ∧ cnt sh p t = i := by
  intro m
  induction m with
  | zero => intro i h; exact absurd h (by show ¬ i < 0; omega)
  | succ m ih =>
    intro i h
    by_cases g : i < cnt sh p m
    · obtain ⟨t, h1, h2, h3⟩ := ih i g
      exact ⟨t, by omega, h2, h3⟩
    · rw [cnt] at h
      by_cases e : sh m / 20 = p
      · rw [if_pos e] at h
        exact ⟨m, by omega, e, by omega⟩
      · rw [if_neg e] at h; omega
theorem cnt_lt {sh : Nat → Nat} {p t m : Nat} (h : t < m) (e : sh t / 20 = p) : cnt sh p t < cnt sh p m := by
  have := cnt_mono sh p (show t + 1 ≤ m by omega)
  rw [cnt, if_pos e] at this
  omega
theorem cnt_pick (sh : Nat → Nat) (p m : Nat) : ∃ f : Nat → Nat, ∀ i, i < cnt sh p m → f i < m ∧ sh (f i) / 20 = p ∧ cnt sh p (f i) = i := by
  refine ⟨fun i => if h : i < cnt sh p m then (cnt_at sh p m i h).choose else 0, fun i hi => ?_⟩
  show (if h : i < cnt sh p m then (cnt_at sh p m i h).choose else 0) < m ∧ sh (if h : i < cnt sh p m then (cnt_at sh p m i h).choose else 0) / 20 = p ∧ cnt sh p (if h : i < cnt sh p m then (cnt_at sh p m i h).choose else 0) = i
  rw [dif_pos hi]
  exact (cnt_at sh p m i hi).choose_spec
theorem cnt_20 {sh : Nat → Nat} {ns : Nat} (hi : ∀ i j, i < j → j < ns → sh i ≠ sh j) (p : Nat) : cnt sh p ns ≤ 20 := by
  obtain ⟨f, hf⟩ := cnt_pick sh p ns
  refine pigeon 20 _ (fun i => sh (f i) - 20 * p) (fun i h => ?_) (fun i j hij hj => ?_)
  · have := hf i h
    show sh (f i) - 20 * p < 20
    omega
  · have h1 := hf i (by omega)
    have h2 := hf j hj
    show sh (f i) - 20 * p ≠ sh (f j) - 20 * p
    have h3 : f i ≠ f j := fun e => by rw [e] at h1; omega
    have h4 : sh (f i) ≠ sh (f j) := by
      rcases Nat.lt_trichotomy (f i) (f j) with g | g | g
      · exact hi _ _ g h2.1
      · exact absurd g h3
      · exact fun e => hi _ _ g h1.1 e.symm
    omega
theorem cnt_up {sh : Nat → Nat} {ns c p : Nat} : ∀ m, m ≤ ns → cnt (up sh ns c) p m = cnt sh p m := by
  intro m
  induction m with
  | zero => intro _; rfl
  | succ m ih => intro h; rw [cnt, cnt, ih (by omega), up_n (by omega)]
theorem gP_add {cd pl ct sw : Nat → Int32} {ns p m : Nat} {sh : Nat → Nat} (hP : gP cd pl ct sw ns sh) (hp : p < 10) (hm : m < 20) (hno : ∀ j, j < ns → sh j ≠ 20 * p + m) : gP (upd cd (20 * p + cnt sh p ns) (nI (20 * p + m))) (upd pl (20 * p + m) (nI (cnt sh p ns))) (upd ct p (nI (cnt sh p ns + 1))) (upd sw ns (nI (20 * p + m))) (ns + 1) (up sh ns (20 * p + m)) := by
  obtain ⟨p1, p2, p3, p4, p5⟩ := hP
  have hq : (20 * p + m) / 20 = p := by omega
  refine ⟨fun j hj => ?_, fun i j hij hj => ?_, fun q hq2 => ?_, fun j hj => ?_, fun c hc h => ?_⟩
  · by_cases e : j = ns
    · subst e; rw [upd_s, up_s]; exact ⟨rfl, by omega⟩
    · rw [upd_n e, up_n e]; exact p1 j (by omega)
  · by_cases e : j = ns
    · subst e; rw [up_s, up_n (by omega)]; exact hno i hij
    · rw [up_n e, up_n (by omega)]; exact p2 i j hij (by omega)
  · rw [cnt, up_s, cnt_up ns (by omega), hq]
    by_cases e : q = p
    · subst e; rw [upd_s, if_pos rfl]
    · rw [upd_n e, if_neg (fun g => e g.symm)]; exact p3 q hq2
  · by_cases e : j = ns
    · subst e
      rw [up_s, hq, cnt_up j (by omega), upd_s, upd_s]
      exact ⟨rfl, rfl⟩
    · have hj' : j < ns := by omega
      rw [up_n e, cnt_up j (by omega), upd_n (hno j hj'), upd_n]
      · exact p4 j hj'
      · have h1 := cnt_lt (sh := sh) hj' rfl
        have h2 := cnt_20 p2 (sh j / 20)
        have h3 := cnt_20 p2 p
        intro h4
        by_cases e2 : sh j / 20 = p
        · rw [e2] at h4 h1; omega
        · have h7 : cnt sh p ns < 20 := by
            have := cnt_20 (sh := up sh ns (20 * p + m)) (ns := ns + 1) (fun i j hij hj => by
              by_cases e : j = ns
              · subst e; rw [up_s, up_n (by omega)]; exact hno i hij
              · rw [up_n e, up_n (by omega)]; exact p2 i j hij (by omega)) p
            rw [cnt, up_s, cnt_up ns (by omega), hq, if_pos rfl] at this
            omega
          omega
  · have h1 : c ≠ 20 * p + m := fun g => h ns (by omega) (by rw [up_s, g])
    rw [upd_n h1]
    exact p5 c hc (fun j hj => by have := h j (by omega); rw [up_n (by omega)] at this; exact this)
theorem shown_less {cd pl ct sw : Nat → Int32} {ns p m : Nat} {sh : Nat → Nat} (hP : gP cd pl ct sw ns sh) (hp : p < 10) (hm : m < 20) (hno : ∀ j, j < ns → sh j ≠ 20 * p + m) : ns < 200 ∧ cnt sh p ns < 20 := by
  obtain ⟨p1, p2, _⟩ := gP_add hP hp hm hno
  have h1 := pigeon 200 (ns + 1) _ (fun i hi => (p1 i hi).2) p2
  have h2 := cnt_20 p2 p
  rw [cnt, up_s, cnt_up ns (by omega), show (20 * p + m) / 20 = p by omega, if_pos rfl] at h2
  omega
theorem op_shows {σ : Sg} (hI : Inv σ) {N : Nat} (hN9 : 201 < N) (a b : Int32) : OpOK (f_L_shows N a b) (f_X8_shows N a b) σ := by
  obtain ⟨ne, nk, np, nt, ns, nf, kp, kn, sh, hN, hE, hV, hM, hK, hT, hP, hF⟩ := hI
  have hI1 : ∀ x, Inv (ss σ 35 0 x) := fun x => ⟨ne, nk, np, nt, ns, nf, kp, kn, sh, hN, hE, hV, hM, hK, hT, hP, hF⟩
  obtain ⟨n1, n2, n3, n4, n5, n6, n7, n8, n9, n10, n11, n12, n13, n14, n15, n16, n17⟩ := hN
  rcases cd_cases a b with ⟨p, m, hp, hm, rfl, rfl⟩ | h
  · have e1 : nI p * 20 = nI (20 * p) := by rw [show (20 : Int32) = nI 20 from rfl, nI_mul, Nat.mul_comm]
    have hq : (20 * p + m) / 20 = p := by omega
    by_cases hsh : ∃ t, t < ns ∧ sh t = 20 * p + m
    · obtain ⟨t, ht, htc⟩ := hsh
      have h14 : σ 14 (20 * p + m) ≠ -1 := by
        have := (hP.2.2.2.1 t ht).1
        rw [htc] at this
        rw [this]
        have := cnt_le sh ((20 * p + m) / 20) t
        exact m1_ne (by omega)
      refine ⟨0, ss σ 34 0 0, 0, ss (ss σ 34 0 0) 35 0 0, ?_, ?_, rfl, fun _ => rfl, ⟨ne, nk, np, nt, ns, nf, kp, kn, sh, ⟨n1, n2, n3, n4, n5, n6, n7, n8, n9, n10, n11, n12, n13, n14, n15, n16, n17⟩, hE, hV, hM, hK, hT, hP, hF⟩⟩
      · rw [f_L_shows, f_X7_shows, needC_y hp hm, cT_r, f_X3_show, lt_eq, e1, rdA_eq _ p rfl hp (by decide), nI_add, rdA_eq _ (20 * p + m) rfl (by omega) (by decide), if_neg h14, cI_eq]
        rfl
      · rw [f_X8_shows, isP_y hp hm, cI_eq, if_neg (by decide), st_eq, lt_eq, lt_eq, if_neg (thr0' _), code8, x8_place_y (by omega) (σ := ss (ss σ 34 0 0) 35 0 0) n8 n15 hP.1 hP.2.1 (by omega) ht htc, cI_eq, if_neg]
        have := cnt_le sh ((20 * p + m) / 20) t
        exact nI_nle (by omega) (by omega)
    · have hno : ∀ j, j < ns → sh j ≠ 20 * p + m := fun j hj e => hsh ⟨j, hj, e⟩
      obtain ⟨hs1, hs2⟩ := shown_less hP hp hm hno
      have h14 : σ 14 (20 * p + m) = -1 := hP.2.2.2.2 _ (by omega) hno
      have h15 : σ 15 p = nI (cnt sh p ns) := hP.2.2.1 p hp
      obtain ⟨σ6, h6⟩ : ∃ σ6 : Sg, σ6 = ss (ss (ss (ss σ 13 (20 * p + cnt sh p ns) (nI (20 * p + m))) 14 (20 * p + m) (nI (cnt sh p ns))) 15 p (nI (cnt sh p ns + 1))) 34 0 (nI (cnt sh p ns + 1)) := ⟨_, rfl⟩
      refine ⟨0, σ6, nI (cnt sh p ns + 1), ss (ss (ss σ6 35 0 0) 46 ns (nI (20 * p + m))) 35 15 (nI (ns + 1)), ?_, ?_, rfl, fun _ => by rw [h6]; rfl, ?_⟩
      · rw [f_L_shows, f_X7_shows, needC_y hp hm, cT_r, f_X3_show, lt_eq, e1, rdA_eq _ p rfl hp (by decide), nI_add, rdA_eq _ (20 * p + m) rfl (by omega) (by decide), if_pos h14, h15, if_pos (by rw [show (20 : Int32) = nI 20 from rfl, ltN (by omega) (by decide)]; exact hs2), nI_add, wrA_eq _ _ _ (20 * p + cnt sh p ns) rfl (by omega) (by decide), wrA_eq _ _ _ (20 * p + m) rfl (by omega) (by decide), rdA_eq _ p rfl hp (by decide), wrA_eq _ _ _ p rfl hp (by decide), rdA_eq _ p rfl hp (by decide), cI_eq, h6]
        show (cC (some (Sum.inr (upd (σ 15) p (σ 15 p + 1) p), ss (ss (ss σ 13 (20 * p + cnt sh p ns) (nI (20 * p + m))) 14 (20 * p + m) (nI (cnt sh p ns))) 15 p (σ 15 p + 1))) _ _) = _
        rw [upd_s, h15, nI_1]
        rfl
      · have m8 : σ6 35 15 = nI ns := by rw [h6]; exact n8
        have ms : ∀ j, j < ns → σ6 46 j = nI (sh j) ∧ sh j < 200 := by rw [h6]; exact hP.1
        rw [f_X8_shows, isP_y hp hm, cI_eq, if_neg (by decide), st_eq, lt_eq, lt_eq, if_neg (thr0' _), code8, x8_place_n (by omega) (σ := ss σ6 35 0 0) m8 n15 ms (by omega) hno, cI_eq, if_pos (by decide), lt_eq, wrA_eq _ _ _ ns (by exact m8) (by omega) (by decide), lt_eq, st_eq]
        rw [show (ss (ss σ6 35 0 0) 46 ns (nI (20 * p + m))) 35 15 + 1 = nI (ns + 1) from by rw [show (ss (ss σ6 35 0 0) 46 ns (nI (20 * p + m))) 35 15 = nI ns from m8, nI_1]]
        have hG := gP_add hP hp hm hno
        rw [x8_place_y (by omega) (σ := ss (ss (ss σ6 35 0 0) 46 ns (nI (20 * p + m))) 35 15 (nI (ns + 1))) (ns := ns + 1) (sh := up sh ns (20 * p + m)) (t := ns) rfl (by omega) (by rw [h6]; exact hG.1) hG.2.1 (by omega) (by omega) up_s, cI_eq, cnt_up ns (by omega), hq]
      · rw [h6]
        exact ⟨ne, nk, np, nt, ns + 1, nf, kp, kn, up sh ns (20 * p + m), ⟨n1, n2, n3, n4, n5, n6, n7, rfl, n9, n10, n11, n12, n13, n14, by omega, n16, n17⟩, hE, hV, hM, hK, hT, gP_add hP hp hm hno, hF⟩
  · refine ⟨1, σ, 0, ss σ 35 0 1, ?_, ?_, rfl, fun h => absurd h (by decide), hI1 1⟩
    · rw [f_L_shows, f_X7_shows, needC_n h]
      rfl
    · rw [f_X8_shows, isP_n h, cI_eq, if_pos rfl, st_eq, lt_eq, lt_eq, if_pos (thr1 _)]
