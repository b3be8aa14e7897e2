theorem rdA_v {β : Type} {n : Nat} {f : Nat → Int32} {i : Int32} (j : Nat) (x : Int32) (hi : i = nI j) (hj : j < n) (hn : n < 2 ^ 31) (hx : f j = x) (K : Int32 → Option β) : rdA n f i K = K x := by
  rw [rdA_eq f j hi hj hn, hx]
theorem nI_dec (d : Nat) : nI (d + 1) + (-1) = nI d := by
  have := nI_pred d
  rw [Int32.sub_eq_add_neg] at this
  exact this
theorem x8_nk {N : Nat} {σ : Sg} {kp kn : Nat → Nat} {nk ne e : Nat} (h8 : σ 35 8 = nI nk) (hnk : nk ≤ 160) (hne : ne ≤ 60) (hK : gK (σ 42) (σ 43) ne nk kp kn) (he : e < ne) (K : Int32 → Sg → Option (Int32 × Sg)) : ∀ n j, j ≤ nk → nk - j < n → f_X8_nextKid_2 N (nI e) K n (nI j) σ = K (nI (nxt kp nk e j)) σ := by
  intro n
  induction n with
  | zero => intro j _ h; exact absurd h (by omega)
  | succ n ih =>
    intro j hj hn
    rw [f_X8_nextKid_2, lt_eq, h8]
    unfold nxt at ih ⊢
    by_cases g : nk ≤ j
    · rw [if_pos (nI_le g (by omega)), show nk - j = 0 by omega, nx]
    · have hk := hK.1 j (by omega)
      rw [if_neg (nI_ge (by omega) (by omega)), rdA_eq _ j rfl (by omega) (by decide), hk.1, show nk - j = (nk - (j + 1)) + 1 by omega, nx, if_pos (show j < nk by omega)]
      by_cases e1 : kp j = e
      · rw [if_pos (by rw [e1]), if_pos e1]
      · rw [if_neg (by rw [eqN (by omega) (by omega)]; exact e1), if_neg e1, lt_eq, nI_1]
        exact ih (j + 1) (by omega) (by omega)
theorem x8_nextKid {N : Nat} (hN9 : 200 ≤ N) {σ : Sg} {kp kn : Nat → Nat} {nk ne e j : Nat} (h8 : σ 35 8 = nI nk) (hnk : nk ≤ 160) (hne : ne ≤ 60) (hK : gK (σ 42) (σ 43) ne nk kp kn) (he : e < ne) (hj : j ≤ nk) : f_X8_nextKid N (nI e) (nI j) σ = some (nI (nxt kp nk e j), σ) := by
  unfold f_X8_nextKid
  rw [x8_nk h8 hnk hne hK he _ N j hj (by omega)]
theorem nxt_le {kp : Nat → Nat} {nk e : Nat} : ∀ n j, j ≤ nk → n = nk - j → nx kp nk e n j ≤ nk := by
  intro n
  induction n with
  | zero => intro j hj _; exact hj
  | succ n ih =>
    intro j hj hn
    rw [nx, if_pos (by omega)]
    by_cases g : kp j = e
    · rw [if_pos g]; omega
    · rw [if_neg g]; exact ih (j + 1) (by omega) (by omega)
def Stk (kp ix : Nat → Nat) (we wk : Nat → Int32) : Nat → Nat → Nat → Prop
  | 0, e, j => we 0 = nI e ∧ wk 0 = nI j ∧ e = 0
  | d + 1, e, j => we (d + 1) = nI e ∧ wk (d + 1) = nI j ∧ e ≠ 0 ∧ Stk kp ix we wk d (kp (ix e)) (ix e + 1)
theorem stk_low {kp ix : Nat → Nat} {we wk we' wk' : Nat → Int32} : ∀ d e j, (∀ i, i ≤ d → we' i = we i ∧ wk' i = wk i) → Stk kp ix we wk d e j → Stk kp ix we' wk' d e j := by
  intro d
  induction d with
  | zero =>
    intro e j h hs
    exact ⟨by rw [(h 0 (by omega)).1]; exact hs.1, by rw [(h 0 (by omega)).2]; exact hs.2.1, hs.2.2⟩
  | succ d ih =>
    intro e j h hs
    exact ⟨by rw [(h _ (by omega)).1]; exact hs.1, by rw [(h _ (by omega)).2]; exact hs.2.1, hs.2.2.1, ih _ _ (fun i hi => h i (by omega)) hs.2.2.2⟩
theorem stk_1 {kp ix : Nat → Nat} {we wk : Nat → Int32} {d e j : Nat} (h : Stk kp ix we wk d e j) : we d = nI e ∧ wk d = nI j := by
  cases d with
  | zero => exact ⟨h.1, h.2.1⟩
  | succ d => exact ⟨h.1, h.2.1⟩
theorem stk_top {kp ix : Nat → Nat} {we wk : Nat → Int32} {d e j : Nat} (h : Stk kp ix we wk d e j) (j' : Nat) : Stk kp ix we (upd wk d (nI j')) d e j' := by
  cases d with
  | zero => exact ⟨h.1, upd_s, h.2.2⟩
  | succ d => exact ⟨h.1, upd_s, h.2.2.1, stk_low d _ _ (fun i hi => ⟨rfl, upd_n (by omega)⟩) h.2.2.2⟩
theorem go_pop {N : Nat} (hN9 : 200 ≤ N) {kp kn ix : Nat → Nat} {nk ne : Nat} (h : Tr kp kn ix nk ne) (hne : ne ≤ 60) (hnk : nk ≤ 160) (K : Sg → Option (Int32 × Sg)) : ∀ (d e j fuel : Nat) (τ : Sg), Stk kp ix (τ 49) (τ 50) d e j → e < ne → d ≤ e → j ≤ nk → τ 35 8 = nI nk → gK (τ 42) (τ 43) ne nk kp kn → d + 1 < fuel → (srch kp ix nk e e j = none ∧ ∃ τ', f_X8_go_27 N K fuel (nI d) τ = K τ' ∧ ∀ c, c ≠ 50 → τ' c = τ c) ∨ (∃ (d' e' j' fuel' : Nat) (w : Nat → Int32), f_X8_go_27 N K fuel (nI d) τ = f_X8_go_27 N K fuel' (nI d') (fun c => if c = 50 then w else τ c) ∧ fuel ≤ fuel' + d ∧ 1 ≤ fuel' ∧ Stk kp ix (τ 49) w d' e' j' ∧ e' < ne ∧ d' ≤ e' ∧ j' ≤ nk ∧ nxt kp nk e' j' < nk ∧ srch kp ix nk e e j = some (nxt kp nk e' j')) := by
  intro d
  induction d with
  | zero =>
    intro e j fuel τ hs he hd hj h8 hK hf
    by_cases g : nxt kp nk e j < nk
    · exact Or.inr ⟨0, e, j, fuel, τ 50, by
        congr 1
        funext c
        by_cases c1 : c = 50
        · rw [if_pos c1, c1]
        · rw [if_neg c1], by omega, by omega, hs, he, hd, hj, g, srch_y g⟩
    · obtain ⟨fuel, rfl⟩ : ∃ k, fuel = k + 2 := ⟨fuel - 2, by omega⟩
      have e0 : e = 0 := hs.2.2
      have hnx : nxt kp nk e j = nk := by have := nxt_le (kp := kp) (nk := nk) (e := e) (nk - j) j hj rfl; unfold nxt at g ⊢; omega
      subst e0
      refine Or.inl ⟨srch_0 g, ss τ 50 0 (nI nk + 1), ?_, fun c c1 => ss_c c1⟩
      rw [f_X8_go_27, if_neg (nI_pos (by omega)), rdA_eq _ 0 rfl (by decide) (by decide), rdA_eq _ 0 rfl (by decide) (by decide), hs.1, hs.2.1, x8_nextKid hN9 h8 hnk hne hK he hj, hnx, cI_eq, wrA_eq _ _ _ 0 rfl (by decide) (by decide), lt_eq, if_pos (show nI nk = ss τ 50 0 (nI nk + 1) 35 8 from h8.symm), lt_eq, f_X8_go_27, if_pos (by decide)]
  | succ d ih =>
    intro e j fuel τ hs he hd hj h8 hK hf
    by_cases g : nxt kp nk e j < nk
    · exact Or.inr ⟨d + 1, e, j, fuel, τ 50, by
        congr 1
        funext c
        by_cases c1 : c = 50
        · rw [if_pos c1, c1]
        · rw [if_neg c1], by omega, by omega, hs, he, hd, hj, g, srch_y g⟩
    · obtain ⟨fuel, rfl⟩ : ∃ k, fuel = k + 1 := ⟨fuel - 1, by omega⟩
      have e0 : e ≠ 0 := hs.2.2.1
      have hnx : nxt kp nk e j = nk := by have := nxt_le (kp := kp) (nk := nk) (e := e) (nk - j) j hj rfl; unfold nxt at g ⊢; omega
      obtain ⟨q1, q2, q3⟩ := Tr_pr h (show 1 ≤ e by omega) he hne
      have step : f_X8_go_27 N K (fuel + 1) (nI (d + 1)) τ = f_X8_go_27 N K fuel (nI d) (ss τ 50 (d + 1) (nI nk + 1)) := by
        rw [f_X8_go_27, if_neg (nI_pos (by omega)), rdA_eq _ (d + 1) rfl (by omega) (by decide), rdA_eq _ (d + 1) rfl (by omega) (by decide), hs.1, hs.2.1, x8_nextKid hN9 h8 hnk hne hK he hj, hnx, cI_eq, wrA_eq _ _ _ (d + 1) rfl (by omega) (by decide), lt_eq, if_pos (show nI nk = ss τ 50 (d + 1) (nI nk + 1) 35 8 from h8.symm), lt_eq, nI_dec]
      have hdle : d ≤ kp (ix e) := by
        cases d with
        | zero => omega
        | succ d =>
          have := hs.2.2.2.2.2.1
          have h9 : ∀ d e j, Stk kp ix (τ 49) (τ 50) d e j → e < ne → d ≤ e := by
            intro d
            induction d with
            | zero => intro e j _ _; omega
            | succ d ih2 =>
              intro e j hs2 he2
              have e02 : e ≠ 0 := hs2.2.2.1
              obtain ⟨z1, z2, z3⟩ := Tr_pr h (show 1 ≤ e by omega) he2 hne
              have := ih2 _ _ hs2.2.2.2 (by omega)
              omega
          exact h9 _ _ _ hs.2.2.2 (by omega)
      have hs2 : Stk kp ix (τ 49) (upd (τ 50) (d + 1) (nI nk + 1)) d (kp (ix e)) (ix e + 1) := stk_low d _ _ (fun i hi => ⟨rfl, upd_n (by omega)⟩) hs.2.2.2
      rcases ih (kp (ix e)) (ix e + 1) fuel (ss τ 50 (d + 1) (nI nk + 1)) hs2 (by omega) hdle (by omega) h8 hK (by omega) with ⟨a1, τ', a2, a3⟩ | ⟨d', e', j', fuel', w, a1, a2, a3, a4, a5, a6, a7, a8, a9⟩
      · refine Or.inl ⟨by rw [srch_n h hne he e0 g]; exact a1, τ', by rw [step]; exact a2, fun c c1 => by rw [a3 c c1, ss_c c1]⟩
      · refine Or.inr ⟨d', e', j', fuel', w, ?_, by omega, a3, a4, a5, a6, a7, a8, by rw [srch_n h hne he e0 g]; exact a9⟩
        rw [step, a1]
        congr 1
        funext c
        by_cases c1 : c = 50
        · rw [if_pos c1, if_pos c1]
        · rw [if_neg c1, if_neg c1, ss_c c1]
theorem go_run {N : Nat} (hN9 : 200 ≤ N) {kp kn ix : Nat → Nat} {nk ne : Nat} (h : Tr kp kn ix nk ne) (hne : ne ≤ 60) (hnk : nk ≤ 160) (ar : Nat → Prop) (K : Sg → Option (Int32 × Sg)) : ∀ (n d e j : Nat) (L : List Nat) (m fuel : Nat) (τ : Sg), Run kp kn ix nk ar n e j L → Stk kp ix (τ 49) (τ 50) d e j → e < ne → d ≤ e → j ≤ nk → τ 35 8 = nI nk → gK (τ 42) (τ 43) ne nk kp kn → gM (τ 41) → (∀ e, e < 60 → okR (τ 36 e)) → (∀ e, ar e ↔ std (τ 41) (τ 36 e) = 12) → τ 35 17 = nI m → m + L.length ≤ 160 → 62 * n + d + 1 < fuel → ∃ τ', f_X8_go_27 N K fuel (nI d) τ = K τ' ∧ τ' 35 17 = nI (m + L.length) ∧ (∀ i, i ≠ 17 → τ' 35 i = τ 35 i) ∧ τ' 47 = wrL (τ 47) m (L.map kn) ∧ τ' 48 = wrL (τ 48) m (L.map kp) ∧ ∀ c, c ≠ 35 → c ≠ 47 → c ≠ 48 → c ≠ 49 → c ≠ 50 → τ' c = τ c := by
  intro n
  induction n with
  | zero =>
    intro d e j L m fuel τ hR hs he hd hj h8 hK hM hr har h17 hm hf
    obtain ⟨r1, rfl⟩ := hR
    rcases go_pop hN9 h hne hnk K d e j fuel τ hs he hd hj h8 hK (by omega) with ⟨a1, τ', a2, a3⟩ | ⟨d', e', j', fuel', w, a1, a2, a3, a4, a5, a6, a7, a8, a9⟩
    · exact ⟨τ', a2, by rw [a3 35 (by decide)]; exact h17, fun i _ => by rw [a3 35 (by decide)], by rw [a3 47 (by decide), List.map_nil, wrL_nil], by rw [a3 48 (by decide), List.map_nil, wrL_nil], fun c _ _ _ _ c5 => a3 c c5⟩
    · rw [r1] at a9; exact absurd a9 (by simp)
  | succ n ih =>
    intro d e j L m fuel τ hR hs he hd hj h8 hK hM hr har h17 hm hf
    rcases go_pop hN9 h hne hnk K d e j fuel τ hs he hd hj h8 hK (by omega) with ⟨a1, τ', a2, a3⟩ | ⟨d', e', j', fuel', w, a1, a2, a3, a4, a5, a6, a7, a8, a9⟩
    · rcases hR with ⟨r1, rfl⟩ | ⟨t, r1, _⟩
      · exact ⟨τ', a2, by rw [a3 35 (by decide)]; exact h17, fun i _ => by rw [a3 35 (by decide)], by rw [a3 47 (by decide), List.map_nil, wrL_nil], by rw [a3 48 (by decide), List.map_nil, wrL_nil], fun c _ _ _ _ c5 => a3 c c5⟩
      · rw [a1] at r1; exact absurd r1 (by simp)
    · obtain ⟨t, ht⟩ : ∃ t, t = nxt kp nk e' j' := ⟨_, rfl⟩
      have hty := nxt_y a8
      rw [← ht] at hty a8 a9
      have hkn := hK.1 t a8
      have hkt := h.1 t a8
      obtain ⟨fuel', rfl⟩ : ∃ k, fuel' = k + 1 := ⟨fuel' - 1, by omega⟩
      obtain ⟨τ1, hτ1⟩ : ∃ τ1 : Sg, τ1 = (fun c => if c = 50 then w else τ c) := ⟨_, rfl⟩
      have b49 : τ1 49 = τ 49 := by rw [hτ1]; rfl
      have b50 : τ1 50 = w := by rw [hτ1]; rfl
      have hc1 : ∀ c, c ≠ 50 → τ1 c = τ c := fun c c1 => by rw [hτ1]; exact if_neg c1
      have h8' : τ1 35 8 = nI nk := by rw [hc1 35 (by decide)]; exact h8
      have hK' : gK (τ1 42) (τ1 43) ne nk kp kn := by rw [hc1 42 (by decide), hc1 43 (by decide)]; exact hK
      have hM' : gM (τ1 41) := by rw [hc1 41 (by decide)]; exact hM
      have hr' : ∀ e, e < 60 → okR (τ1 36 e) := by rw [hc1 36 (by decide)]; exact hr
      have har' : ∀ e, ar e ↔ std (τ1 41) (τ1 36 e) = 12 := by rw [hc1 41 (by decide), hc1 36 (by decide)]; exact har
      have h17' : τ1 35 17 = nI m := by rw [hc1 35 (by decide)]; exact h17
      have hs' : Stk kp ix (τ1 49) (τ1 50) d' e' j' := by rw [b49, b50]; exact a4
      rw [a1, ← hτ1, f_X8_go_27, if_neg (nI_pos (by omega)), rdA_eq _ d' rfl (by omega) (by decide), rdA_eq _ d' rfl (by omega) (by decide), (stk_1 hs').1, (stk_1 hs').2, x8_nextKid hN9 h8' hnk hne hK' a5 a7, ← ht, cI_eq, wrA_eq _ _ _ d' rfl (by omega) (by decide), lt_eq, if_neg (show ¬ nI t = ss τ1 50 d' (nI t + 1) 35 8 from by show ¬ nI t = τ1 35 8; rw [h8', eqN (by omega) (by omega)]; omega), nI_1]
      have hs2 : Stk kp ix (τ1 49) (upd (τ1 50) d' (nI (t + 1))) d' e' (t + 1) := stk_top hs' (t + 1)
      rw [rdA_v t (nI (kn t)) rfl (by omega) (by decide) (by exact (hK'.1 t a8).2.1)]
      rcases hR with ⟨r1, rfl⟩ | ⟨t', r1, hR⟩
      · rw [a9] at r1; exact absurd r1 (by simp)
      · have e1 : t' = t := by rw [a9] at r1; exact (Option.some.inj r1).symm
        subst e1
        rw [hty.2.1] at hR
        rcases hR with ⟨p1, L', rfl, hR⟩ | ⟨p1, p2, hR⟩ | ⟨p1, p2, L', rfl, hR⟩
        · have hk12 : kn t' < 1200 := by rcases h.2.1 t' a8 with g | g <;> omega
          rw [List.length_cons] at hm
          rw [if_neg (by rw [show (1000 : Int32) = nI 1000 from rfl, ltN (by omega) (by decide)]; omega), rdA_v t' (nI (kn t')) rfl (by omega) (by decide) (by exact (hK'.1 t' a8).2.1), f_X8_meet, lt_eq, wrA_eq _ _ _ m (by exact h17') (by omega) (by decide), lt_eq, wrA_eq _ _ _ m (by exact h17') (by omega) (by decide), lt_eq, st_eq, cI_eq]
          rw [show ss (ss (ss τ1 50 d' (nI (t' + 1))) 47 m (nI (kn t'))) 48 m (nI e') 35 17 = nI m from h17', nI_1]
          obtain ⟨τ', t1, t2, t3, t4, t5, t6⟩ := ih d' e' (t' + 1) L' (m + 1) fuel' (ss (ss (ss (ss τ1 50 d' (nI (t' + 1))) 47 m (nI (kn t'))) 48 m (nI e')) 35 17 (nI (m + 1))) hR hs2 a5 a6 (by omega) h8' hK' hM' hr' har' rfl (by omega) (by omega)
          refine ⟨τ', t1, by rw [t2, List.length_cons]; congr 1; omega, fun i hi => ?_, ?_, ?_, fun c c1 c2 c3 c4 c5 => ?_⟩
          · rw [t3 i hi]
            show upd (τ1 35) 17 (nI (m + 1)) i = τ 35 i
            rw [upd_n hi, hc1 35 (by decide)]
          · rw [t4, List.map_cons, ← wrL_cons]
            show wrL (upd (τ1 47) m (nI (kn t'))) (m + 1) _ = _
            rw [hc1 47 (by decide)]
          · rw [t5, List.map_cons, ← wrL_cons, hty.2.1]
            show wrL (upd (τ1 48) m (nI e')) (m + 1) _ = _
            rw [hc1 48 (by decide)]
          · rw [t6 c c1 c2 c3 c4 c5, ss_c c1, ss_c c3, ss_c c2, ss_c c5, hc1 c c5]
        · have hkk : 1 ≤ kn t' ∧ kn t' < ne ∧ kp t' < kn t' := by rcases h.2.1 t' a8 with g | g <;> omega
          rw [if_pos (by rw [show (1000 : Int32) = nI 1000 from rfl, ltN (by omega) (by decide)]; omega), rdA_v t' (nI (kn t')) rfl (by omega) (by decide) (by exact (hK'.1 t' a8).2.1), x8_is (by omega) (show kn t' < 60 by omega) (show gM (ss τ1 50 d' (nI (t' + 1)) 41) from hM') (show okR (ss τ1 50 d' (nI (t' + 1)) 36 (kn t')) from hr' _ (by omega)) 12, cI_eq, if_neg (by rw [if_pos (show std (ss τ1 50 d' (nI (t' + 1)) 41) (ss τ1 50 d' (nI (t' + 1)) 36 (kn t')) = 12 from (har' _).mp p2)]; decide)]
          obtain ⟨τ', t1, t2, t3, t4, t5, t6⟩ := ih d' e' (t' + 1) L m fuel' (ss τ1 50 d' (nI (t' + 1))) hR hs2 a5 a6 (by omega) h8' hK' hM' hr' har' h17' hm (by omega)
          refine ⟨τ', t1, t2, fun i hi => ?_, ?_, ?_, fun c c1 c2 c3 c4 c5 => ?_⟩
          · rw [t3 i hi]
            show τ1 35 i = τ 35 i
            rw [hc1 35 (by decide)]
          · rw [t4]
            show wrL (τ1 47) m _ = _
            rw [hc1 47 (by decide)]
          · rw [t5]
            show wrL (τ1 48) m _ = _
            rw [hc1 48 (by decide)]
          · rw [t6 c c1 c2 c3 c4 c5, ss_c c5, hc1 c c5]
        · have hkk : 1 ≤ kn t' ∧ kn t' < ne ∧ kp t' < kn t' := by rcases h.2.1 t' a8 with g | g <;> omega
          have hix : ix (kn t') = t' := by
            obtain ⟨q1, q2⟩ := h.2.2.2 (kn t') hkk.1 hkk.2.1
            exact h.2.2.1 _ _ q1 a8 q2
          rw [List.length_cons] at hm
          rw [if_pos (by rw [show (1000 : Int32) = nI 1000 from rfl, ltN (by omega) (by decide)]; omega), rdA_v t' (nI (kn t')) rfl (by omega) (by decide) (by exact (hK'.1 t' a8).2.1), x8_is (by omega) (show kn t' < 60 by omega) (show gM (ss τ1 50 d' (nI (t' + 1)) 41) from hM') (show okR (ss τ1 50 d' (nI (t' + 1)) 36 (kn t')) from hr' _ (by omega)) 12, cI_eq, if_pos (by rw [if_neg (show ¬ std (ss τ1 50 d' (nI (t' + 1)) 41) (ss τ1 50 d' (nI (t' + 1)) 36 (kn t')) = 12 from fun g => p2 ((har' _).mpr g))]), lt_eq, nI_1, rdA_v t' (nI (kn t')) rfl (by omega) (by decide) (by exact (hK'.1 t' a8).2.1), wrA_eq _ _ _ (d' + 1) rfl (by omega) (by decide), wrA_eq _ _ _ (d' + 1) rfl (by omega) (by decide), rdA_v t' (nI (kn t')) rfl (by omega) (by decide) (by exact (hK'.1 t' a8).2.1), f_X8_meet, lt_eq, wrA_eq _ _ _ m (by exact h17') (by omega) (by decide), lt_eq, wrA_eq _ _ _ m (by exact h17') (by omega) (by decide), lt_eq, st_eq, cI_eq]
          rw [show ss (ss (ss (ss (ss τ1 50 d' (nI (t' + 1))) 49 (d' + 1) (nI (kn t'))) 50 (d' + 1) 0) 47 m (nI (kn t'))) 48 m (nI e') 35 17 = nI m from h17', nI_1]
          have hs3 : Stk kp ix (upd (τ1 49) (d' + 1) (nI (kn t'))) (upd (upd (τ1 50) d' (nI (t' + 1))) (d' + 1) 0) (d' + 1) (kn t') 0 := by
            refine ⟨upd_s, upd_s, by omega, ?_⟩
            rw [hix, hty.2.1]
            exact stk_low d' _ _ (fun i hi => ⟨upd_n (by omega), upd_n (by omega)⟩) hs2
          obtain ⟨τ', t1, t2, t3, t4, t5, t6⟩ := ih (d' + 1) (kn t') 0 L' (m + 1) fuel' (ss (ss (ss (ss (ss (ss τ1 50 d' (nI (t' + 1))) 49 (d' + 1) (nI (kn t'))) 50 (d' + 1) 0) 47 m (nI (kn t'))) 48 m (nI e')) 35 17 (nI (m + 1))) hR hs3 hkk.2.1 (by omega) (by omega) h8' hK' hM' hr' har' rfl (by omega) (by omega)
          refine ⟨τ', t1, by rw [t2, List.length_cons]; congr 1; omega, fun i hi => ?_, ?_, ?_, fun c c1 c2 c3 c4 c5 => ?_⟩
          · rw [t3 i hi]
            show upd (τ1 35) 17 (nI (m + 1)) i = τ 35 i
            rw [upd_n hi, hc1 35 (by decide)]
          · rw [t4, List.map_cons, ← wrL_cons]
            show wrL (upd (τ1 47) m (nI (kn t'))) (m + 1) _ = _
            rw [hc1 47 (by decide)]
          · rw [t5, List.map_cons, ← wrL_cons, hty.2.1]
            show wrL (upd (τ1 48) m (nI e')) (m + 1) _ = _
            rw [hc1 48 (by decide)]
          · rw [t6 c c1 c2 c3 c4 c5, ss_c c1, ss_c c3, ss_c c2, ss_c c5, ss_c c4, ss_c c5, hc1 c c5]
