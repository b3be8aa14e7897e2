theorem gK_addE {kf kd : Nat → Int32} {ne nk p : Nat} {kp kn : Nat → Nat} (hK : gK kf kd ne nk kp kn) (hne : ne < 60) (h1 : 1 ≤ ne) (hp : p < ne) : gK (upd kf nk (nI p)) (upd kd nk (nI ne)) (ne + 1) (nk + 1) (up kp nk p) (up kn nk ne) := by
  obtain ⟨k1, k2, k3, k4, k5⟩ := hK
  refine ⟨fun j hj => ?_, fun j hj => ?_, fun i j hij hj => ?_, fun i j hij hj => ?_, fun e he1 he2 => ?_⟩
  · by_cases e : j = nk
    · subst e; rw [upd_s, upd_s, up_s, up_s]; exact ⟨rfl, rfl, by omega⟩
    · rw [upd_n e, upd_n e, up_n e, up_n e]
      have := k1 j (by omega)
      exact ⟨this.1, this.2.1, by omega⟩
  · by_cases e : j = nk
    · subst e; rw [up_s, up_s]; exact Or.inl ⟨h1, by omega, hp⟩
    · rw [up_n e, up_n e]
      rcases k2 j (by omega) with h | h
      · exact Or.inl ⟨h.1, by omega, h.2.2⟩
      · exact Or.inr h
  · by_cases e : j = nk
    · subst e
      rw [up_s, up_n (by omega)]
      rcases k2 i hij with h | h <;> omega
    · rw [up_n e, up_n (by omega)]; exact k3 i j hij (by omega)
  · by_cases e : j = nk
    · subst e
      rw [up_s, up_n (by omega)]
      rcases k2 i hij with h | h <;> omega
    · rw [up_n e, up_n (by omega)]; exact k4 i j hij (by omega)
  · by_cases e1 : e = ne
    · exact ⟨nk, by omega, by rw [up_s, e1]⟩
    · obtain ⟨j, hj, h⟩ := k5 e he1 (by omega)
      exact ⟨j, by omega, by rw [up_n (by omega)]; exact h⟩
theorem gK_addP {kf kd : Nat → Int32} {ne nk p c : Nat} {kp kn : Nat → Nat} (hK : gK kf kd ne nk kp kn) (hne : ne ≤ 60) (hp : p < ne) (hc : c < 200) (hno : ∀ t, t < nk → kn t ≠ 1000 + c) : gK (upd kf nk (nI p)) (upd kd nk (nI (1000 + c))) ne (nk + 1) (up kp nk p) (up kn nk (1000 + c)) := by
  obtain ⟨k1, k2, k3, k4, k5⟩ := hK
  refine ⟨fun j hj => ?_, fun j hj => ?_, fun i j hij hj => ?_, fun i j hij hj => ?_, fun e he1 he2 => ?_⟩
  · by_cases e : j = nk
    · subst e; rw [upd_s, upd_s, up_s, up_s]; exact ⟨rfl, rfl, by omega⟩
    · rw [upd_n e, upd_n e, up_n e, up_n e]
      have := k1 j (by omega)
      exact ⟨this.1, this.2.1, by omega⟩
  · by_cases e : j = nk
    · subst e; rw [up_s, up_s]; exact Or.inr ⟨by omega, by omega⟩
    · rw [up_n e, up_n e]
      exact k2 j (by omega)
  · by_cases e : j = nk
    · subst e
      rw [up_s, up_n (by omega)]
      exact hno i hij
    · rw [up_n e, up_n (by omega)]; exact k3 i j hij (by omega)
  · by_cases e : j = nk
    · subst e
      rw [up_s, up_n (by omega)]
      omega
    · rw [up_n e, up_n (by omega)]; exact k4 i j hij (by omega)
  · obtain ⟨j, hj, h⟩ := k5 e he1 (by omega)
    exact ⟨j, by omega, by rw [up_n (by omega)]; exact h⟩
theorem nd_e {e : Nat} (h : e < 1000) : nd e = e := by unfold nd; rw [if_pos h]
theorem op_element {σ : Sg} (hI : Inv σ) (N : Nat) (a b : Int32) : OpOK (f_L_element N a b) (f_X8_element N a b) σ := by
  obtain ⟨ne, nk, np, nt, ns, nf, kp, kn, sh, hN, hE, hV, hM, hK, hT, hP, hF⟩ := hI
  have hI1 : ∀ x, Inv (ss σ 35 0 x) := fun x => ⟨ne, nk, np, nt, ns, nf, kp, kn, sh, hN, hE, hV, hM, hK, hT, hP, hF⟩
  obtain ⟨n1, n2, n3, n4, n5, n6, n7, n8, n9, n10, n11, n12, n13, n14, n15, n16, n17⟩ := hN
  rcases el_cases a n12 with ha | ⟨p, hp, rfl⟩
  · refine ⟨1, σ, 0, ss σ 35 0 1, ?_, ?_, rfl, fun h => absurd h (by decide), hI1 1⟩
    · rw [f_L_element, f_X7_element, needE_no n1 ha]
      rfl
    · rw [f_X8_element, isE_no n2 ha, cI_eq, if_pos rfl, st_eq, lt_eq, if_neg (thrP _)]
  · have good : okR b → b ≠ -1 → (∀ τ : Sg, f_X4_isRole N b τ = some (1, τ)) → b ≠ 0 → (∀ τ : Sg, τ 35 1 = nI ne → f_X8_element N (nI p) b τ = if nI ne = 60 then some (0, ss τ 35 0 3) else st (ss τ 35 0 0) (fun σ9 => lt (σ9 35 1) (fun v12 => wrA 60 σ9 36 v12 b (fun σ13 => lt (σ13 35 8) (fun v14 => wrA 160 σ13 42 v14 (nI p) (fun σ15 => lt (σ15 35 8) (fun v16 => lt (σ15 35 1) (fun v17 => wrA 160 σ15 43 v16 v17 (fun σ18 => lt (σ18 35 8) (fun v19 => st (ss σ18 35 8 (v19 + 1)) (fun σ20 => lt (σ20 35 1) (fun v21 => st (ss σ20 35 1 (v21 + 1)) (fun σ22 => lt (σ22 35 1) (fun v23 => some (v23 - 1, σ22))))))))))))))) → OpOK (f_L_element N (nI p) b) (f_X8_element N (nI p) b) σ := by
      intro hb hb1 hrole hb0 h8
      by_cases hfull : ne = 60
      · refine ⟨3, σ, 0, ss σ 35 0 3, ?_, ?_, rfl, fun h => absurd h (by decide), hI1 3⟩
        · rw [f_L_element, f_X7_element, needE_yes n1 n12 hp, cT_r, if_neg hb0, hrole, cI_eq, if_neg (by decide), lt_eq, n1, hfull, if_neg (by decide)]
          rfl
        · rw [h8 σ n2, if_pos (by rw [hfull]; rfl)]
      · have hlt : ne < 60 := by omega
        obtain ⟨fk, lk, pa, nx', e1, e2⟩ := addKid_ok (N := N) (σ := ss (ss σ 4 ne b) 3 6 (nI (ne + 1))) (p := p) (v := ne) n12 (by omega) (Or.inl ⟨n11, hlt⟩) hK hT (fun j hj => by rcases hK.2.1 j hj with h | h <;> omega)
        rw [nd_e (by omega)] at e1
        obtain ⟨σ6, h6⟩ : ∃ σ6 : Sg, σ6 = (fun c => if c = 5 then fk else if c = 6 then lk else if c = 7 then pa else if c = 8 then nx' else ss (ss σ 4 ne b) 3 6 (nI (ne + 1)) c) := ⟨_, rfl⟩
        rw [← h6] at e1
        refine ⟨0, ss σ6 34 0 (nI ne), nI ne, ss (ss (ss (ss (ss (ss (ss σ6 34 0 (nI ne)) 35 0 0) 36 ne b) 42 nk (nI p)) 43 nk (nI ne)) 35 8 (nI (nk + 1))) 35 1 (nI (ne + 1)), ?_, ?_, rfl, fun _ => rfl, ?_⟩
        · rw [f_L_element, f_X7_element, needE_yes n1 n12 hp, cT_r, if_neg hb0, hrole, cI_eq, if_neg (by decide), lt_eq, n1, if_pos (by rw [show (60 : Int32) = nI 60 from rfl, ltN (by omega) (by decide)]; exact hlt), f_X6_addElement, lt_eq, n1, if_neg (by rw [show (60 : Int32) = nI 60 from rfl, leN (by decide) (by omega)]; omega), wrA_eq _ _ _ ne rfl (by omega) (by decide), lt_eq, st_eq, show ss σ 4 ne b 3 6 = nI ne from n1, nI_1, e1, cI_eq, cI_eq]
          rfl
        · have m1 : ss σ6 34 0 (nI ne) 35 1 = nI ne := by rw [h6]; exact n2
          have m8 : σ6 35 8 = nI nk := by rw [h6]; exact n7
          rw [h8 _ m1, if_neg (by rw [show (60 : Int32) = nI 60 from rfl, eqN (by omega) (by decide)]; omega), st_eq, lt_eq, wrA_eq _ _ _ ne (by exact m1) (by omega) (by decide), lt_eq, wrA_eq _ _ _ nk (by exact m8) (by omega) (by decide), lt_eq, lt_eq, wrA_eq _ _ _ nk (by exact m8) (by omega) (by decide), lt_eq, st_eq, lt_eq, st_eq, lt_eq]
          show some (σ6 35 1 + 1 - 1, ss (ss (ss (ss (ss (ss (ss σ6 34 0 (nI ne)) 35 0 0) 36 ne b) 42 nk (nI p)) 43 nk (σ6 35 1)) 35 8 (σ6 35 8 + 1)) 35 1 (σ6 35 1 + 1)) = _
          rw [show σ6 35 1 = nI ne from m1, m8, nI_1, nI_1, nI_m1 (by omega)]
          rfl
        · refine ⟨ne + 1, nk + 1, np, nt, ns, nf, up kp nk p, up kn nk ne, sh, ?_, ?_, ?_, ?_, ?_, ?_, ?_, ?_⟩
          · rw [h6]
            exact ⟨rfl, rfl, n3, n4, n5, n6, rfl, n8, n9, n10, by omega, by omega, n13, n14, n15, n16, by omega⟩
          · rw [h6]
            refine ⟨?_, hE.2⟩
            show upd (σ 4) ne b = upd (σ 36) ne b
            rw [hE.1]
          · rw [h6]
            refine ⟨?_, fun e he => ?_, hV.2.2⟩
            · show upd (σ 36) ne b 0 = 0
              rw [upd_n (by omega)]; exact hV.1
            · show okR (upd (σ 36) ne b e) ∧ upd (σ 36) ne b e ≠ -1
              by_cases ee : e = ne
              · subst ee; rw [upd_s]; exact ⟨hb, hb1⟩
              · rw [upd_n ee]; exact hV.2.1 e he
          · rw [h6]; exact hM
          · rw [h6]; exact gK_addE hK hlt n11 hp
          · rw [h6]; exact e2
          · rw [h6]; exact hP
          · rw [h6]; exact hF
    have bad : (f_X4_isRole N b σ = some (0, σ) ∨ b = 0) → (b < 1 ∨ 12 < b) → ¬ own b → OpOK (f_L_element N (nI p) b) (f_X8_element N (nI p) b) σ := by
      intro h1 h2 h3
      refine ⟨2, σ, 0, ss σ 35 0 2, ?_, ?_, rfl, fun h => absurd h (by decide), hI1 2⟩
      · rw [f_L_element, f_X7_element, needE_yes n1 n12 hp, cT_r]
        by_cases g : b = 0
        · rw [if_pos g]; rfl
        · rw [if_neg g, h1.resolve_right g, cI_eq, if_pos rfl]; rfl
      · rw [f_X8_element, isE_yes n2 n12 hp, cI_eq, if_neg (by decide), in_no h2, cI_eq, if_pos rfl, in_own_n h3, cI_eq, if_pos rfl, st_eq, lt_eq, if_neg (thrP2 _)]
    rcases rl_cases b with ⟨k, hk, rfl⟩ | ⟨k, hk, rfl⟩ | ⟨hb1, hb2⟩
    · by_cases hk0 : k = 0
      · subst hk0
        exact bad (Or.inr rfl) (Or.inl (by decide)) (not_own (by decide))
      · refine good (Or.inr ⟨k, rfl, Or.inl hk⟩) (m1_ne (by omega)) (fun τ => isRole_s hk) (nI_ne0 (by omega) (by omega)) (fun τ h => ?_)
        rw [f_X8_element, isE_yes h n12 hp, cI_eq, if_neg (by decide), in_yes, cI_eq, if_neg (by decide), lt_eq, h]
        · by_cases g : nI ne = 60
          · rw [if_pos g, if_pos g, st_eq, lt_eq, if_neg (thrP3 _)]
          · rw [if_neg g, if_neg g, st_eq, st_eq, lt_eq, if_pos (thr0 _)]
        · rw [show (1 : Int32) = nI 1 from rfl, ltN (by omega) (by decide)]; omega
        · rw [show (12 : Int32) = nI 12 from rfl, ltN (by decide) (by omega)]; omega
    · refine good (Or.inr ⟨100 + k, rfl, Or.inr ⟨by omega, by omega⟩⟩) (m1_ne (by omega)) (fun τ => isRole_o hk) (nI_ne0 (by omega) (by omega)) (fun τ h => ?_)
      rw [f_X8_element, isE_yes h n12 hp, cI_eq, if_neg (by decide), in_no, cI_eq, if_pos rfl, in_own_y hk, cI_eq, if_neg (by decide), lt_eq, h]
      · by_cases g : nI ne = 60
        · rw [if_pos g, if_pos g, st_eq, lt_eq, if_neg (thrP3 _)]
        · rw [if_neg g, if_neg g, st_eq, st_eq, lt_eq, if_pos (thr0 _)]
      · refine Or.inr ?_
        rw [show (12 : Int32) = nI 12 from rfl, ltN (by decide) (by omega)]; omega
    · refine bad (Or.inl (isRole_n hb1 hb2)) ?_ hb1
      rcases hb2 with h | h
      · left
        rw [Int32.lt_iff_toInt_lt] at h ⊢
        have e1 : (0 : Int32).toInt = 0 := by decide
        have e2 : (1 : Int32).toInt = 1 := by decide
        omega
      · exact Or.inr h
theorem op_content {σ : Sg} (hI : Inv σ) {N : Nat} (hN9 : 200 < N) (a b d : Int32) : OpOK (f_L_content N a b d) (f_X8_content N a b d) σ := by
  obtain ⟨ne, nk, np, nt, ns, nf, kp, kn, sh, hN, hE, hV, hM, hK, hT, hP, hF⟩ := hI
  have hI1 : ∀ x, Inv (ss σ 35 0 x) := fun x => ⟨ne, nk, np, nt, ns, nf, kp, kn, sh, hN, hE, hV, hM, hK, hT, hP, hF⟩
  obtain ⟨n1, n2, n3, n4, n5, n6, n7, n8, n9, n10, n11, n12, n13, n14, n15, n16, n17⟩ := hN
  have hnk : nk ≤ 160 := by omega
  rcases el_cases a n12 with ha | ⟨p, hp, rfl⟩
  · refine ⟨1, σ, 0, ss σ 35 0 1, ?_, ?_, rfl, fun h => absurd h (by decide), hI1 1⟩
    · rw [f_L_content, f_X7_content, needE_no n1 ha]
      rfl
    · rw [f_X8_content, isE_no n2 ha, cI_eq, if_pos rfl, st_eq, lt_eq, if_neg (thrP _)]
  · rcases cd_cases b d with ⟨q, m, hq, hm, rfl, rfl⟩ | h
    · obtain ⟨c, hc⟩ : ∃ c, c = 20 * q + m := ⟨_, rfl⟩
      have hc2 : c < 200 := by omega
      rcases holder hK n12 hT hc2 with ⟨t, h1, h2, h3, h4⟩ | ⟨h1, h2⟩
      · have hne1 : σ 7 (60 + c) ≠ -1 := by rw [h4]; exact m1_ne (by omega)
        by_cases hfull : nt = 40
        · refine ⟨0, ss σ 34 0 0, 0, ss (ss σ 34 0 0) 35 0 0, ?_, ?_, rfl, fun _ => rfl, ⟨ne, nk, np, nt, ns, nf, kp, kn, sh, ⟨n1, n2, n3, n4, n5, n6, n7, n8, n9, n10, n11, n12, n13, n14, n15, n16, n17⟩, hE, hV, hM, hK, hT, hP, hF⟩⟩
          · rw [f_L_content, f_X7_content, needE_yes n1 n12 hp, cT_r, needC_y hq hm, cT_r, ← hc, x6_holder hc2, cI_eq, if_neg hne1, f_X7_keepRepeat, lt_eq, n5, hfull, if_pos (by decide), cI_eq]
            rfl
          · rw [f_X8_content, isE_yes (σ := ss σ 34 0 0) n2 n12 hp, cI_eq, if_neg (by decide), isP_y hq hm, cI_eq, if_neg (by decide), st_eq, lt_eq, if_pos (thr0 _), lt_eq, code8, ← hc, x8_owner hN9 (σ := ss (ss σ 34 0 0) 35 0 0) n7 hnk n12 hK hT hc2, cI_eq, if_neg (show ¬ (ss (ss σ 34 0 0) 35 0 0) 7 (60 + c) = -1 from hne1), lt_eq, show ss (ss σ 34 0 0) 35 0 0 35 12 = nI nt from n6, hfull, if_pos (by decide)]
        · have hlt : nt < 40 := by omega
          have g40 : ¬ (40 : Int32) ≤ nI nt := by rw [show (40 : Int32) = nI 40 from rfl, leN (by decide) (by omega)]; omega
          obtain ⟨σ6, h6⟩ : ∃ σ6 : Sg, σ6 = ss (ss (ss (ss σ 30 nt (nI p)) 31 nt (nI c)) 0 13 (nI (nt + 1))) 34 0 0 := ⟨_, rfl⟩
          refine ⟨0, σ6, 0, ss (ss (ss (ss σ6 35 0 0) 44 nt (nI c)) 45 nt (nI p)) 35 12 (nI (nt + 1)), ?_, ?_, rfl, fun _ => ?_, ?_⟩
          · rw [f_L_content, f_X7_content, needE_yes n1 n12 hp, cT_r, needC_y hq hm, cT_r, ← hc, x6_holder hc2, cI_eq, if_neg hne1, f_X7_keepRepeat, lt_eq, n5, if_neg g40, lt_eq, wrA_eq _ _ _ nt rfl (by omega) (by decide), lt_eq, wrA_eq _ _ _ nt (by exact n5) (by omega) (by decide), lt_eq, st_eq, cI_eq, show ss (ss σ 30 nt (nI p)) 31 nt (nI c) 0 13 = nI nt from n5, nI_1, h6]
            rfl
          · have m2 : σ6 35 1 = nI ne := by rw [h6]; exact n2
            have m7 : σ6 35 8 = nI nk := by rw [h6]; exact n7
            have m6 : σ6 35 12 = nI nt := by rw [h6]; exact n6
            have mK : gK (σ6 42) (σ6 43) ne nk kp kn := by rw [h6]; exact hK
            have mT : gT (σ6 5) (σ6 6) (σ6 7) (σ6 8) nk kp kn := by rw [h6]; exact hT
            have mo : σ6 7 (60 + c) ≠ -1 := by rw [h6]; exact hne1
            rw [f_X8_content, isE_yes m2 n12 hp, cI_eq, if_neg (by decide), isP_y hq hm, cI_eq, if_neg (by decide), st_eq, lt_eq, if_pos (thr0 _), lt_eq, code8, ← hc, x8_owner hN9 (σ := ss σ6 35 0 0) m7 hnk n12 mK mT hc2, cI_eq, if_neg (show ¬ (ss σ6 35 0 0) 7 (60 + c) = -1 from mo), lt_eq, show ss σ6 35 0 0 35 12 = nI nt from m6, if_neg g40, lt_eq, wrA_eq _ _ _ nt rfl (by omega) (by decide), lt_eq, wrA_eq _ _ _ nt (by exact m6) (by omega) (by decide), lt_eq, st_eq]
            show some ((0 : Int32), ss (ss (ss (ss σ6 35 0 0) 44 nt (nI c)) 45 nt (nI p)) 35 12 (σ6 35 12 + 1)) = _
            rw [m6, nI_1]
          · rw [h6]; rfl
          · rw [h6]
            refine ⟨ne, nk, np, nt + 1, ns, nf, kp, kn, sh, ⟨n1, n2, n3, n4, rfl, rfl, n7, n8, n9, n10, n11, n12, n13, by omega, n15, n16, n17⟩, ⟨hE.1, hE.2.1, hE.2.2.1, hE.2.2.2.1, hE.2.2.2.2.1, hE.2.2.2.2.2.1, ?_, ?_⟩, hV, hM, hK, hT, hP, hF⟩
            · show upd (σ 30) nt (nI p) = upd (σ 45) nt (nI p)
              rw [hE.2.2.2.2.2.2.1]
            · show upd (σ 31) nt (nI c) = upd (σ 44) nt (nI c)
              rw [hE.2.2.2.2.2.2.2]
      · by_cases hfull : np = 100
        · refine ⟨3, σ, 0, ss (ss σ 35 0 0) 35 0 3, ?_, ?_, rfl, fun h => absurd h (by decide), ⟨ne, nk, np, nt, ns, nf, kp, kn, sh, ⟨n1, n2, n3, n4, n5, n6, n7, n8, n9, n10, n11, n12, n13, n14, n15, n16, n17⟩, hE, hV, hM, hK, hT, hP, hF⟩⟩
          · rw [f_L_content, f_X7_content, needE_yes n1 n12 hp, cT_r, needC_y hq hm, cT_r, ← hc, x6_holder hc2, cI_eq, if_pos h2, lt_eq, n3, hfull, if_neg (by decide)]
            rfl
          · rw [f_X8_content, isE_yes n2 n12 hp, cI_eq, if_neg (by decide), isP_y hq hm, cI_eq, if_neg (by decide), st_eq, lt_eq, if_pos (thr0 _), lt_eq, code8, ← hc, x8_owner hN9 (σ := ss σ 35 0 0) n7 hnk n12 hK hT hc2, cI_eq, if_pos (show (ss σ 35 0 0) 7 (60 + c) = -1 from h2), lt_eq, show ss σ 35 0 0 35 11 = nI np from n4, hfull, if_pos (by decide), st_eq, lt_eq, if_neg (thrP3 _)]
        · have hlt : np < 100 := by omega
          obtain ⟨fk, lk, pa, nx', e1, e2⟩ := addKid_ok (N := N) (σ := ss σ 3 7 (nI (np + 1))) (p := p) (v := 1000 + c) n12 (by omega) (Or.inr ⟨by omega, by omega⟩) hK hT (fun j hj => h1 j hj)
          rw [nd_c] at e1
          obtain ⟨σ6, h6⟩ : ∃ σ6 : Sg, σ6 = (fun c => if c = 5 then fk else if c = 6 then lk else if c = 7 then pa else if c = 8 then nx' else ss σ 3 7 (nI (np + 1)) c) := ⟨_, rfl⟩
          rw [← h6] at e1
          refine ⟨0, ss σ6 34 0 1, 1, ss (ss (ss (ss (ss (ss (ss σ6 34 0 1) 35 0 0) 35 0 0) 35 11 (nI (np + 1))) 42 nk (nI p)) 43 nk (nI (1000 + c))) 35 8 (nI (nk + 1)), ?_, ?_, rfl, fun _ => rfl, ?_⟩
          · rw [f_L_content, f_X7_content, needE_yes n1 n12 hp, cT_r, needC_y hq hm, cT_r, ← hc, x6_holder hc2, cI_eq, if_pos h2, lt_eq, n3, if_pos (by rw [show (100 : Int32) = nI 100 from rfl, ltN (by omega) (by decide)]; exact hlt), f_X6_addPart, lt_eq, st_eq, n3, nI_1, show (60 : Int32) + nI c = nI (60 + c) from nI_add 60 c, e1, cI_eq, cI_eq]
            rfl
          · have m2 : ss σ6 34 0 1 35 1 = nI ne := by rw [h6]; exact n2
            have m7 : σ6 35 8 = nI nk := by rw [h6]; exact n7
            have m4 : σ6 35 11 = nI np := by rw [h6]; exact n4
            have mK : gK (σ6 42) (σ6 43) ne nk kp kn := by rw [h6]; exact hK
            have mo : f_X8_ownerOf N (nI c) (ss (ss σ6 34 0 1) 35 0 0) = some (-1, ss (ss σ6 34 0 1) 35 0 0) := by
              unfold f_X8_ownerOf
              rw [← nI_0, owner_none (σ := ss (ss σ6 34 0 1) 35 0 (nI 0)) m7 hnk mK hc2 _ N 0 _ (by omega) (by omega) (fun i _ h => h1 i h) n12]
            rw [f_X8_content, isE_yes m2 n12 hp, cI_eq, if_neg (by decide), isP_y hq hm, cI_eq, if_neg (by decide), st_eq, lt_eq, if_pos (thr0 _), lt_eq, code8, ← hc, mo, cI_eq, if_pos rfl, lt_eq, if_neg, st_eq, lt_eq, if_pos (thr0 _), lt_eq, st_eq, lt_eq, wrA_eq _ _ _ nk (by exact m7) (by omega) (by decide), lt_eq, wrA_eq _ _ _ nk (by exact m7) (by omega) (by decide), lt_eq, st_eq]
            · show some ((1 : Int32), ss (ss (ss (ss (ss (ss (ss σ6 34 0 1) 35 0 0) 35 0 0) 35 11 (σ6 35 11 + 1)) 42 nk (nI p)) 43 nk (1000 + nI c)) 35 8 (σ6 35 8 + 1)) = _
              rw [m4, m7, nI_1, nI_1, show (1000 : Int32) + nI c = nI (1000 + c) from nI_add 1000 c]
            · show ¬ σ6 35 11 = 100
              rw [m4, show (100 : Int32) = nI 100 from rfl, eqN (by omega) (by decide)]; omega
          · rw [h6]
            refine ⟨ne, nk + 1, np + 1, nt, ns, nf, up kp nk p, up kn nk (1000 + c), sh, ⟨n1, n2, rfl, rfl, n5, n6, rfl, n8, n9, n10, n11, n12, by omega, n14, n15, n16, by omega⟩, hE, hV, hM, gK_addP hK n12 hp hc2 h1, e2, hP, hF⟩
    · refine ⟨2, σ, 0, ss σ 35 0 2, ?_, ?_, rfl, fun h => absurd h (by decide), hI1 2⟩
      · rw [f_L_content, f_X7_content, needE_yes n1 n12 hp, cT_r, needC_n h]
        rfl
      · rw [f_X8_content, isE_yes n2 n12 hp, cI_eq, if_neg (by decide), isP_n h, cI_eq, if_pos rfl, st_eq, lt_eq, if_neg (thrP2 _)]
