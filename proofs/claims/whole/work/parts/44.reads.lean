/-- cells that a reading call may change: the trail, the headings, the grid, the loose marks; the reference's own -/
def Vt (c : Nat) : Bool := c == 0 || c == 9 || c == 10 || c == 11 || c == 16 || c == 17 || c == 18 || c == 19 || c == 20 || c == 21 || c == 32 || c == 33 || c == 35 || c == 47 || c == 48 || c == 49 || c == 50 || c == 51 || c == 52 || c == 56
def Ft (c : Nat) : Bool := c == 22 || c == 23 || c == 24 || c == 25 || c == 53 || c == 54 || c == 55
theorem IA_ag {σ σ' : Sg} {ne nk np nt ns nf nf' : Nat} {kp kn sh : Nat → Nat} (hI : IA σ ne nk np nt ns nf kp kn sh) (h : ∀ c, Vt c = false → Ft c = false → σ' c = σ c) (h0 : σ' 0 13 = σ 0 13) (h35 : σ' 35 1 = σ 35 1 ∧ σ' 35 8 = σ 35 8 ∧ σ' 35 11 = σ 35 11 ∧ σ' 35 12 = σ 35 12 ∧ σ' 35 15 = σ 35 15) (g1 : σ' 22 3 = nI nf') (g2 : σ' 35 25 = nI nf') (g3 : nf' ≤ 700) (g4 : gF (σ' 23) (σ' 24) (σ' 25) (σ' 53) (σ' 54) (σ' 55) nf') : IA σ' ne nk np nt ns nf' kp kn sh := by
  obtain ⟨⟨n1, n2, n3, n4, n5, n6, n7, n8, n9, n10, n11, n12, n13, n14, n15, n16, n17⟩, hE, hV, hM, hK, hT, hP, hF⟩ := hI
  refine ⟨⟨?_, ?_, ?_, ?_, ?_, ?_, ?_, ?_, g1, g2, n11, n12, n13, n14, n15, g3, n17⟩, ?_, ?_, ?_, ?_, ?_, ?_, g4⟩
  · rw [h 3 rfl rfl]; exact n1
  · rw [h35.1]; exact n2
  · rw [h 3 rfl rfl]; exact n3
  · rw [h35.2.2.1]; exact n4
  · rw [h0]; exact n5
  · rw [h35.2.2.2.1]; exact n6
  · rw [h35.2.1]; exact n7
  · rw [h35.2.2.2.2]; exact n8
  · unfold gE
    rw [h 4 rfl rfl, h 36 rfl rfl, h 26 rfl rfl, h 37 rfl rfl, h 27 rfl rfl, h 38 rfl rfl, h 28 rfl rfl, h 39 rfl rfl, h 29 rfl rfl, h 40 rfl rfl, h 2 rfl rfl, h 41 rfl rfl, h 30 rfl rfl, h 45 rfl rfl, h 31 rfl rfl, h 44 rfl rfl]
    exact hE
  · rw [h 36 rfl rfl, h 37 rfl rfl, h 38 rfl rfl, h 39 rfl rfl, h 40 rfl rfl]; exact hV
  · rw [h 41 rfl rfl]; exact hM
  · rw [h 42 rfl rfl, h 43 rfl rfl]; exact hK
  · rw [h 5 rfl rfl, h 6 rfl rfl, h 7 rfl rfl, h 8 rfl rfl]; exact hT
  · rw [h 13 rfl rfl, h 14 rfl rfl, h 15 rfl rfl, h 46 rfl rfl]; exact hP
theorem Inv_ag {σ σ' : Sg} {ne nk np nt ns nf : Nat} {kp kn sh : Nat → Nat} (hI : IA σ ne nk np nt ns nf kp kn sh) (h : ∀ c, Vt c = false → c ≠ 34 → σ' c = σ c) (h0 : σ' 0 13 = σ 0 13) (h35 : σ' 35 1 = σ 35 1 ∧ σ' 35 8 = σ 35 8 ∧ σ' 35 11 = σ 35 11 ∧ σ' 35 12 = σ 35 12 ∧ σ' 35 15 = σ 35 15 ∧ σ' 35 25 = σ 35 25) : Inv σ' := by
  obtain ⟨⟨n1, n2, n3, n4, n5, n6, n7, n8, n9, n10, n11, n12, n13, n14, n15, n16, n17⟩, hE, hV, hM, hK, hT, hP, hF⟩ := hI
  refine ⟨ne, nk, np, nt, ns, nf, kp, kn, sh, ⟨?_, ?_, ?_, ?_, ?_, ?_, ?_, ?_, ?_, ?_, n11, n12, n13, n14, n15, n16, n17⟩, ?_, ?_, ?_, ?_, ?_, ?_, ?_⟩
  · rw [h 3 rfl (by decide)]; exact n1
  · rw [h35.1]; exact n2
  · rw [h 3 rfl (by decide)]; exact n3
  · rw [h35.2.2.1]; exact n4
  · rw [h0]; exact n5
  · rw [h35.2.2.2.1]; exact n6
  · rw [h35.2.1]; exact n7
  · rw [h35.2.2.2.2.1]; exact n8
  · rw [h 22 rfl (by decide)]; exact n9
  · rw [h35.2.2.2.2.2]; exact n10
  · unfold gE
    rw [h 4 rfl (by decide), h 36 rfl (by decide), h 26 rfl (by decide), h 37 rfl (by decide), h 27 rfl (by decide), h 38 rfl (by decide), h 28 rfl (by decide), h 39 rfl (by decide), h 29 rfl (by decide), h 40 rfl (by decide), h 2 rfl (by decide), h 41 rfl (by decide), h 30 rfl (by decide), h 45 rfl (by decide), h 31 rfl (by decide), h 44 rfl (by decide)]
    exact hE
  · rw [h 36 rfl (by decide), h 37 rfl (by decide), h 38 rfl (by decide), h 39 rfl (by decide), h 40 rfl (by decide)]; exact hV
  · rw [h 41 rfl (by decide)]; exact hM
  · rw [h 42 rfl (by decide), h 43 rfl (by decide)]; exact hK
  · rw [h 5 rfl (by decide), h 6 rfl (by decide), h 7 rfl (by decide), h 8 rfl (by decide)]; exact hT
  · rw [h 13 rfl (by decide), h 14 rfl (by decide), h 15 rfl (by decide), h 46 rfl (by decide)]; exact hP
  · rw [h 23 rfl (by decide), h 24 rfl (by decide), h 25 rfl (by decide), h 53 rfl (by decide), h 54 rfl (by decide), h 55 rfl (by decide)]; exact hF
def CF (N : Nat) (kn : Nat → Nat) (σ : Sg) (L : List Nat) : Prop := ∀ τ : Sg, (∀ c, 2 ≤ c → c ≤ 8 → τ c = σ c) → ∃ τ', f_X5_follow N τ = some (0, τ') ∧ τ' 9 3 = nI (0 :: els kn L).length ∧ τ' 9 4 = nI (pts kn L).length ∧ τ' 10 = wrL (τ 10) 0 (0 :: els kn L) ∧ τ' 11 = wrL (τ 11) 0 (pts kn L) ∧ ∀ c, c ≠ 9 → c ≠ 10 → c ≠ 11 → τ' c = τ c
def CH (N : Nat) (lv : Nat → Nat) (σ : Sg) (H : List Nat) : Prop := ∀ τ : Sg, (∀ c, 2 ≤ c → c ≤ 8 → τ c = σ c) → τ 26 = σ 26 → ∃ τ', f_X7_gatherHeadings N τ = some (0, τ') ∧ HC τ' lv (gl H) H.length ∧ ∀ c, c ≠ 9 → c ≠ 10 → c ≠ 11 → c ≠ 16 → c ≠ 17 → c ≠ 18 → c ≠ 19 → τ' c = τ c
def RG (N : Nat) (lv kp kn : Nat → Nat) (σ : Sg) (L H : List Nat) : Prop := ∀ τ : Sg, τ 35 8 = σ 35 8 → (∀ c, 36 ≤ c → c ≤ 43 → τ c = σ c) → ∃ τ', f_X8_go N τ = some (0, τ') ∧ τ' 35 17 = nI (0 :: L.map kn).length ∧ τ' 47 = wrL (τ 47) 0 (0 :: L.map kn) ∧ τ' 48 = wrL (τ 48) 0 (0 :: L.map kp) ∧ HR τ' lv (gl H) H.length ∧ (∀ i, i ≠ 17 → i ≠ 22 → τ' 35 i = τ 35 i) ∧ ∀ c, c ≠ 35 → c ≠ 47 → c ≠ 48 → c ≠ 49 → c ≠ 50 → c ≠ 51 → c ≠ 52 → τ' c = τ c
theorem walk_ex {σ : Sg} {ne nk np nt ns nf : Nat} {kp kn sh : Nat → Nat} (hI : IA σ ne nk np nt ns nf kp kn sh) {N : Nat} (hN9 : 20000 ≤ N) : ∃ L H : List Nat, L.Nodup ∧ (∀ t, t ∈ L → t < nk) ∧ (pts kn L).length ≤ np ∧ H.length ≤ 60 ∧ (∀ x, x ∈ H → x < ne) ∧ CF N kn σ L ∧ CH N (lvN (σ 37)) σ H ∧ RG N (lvN (σ 37)) kp kn σ L H := by
  obtain ⟨⟨n1, n2, n3, n4, n5, n6, n7, n8, n9, n10, n11, n12, n13, n14, n15, n16, n17⟩, hE, hV, hM, hK, hT, hP, hF⟩ := hI
  obtain ⟨ix, hTr⟩ := Tr_ex hK
  obtain ⟨L, hR, hL, hL2⟩ := run_0 hTr n12 n11 (fun e => std (σ 41) (σ 36 e) = 12)
  have hr : ∀ e, e < 60 → okR (σ 36 e) := fun e he => (hV.2.1 e he).1
  have hr0 : σ 36 0 = 0 := hV.1
  have hle : ∀ e, e < 60 → σ 37 e = nI (lvN (σ 37) e) ∧ lvN (σ 37) e ≤ 6 := fun e he => lvN_eq (hV.2.2.1 e he)
  have hel := els_len hTr n12 n11 hL hL2
  have hpl := pts_len hTr n12 n11 n17 hL hL2
  have hLl := pigL hL hL2
  obtain ⟨E, hEE⟩ : ∃ E, E = 0 :: els kn L := ⟨_, rfl⟩
  have hEm : ∀ x, x ∈ E → x < ne := by
    intro x hx
    rw [hEE] at hx
    rcases List.mem_cons.mp hx with g | g
    · omega
    · obtain ⟨t, t1, t2, t3⟩ := els_mem g
      rcases hTr.2.1 t (hL2 t t1) with g | g <;> omega
  have hEl : E.length ≤ 60 := by rw [hEE, List.length_cons]; omega
  have hHl := hds_le (σ 41) (σ 36) (σ 37) E
  have cf : CF N kn σ L := by
    intro τ ht
    obtain ⟨τ', t1, t2, t3, t4, t5, t6⟩ := x5_follow (N := N) (by omega) hTr n12 n11 n17 n13 hR hL hL2 (σ := τ) (by rw [ht 5 (by decide) (by decide), ht 6 (by decide) (by decide), ht 7 (by decide) (by decide), ht 8 (by decide) (by decide)]; exact hT) (by rw [ht 3 (by decide) (by decide)]; exact n1) (by rw [ht 2 (by decide) (by decide), hE.2.2.2.2.2.1]; exact hM) (by rw [ht 4 (by decide) (by decide), hE.1]; exact hr) (by rw [ht 4 (by decide) (by decide), hE.1]; exact hr0) (by rw [ht 4 (by decide) (by decide), hE.1, ht 2 (by decide) (by decide), hE.2.2.2.2.2.1]; exact fun e => Iff.rfl)
    exact ⟨τ', t1, by rw [t2, List.length_cons, Nat.add_comm], t3, t4, t5, t6⟩
  refine ⟨L, hds (σ 41) (σ 36) (σ 37) E, hL, hL2, hpl, by omega, fun x hx => hEm x (hds_mem hx), cf, ?_, ?_⟩
  · intro τ ht h26
    obtain ⟨τ', t1, t2, t3, t4, t5, t6⟩ := cf τ ht
    rw [← hEE] at t2 t4
    have hg := x7_heads (N := N) (by omega) n12 hEl (h := gl (hds (σ 41) (σ 36) (σ 37) E)) hM hr hle (fun σ18 => some (0, σ18)) E 0 0 N (ss τ' 16 3 0) (fun i' hi' => by
      show τ' 10 (0 + i') = _
      rw [t4, wrL_at hi']) hEm (by omega) t2 (by
      show τ' 3 6 = _
      rw [t6 3 (by decide) (by decide) (by decide), ht 3 (by decide) (by decide)]; exact n1) (by
      show τ' 2 = _
      rw [t6 2 (by decide) (by decide) (by decide), ht 2 (by decide) (by decide)]; exact hE.2.2.2.2.2.1) (by
      show τ' 4 = _
      rw [t6 4 (by decide) (by decide) (by decide), ht 4 (by decide) (by decide)]; exact hE.1) (by
      show τ' 26 = _
      rw [t6 26 (by decide) (by decide) (by decide), h26]; exact hE.2.1) (fun i' _ => by rw [Nat.zero_add]) (fun i' hi' => absurd hi' (by omega)) (by omega) ⟨rfl, fun i' hi' => absurd hi' (by omega)⟩ (by omega)
    obtain ⟨τ2, u1, u2, u3⟩ := hg
    rw [Nat.zero_add] at u2
    refine ⟨τ2, ?_, u2, fun c c1 c2 c3 c4 c5 c6 c7 => by rw [u3 c c4 c5 c6 c7, ss_c c4, t6 c c1 c2 c3]⟩
    rw [f_X7_gatherHeadings, t1, cI_eq, st_eq]
    exact u1
  · intro τ h8 ht
    have hK' : gK (τ 42) (τ 43) ne nk kp kn := by rw [ht 42 (by decide) (by decide), ht 43 (by decide) (by decide)]; exact hK
    have a41 : τ 41 = σ 41 := ht 41 (by decide) (by decide)
    have a36 : τ 36 = σ 36 := ht 36 (by decide) (by decide)
    have a37 : τ 37 = σ 37 := ht 37 (by decide) (by decide)
    have hME : eln (0 :: L.map kn) = E := by rw [eln, if_pos (by decide), eln_map, hEE]
    obtain ⟨τ', t1, t2, t3, t4, t5, t6⟩ := go_run (N := N) (by omega) hTr n12 (by omega) (fun e => std (σ 41) (σ 36 e) = 12) (fun σ31 => st (ss σ31 35 22 0) (fun σ32 => f_X8_go_157 N (fun σ66 => some (0, σ66)) N 0 σ32)) nk 0 0 0 L 1 N (ss (ss (ss (ss (ss (ss τ 35 17 0) 49 0 0) 50 0 0) 47 0 0) 48 0 0) 35 17 1) hR ⟨rfl, rfl, rfl⟩ (by omega) (by omega) (by omega) (by
      show τ 35 8 = _
      rw [h8]; exact n7) hK' (by
      show gM (τ 41)
      rw [a41]; exact hM) (by
      show ∀ e, e < 60 → okR (τ 36 e)
      rw [a36]; exact hr) (by
      show ∀ e, _ ↔ std (τ 41) (τ 36 e) = 12
      rw [a36, a41]; exact fun e => Iff.rfl) rfl (by omega) (by omega)
    have e47 : τ' 47 = wrL (τ 47) 0 (0 :: L.map kn) := by
      rw [t4, ← wrL_cons]
      rfl
    have e48 : τ' 48 = wrL (τ 48) 0 (0 :: L.map kp) := by
      rw [t5, ← wrL_cons]
      rfl
    have e17 : τ' 35 17 = nI (0 :: L.map kn).length := by rw [t2, List.length_cons, List.length_map, Nat.add_comm]
    have hg := x8_heads (N := N) (by omega) (nE := (0 :: L.map kn).length) (by rw [List.length_cons, List.length_map]; omega) (h := gl (hds (σ 41) (σ 36) (σ 37) E)) hM hr hle (fun σ66 => some (0, σ66)) (0 :: L.map kn) 0 0 N (ss τ' 35 22 0) (fun i' hi' => by
      show τ' 47 (0 + i') = _
      rw [e47, wrL_at hi']) (fun x hx => by
      rcases List.mem_cons.mp hx with g | g
      · exact Or.inl (by omega)
      · obtain ⟨t, t7, t8⟩ := List.mem_map.mp g
        rcases hTr.2.1 t (hL2 t t7) with g | g
        · exact Or.inl (by omega)
        · exact Or.inr (by omega)) (by omega) e17 (by
      show τ' 41 = _
      rw [t6 41 (by decide) (by decide) (by decide) (by decide) (by decide)]; exact a41) (by
      show τ' 36 = _
      rw [t6 36 (by decide) (by decide) (by decide) (by decide) (by decide)]; exact a36) (by
      show τ' 37 = _
      rw [t6 37 (by decide) (by decide) (by decide) (by decide) (by decide)]; exact a37) (fun i' _ => by rw [Nat.zero_add, hME]) (fun i' hi' => absurd hi' (by omega)) (by rw [hME]; omega) ⟨rfl, fun i' hi' => absurd hi' (by omega)⟩ (by rw [List.length_cons, List.length_map]; omega)
    obtain ⟨τ2, u1, u2, u3, u4⟩ := hg
    rw [hME, Nat.zero_add] at u2
    refine ⟨τ2, ?_, ?_, ?_, ?_, u2, fun i i1 i2 => ?_, fun c c1 c2 c3 c4 c5 c6 c7 => ?_⟩
    · rw [f_X8_go, st_eq, wrA_eq _ _ _ 0 nI_0.symm (by decide) (by decide), wrA_eq _ _ _ 0 nI_0.symm (by decide) (by decide), f_X8_meet, lt_eq, wrA_eq _ _ _ 0 (by rfl) (by decide) (by decide), lt_eq, wrA_eq _ _ _ 0 (by rfl) (by decide) (by decide), lt_eq, st_eq, cI_eq]
      have t1' := t1
      rw [nI_0, st_eq] at t1'
      refine Eq.trans t1' ?_
      exact u1
    · rw [u3 17 (by decide)]; exact e17
    · rw [u4 47 (by decide) (by decide) (by decide)]; exact e47
    · rw [u4 48 (by decide) (by decide) (by decide)]; exact e48
    · rw [u3 i i2]
      show upd (τ' 35) 22 0 i = _
      rw [upd_n i2, t3 i i1]
      show upd (upd (τ 35) 17 0) 17 1 i = _
      rw [upd_n i1, upd_n i1]
    · rw [u4 c c1 c6 c7, ss_c c1, t6 c c1 c2 c3 c4 c5, ss_c c1, ss_c c3, ss_c c2, ss_c c5, ss_c c4, ss_c c1]
