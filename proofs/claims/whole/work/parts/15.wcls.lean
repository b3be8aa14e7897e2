def f_X7_isMisplaced (N : Nat) (a1 : Int32) (a2 : Int32) (σ : Sg) : Option (Int32 × Sg) := cI (f_X7_neededParent N a1 σ) (fun v1 σ2 => if v1 = (-1) then (if a2 = 4 then (if a1 = 12 then (some (0, σ2)) else (if v1 = a2 then (some (0, σ2)) else (some (1, σ2)))) else (if a2 = 6 then (if a1 = 12 then (some (0, σ2)) else (if v1 = a2 then (some (0, σ2)) else (some (1, σ2)))) else (if a2 = 7 then (if a1 = 12 then (some (0, σ2)) else (if v1 = a2 then (some (0, σ2)) else (some (1, σ2)))) else (some (0, σ2))))) else (if a2 = v1 then (if a2 = 4 then (if a1 = 12 then (some (0, σ2)) else (if v1 = a2 then (some (0, σ2)) else (some (1, σ2)))) else (if a2 = 6 then (if a1 = 12 then (some (0, σ2)) else (if v1 = a2 then (some (0, σ2)) else (some (1, σ2)))) else (if a2 = 7 then (if a1 = 12 then (some (0, σ2)) else (if v1 = a2 then (some (0, σ2)) else (some (1, σ2)))) else (some (0, σ2))))) else (some (1, σ2))))
set_option maxHeartbeats 4000000 in
set_option maxRecDepth 100000 in
theorem w_X7_isMisplaced {z : Cz} (X : Cx z cX7_isMisplaced 4 RX7) (hR : 2 ≤ (zR z).frames ∧ 40 ≤ (zR z).locals) {res : (Int32 × Sg)} (Rt : RtI z cX7_isMisplaced 4 .boolean res) (N : Nat) (a1 : Int32) (a2 : Int32) (σ : Sg) (h : f_X7_isMisplaced N a1 a2 σ = some res) : V z 0 4 0 [(0, .int a1), (1, .int a2)] [] σ := by
  rw [f_X7_isMisplaced] at h
  refine r_iload_n X dX7_isMisplaced_0 rfl 0 rfl ?_
  refine r_callS X lk_X7_274 (c_X7_neededParent (zl z) X.2.2.2.2.2.2.2.1 N (zD z) (zy z) (zA z) (zS z) a1 σ) ⟨Nat.le_trans (by decide) hR.1, Nat.le_trans (by decide) hR.2⟩ rfl rfl (Nat.le_of_ble_eq_true rfl) dX7_isMisplaced_1 h (fun v1 σ2 h => ?_)
  refine r_istore_n X [(2, .int v1), (0, .int a1), (1, .int a2)] dX7_isMisplaced_4 rfl (by decide) rfl ?_
  refine r_iload_n X dX7_isMisplaced_5 rfl 0 rfl ?_
  refine r_iconst X (-1) dX7_isMisplaced_6 (by decide) ?_
  refine r_icmp_eq X 17 dX7_isMisplaced_7 (by decide) h (fun g3 h => ?_) (fun g3 h => ?_)
  · refine r_iload_n X dX7_isMisplaced_17 rfl 2 rfl ?_
    refine r_iconst X 4 dX7_isMisplaced_18 (by decide) ?_
    refine r_icmp_eq X 34 dX7_isMisplaced_19 (by decide) h (fun g4 h => ?_) (fun g4 h => ?_)
    · refine r_iconst X 1 dX7_isMisplaced_34 (by decide) ?_
      refine r_goto X 39 dX7_isMisplaced_35 (by decide) ?_
      refine r_istore_n X [(3, .int 1), (2, .int v1), (0, .int a1), (1, .int a2)] dX7_isMisplaced_39 rfl (by decide) rfl ?_
      refine r_iload_n X dX7_isMisplaced_40 rfl 0 rfl ?_
      refine r_if_eq_f X 59 dX7_isMisplaced_41 (by decide) (by decide) ?_
      refine r_iload_n X dX7_isMisplaced_44 rfl 2 rfl ?_
      refine r_bipush X 12 dX7_isMisplaced_45 (by decide) ?_
      refine r_icmp_eq X 59 dX7_isMisplaced_47 (by decide) h (fun g5 h => ?_) (fun g5 h => ?_)
      · refine r_iconst X 0 dX7_isMisplaced_59 (by decide) ?_
        exact r_zretC Rt dX7_isMisplaced_60 (by decide) h
      · refine r_iload_n X dX7_isMisplaced_50 rfl 1 rfl ?_
        refine r_iload_n X dX7_isMisplaced_51 rfl 3 rfl ?_
        refine r_icmp_eq X 59 dX7_isMisplaced_52 (by decide) h (fun g6 h => ?_) (fun g6 h => ?_)
        · refine r_iconst X 0 dX7_isMisplaced_59 (by decide) ?_
          exact r_zretC Rt dX7_isMisplaced_60 (by decide) h
        · refine r_iconst X 1 dX7_isMisplaced_55 (by decide) ?_
          refine r_goto X 60 dX7_isMisplaced_56 (by decide) ?_
          exact r_zretC Rt dX7_isMisplaced_60 (by decide) h
    · refine r_iload_n X dX7_isMisplaced_22 rfl 2 rfl ?_
      refine r_bipush X 6 dX7_isMisplaced_23 (by decide) ?_
      refine r_icmp_eq X 34 dX7_isMisplaced_25 (by decide) h (fun g7 h => ?_) (fun g7 h => ?_)
      · refine r_iconst X 1 dX7_isMisplaced_34 (by decide) ?_
        refine r_goto X 39 dX7_isMisplaced_35 (by decide) ?_
        refine r_istore_n X [(3, .int 1), (2, .int v1), (0, .int a1), (1, .int a2)] dX7_isMisplaced_39 rfl (by decide) rfl ?_
        refine r_iload_n X dX7_isMisplaced_40 rfl 0 rfl ?_
        refine r_if_eq_f X 59 dX7_isMisplaced_41 (by decide) (by decide) ?_
        refine r_iload_n X dX7_isMisplaced_44 rfl 2 rfl ?_
        refine r_bipush X 12 dX7_isMisplaced_45 (by decide) ?_
        refine r_icmp_eq X 59 dX7_isMisplaced_47 (by decide) h (fun g8 h => ?_) (fun g8 h => ?_)
        · refine r_iconst X 0 dX7_isMisplaced_59 (by decide) ?_
          exact r_zretC Rt dX7_isMisplaced_60 (by decide) h
        · refine r_iload_n X dX7_isMisplaced_50 rfl 1 rfl ?_
          refine r_iload_n X dX7_isMisplaced_51 rfl 3 rfl ?_
          refine r_icmp_eq X 59 dX7_isMisplaced_52 (by decide) h (fun g9 h => ?_) (fun g9 h => ?_)
          · refine r_iconst X 0 dX7_isMisplaced_59 (by decide) ?_
            exact r_zretC Rt dX7_isMisplaced_60 (by decide) h
          · refine r_iconst X 1 dX7_isMisplaced_55 (by decide) ?_
            refine r_goto X 60 dX7_isMisplaced_56 (by decide) ?_
            exact r_zretC Rt dX7_isMisplaced_60 (by decide) h
      · refine r_iload_n X dX7_isMisplaced_28 rfl 2 rfl ?_
        refine r_bipush X 7 dX7_isMisplaced_29 (by decide) ?_
        refine r_icmp_ne X 38 dX7_isMisplaced_31 (by decide) h (fun g10 h => ?_) (fun g10 h => ?_)
        · refine r_iconst X 1 dX7_isMisplaced_34 (by decide) ?_
          refine r_goto X 39 dX7_isMisplaced_35 (by decide) ?_
          refine r_istore_n X [(3, .int 1), (2, .int v1), (0, .int a1), (1, .int a2)] dX7_isMisplaced_39 rfl (by decide) rfl ?_
          refine r_iload_n X dX7_isMisplaced_40 rfl 0 rfl ?_
          refine r_if_eq_f X 59 dX7_isMisplaced_41 (by decide) (by decide) ?_
          refine r_iload_n X dX7_isMisplaced_44 rfl 2 rfl ?_
          refine r_bipush X 12 dX7_isMisplaced_45 (by decide) ?_
          refine r_icmp_eq X 59 dX7_isMisplaced_47 (by decide) h (fun g11 h => ?_) (fun g11 h => ?_)
          · refine r_iconst X 0 dX7_isMisplaced_59 (by decide) ?_
            exact r_zretC Rt dX7_isMisplaced_60 (by decide) h
          · refine r_iload_n X dX7_isMisplaced_50 rfl 1 rfl ?_
            refine r_iload_n X dX7_isMisplaced_51 rfl 3 rfl ?_
            refine r_icmp_eq X 59 dX7_isMisplaced_52 (by decide) h (fun g12 h => ?_) (fun g12 h => ?_)
            · refine r_iconst X 0 dX7_isMisplaced_59 (by decide) ?_
              exact r_zretC Rt dX7_isMisplaced_60 (by decide) h
            · refine r_iconst X 1 dX7_isMisplaced_55 (by decide) ?_
              refine r_goto X 60 dX7_isMisplaced_56 (by decide) ?_
              exact r_zretC Rt dX7_isMisplaced_60 (by decide) h
        · refine r_iconst X 0 dX7_isMisplaced_38 (by decide) ?_
          refine r_istore_n X [(3, .int 0), (2, .int v1), (0, .int a1), (1, .int a2)] dX7_isMisplaced_39 rfl (by decide) rfl ?_
          refine r_iload_n X dX7_isMisplaced_40 rfl 0 rfl ?_
          refine r_if_eq_t X 59 dX7_isMisplaced_41 (by decide) (by decide) ?_
          refine r_iconst X 0 dX7_isMisplaced_59 (by decide) ?_
          exact r_zretC Rt dX7_isMisplaced_60 (by decide) h
  · refine r_iload_n X dX7_isMisplaced_10 rfl 2 rfl ?_
    refine r_iload_n X dX7_isMisplaced_11 rfl 0 rfl ?_
    refine r_icmp_eq X 17 dX7_isMisplaced_12 (by decide) h (fun g13 h => ?_) (fun g13 h => ?_)
    · refine r_iload_n X dX7_isMisplaced_17 rfl 2 rfl ?_
      refine r_iconst X 4 dX7_isMisplaced_18 (by decide) ?_
      refine r_icmp_eq X 34 dX7_isMisplaced_19 (by decide) h (fun g14 h => ?_) (fun g14 h => ?_)
      · refine r_iconst X 1 dX7_isMisplaced_34 (by decide) ?_
        refine r_goto X 39 dX7_isMisplaced_35 (by decide) ?_
        refine r_istore_n X [(3, .int 1), (2, .int v1), (0, .int a1), (1, .int a2)] dX7_isMisplaced_39 rfl (by decide) rfl ?_
        refine r_iload_n X dX7_isMisplaced_40 rfl 0 rfl ?_
        refine r_if_eq_f X 59 dX7_isMisplaced_41 (by decide) (by decide) ?_
        refine r_iload_n X dX7_isMisplaced_44 rfl 2 rfl ?_
        refine r_bipush X 12 dX7_isMisplaced_45 (by decide) ?_
        refine r_icmp_eq X 59 dX7_isMisplaced_47 (by decide) h (fun g15 h => ?_) (fun g15 h => ?_)
        · refine r_iconst X 0 dX7_isMisplaced_59 (by decide) ?_
          exact r_zretC Rt dX7_isMisplaced_60 (by decide) h
        · refine r_iload_n X dX7_isMisplaced_50 rfl 1 rfl ?_
          refine r_iload_n X dX7_isMisplaced_51 rfl 3 rfl ?_
          refine r_icmp_eq X 59 dX7_isMisplaced_52 (by decide) h (fun g16 h => ?_) (fun g16 h => ?_)
          · refine r_iconst X 0 dX7_isMisplaced_59 (by decide) ?_
            exact r_zretC Rt dX7_isMisplaced_60 (by decide) h
          · refine r_iconst X 1 dX7_isMisplaced_55 (by decide) ?_
            refine r_goto X 60 dX7_isMisplaced_56 (by decide) ?_
            exact r_zretC Rt dX7_isMisplaced_60 (by decide) h
      · refine r_iload_n X dX7_isMisplaced_22 rfl 2 rfl ?_
        refine r_bipush X 6 dX7_isMisplaced_23 (by decide) ?_
        refine r_icmp_eq X 34 dX7_isMisplaced_25 (by decide) h (fun g17 h => ?_) (fun g17 h => ?_)
        · refine r_iconst X 1 dX7_isMisplaced_34 (by decide) ?_
          refine r_goto X 39 dX7_isMisplaced_35 (by decide) ?_
          refine r_istore_n X [(3, .int 1), (2, .int v1), (0, .int a1), (1, .int a2)] dX7_isMisplaced_39 rfl (by decide) rfl ?_
          refine r_iload_n X dX7_isMisplaced_40 rfl 0 rfl ?_
          refine r_if_eq_f X 59 dX7_isMisplaced_41 (by decide) (by decide) ?_
          refine r_iload_n X dX7_isMisplaced_44 rfl 2 rfl ?_
          refine r_bipush X 12 dX7_isMisplaced_45 (by decide) ?_
          refine r_icmp_eq X 59 dX7_isMisplaced_47 (by decide) h (fun g18 h => ?_) (fun g18 h => ?_)
          · refine r_iconst X 0 dX7_isMisplaced_59 (by decide) ?_
            exact r_zretC Rt dX7_isMisplaced_60 (by decide) h
          · refine r_iload_n X dX7_isMisplaced_50 rfl 1 rfl ?_
            refine r_iload_n X dX7_isMisplaced_51 rfl 3 rfl ?_
            refine r_icmp_eq X 59 dX7_isMisplaced_52 (by decide) h (fun g19 h => ?_) (fun g19 h => ?_)
            · refine r_iconst X 0 dX7_isMisplaced_59 (by decide) ?_
              exact r_zretC Rt dX7_isMisplaced_60 (by decide) h
            · refine r_iconst X 1 dX7_isMisplaced_55 (by decide) ?_
              refine r_goto X 60 dX7_isMisplaced_56 (by decide) ?_
              exact r_zretC Rt dX7_isMisplaced_60 (by decide) h
        · refine r_iload_n X dX7_isMisplaced_28 rfl 2 rfl ?_
          refine r_bipush X 7 dX7_isMisplaced_29 (by decide) ?_
          refine r_icmp_ne X 38 dX7_isMisplaced_31 (by decide) h (fun g20 h => ?_) (fun g20 h => ?_)
          · refine r_iconst X 1 dX7_isMisplaced_34 (by decide) ?_
            refine r_goto X 39 dX7_isMisplaced_35 (by decide) ?_
            refine r_istore_n X [(3, .int 1), (2, .int v1), (0, .int a1), (1, .int a2)] dX7_isMisplaced_39 rfl (by decide) rfl ?_
            refine r_iload_n X dX7_isMisplaced_40 rfl 0 rfl ?_
            refine r_if_eq_f X 59 dX7_isMisplaced_41 (by decide) (by decide) ?_
            refine r_iload_n X dX7_isMisplaced_44 rfl 2 rfl ?_
            refine r_bipush X 12 dX7_isMisplaced_45 (by decide) ?_
            refine r_icmp_eq X 59 dX7_isMisplaced_47 (by decide) h (fun g21 h => ?_) (fun g21 h => ?_)
            · refine r_iconst X 0 dX7_isMisplaced_59 (by decide) ?_
              exact r_zretC Rt dX7_isMisplaced_60 (by decide) h
            · refine r_iload_n X dX7_isMisplaced_50 rfl 1 rfl ?_
              refine r_iload_n X dX7_isMisplaced_51 rfl 3 rfl ?_
              refine r_icmp_eq X 59 dX7_isMisplaced_52 (by decide) h (fun g22 h => ?_) (fun g22 h => ?_)
              · refine r_iconst X 0 dX7_isMisplaced_59 (by decide) ?_
                exact r_zretC Rt dX7_isMisplaced_60 (by decide) h
              · refine r_iconst X 1 dX7_isMisplaced_55 (by decide) ?_
                refine r_goto X 60 dX7_isMisplaced_56 (by decide) ?_
                exact r_zretC Rt dX7_isMisplaced_60 (by decide) h
          · refine r_iconst X 0 dX7_isMisplaced_38 (by decide) ?_
            refine r_istore_n X [(3, .int 0), (2, .int v1), (0, .int a1), (1, .int a2)] dX7_isMisplaced_39 rfl (by decide) rfl ?_
            refine r_iload_n X dX7_isMisplaced_40 rfl 0 rfl ?_
            refine r_if_eq_t X 59 dX7_isMisplaced_41 (by decide) (by decide) ?_
            refine r_iconst X 0 dX7_isMisplaced_59 (by decide) ?_
            exact r_zretC Rt dX7_isMisplaced_60 (by decide) h
    · refine r_iconst X 1 dX7_isMisplaced_15 (by decide) ?_
      exact r_zretC Rt dX7_isMisplaced_16 (by decide) h
theorem c_X7_isMisplaced (l : Launch) (hl : l.stackTraces = false) (N : Nat) (D : va_G) (cy : Nat → ClassId) (ad sa : Nat → Nat) (a1 : Int32) (a2 : Int32) (σ : Sg) : CtI l yX7_isMisplaced cX7_isMisplaced 4 (some .boolean) 2 40 D cy ad sa [.int a1, .int a2] σ (f_X7_isMisplaced N a1 a2 σ) :=
  ct_I hl (by decide +kernel) (Nat.le_of_ble_eq_true rfl) (fun z res e1 e2 e3 e4 e5 e6 X Rt h => by subst e1 e2 e3 e4 e5; exact w_X7_isMisplaced X ⟨e6.1, e6.2⟩ Rt N a1 a2 σ h)
def f_X7_findMisplaced_2 (N : Nat) (K : Sg → Option (Int32 × Sg)) : Nat → Int32 → Sg → Option (Int32 × Sg)
  | 0, _, _ => none
  | n + 1, x1, σ => lt (σ 3 6) (fun v1 => if v1 ≤ x1 then (K σ) else (cI (f_X6_standardOf N x1 σ) (fun v3 σ4 => cI (f_X6_parentOf N x1 σ4) (fun v5 σ6 => cI (f_X6_standardOf N v5 σ6) (fun v7 σ8 => cI (f_X7_isMisplaced N v3 v7 σ8) (fun v9 σ10 => if v9 = 0 then (lt (x1 + 1) (fun v12 => f_X7_findMisplaced_2 N K n v12 σ10)) else (cI (f_X0_append N 4 x1 0 σ10) (fun v13 σ14 => lt (x1 + 1) (fun v15 => f_X7_findMisplaced_2 N K n v15 σ14)))))))))
def f_X7_findMisplaced (N : Nat) (σ : Sg) : Option (Int32 × Sg) := f_X7_findMisplaced_2 N (fun σ16 => some (0, σ16)) N 1 σ
set_option maxHeartbeats 4000000 in
set_option maxRecDepth 100000 in
theorem w_X7_findMisplaced_2 {z : Cz} (X : Cx z cX7_findMisplaced 2 RX7) (hR : 3 ≤ (zR z).frames ∧ 64 ≤ (zR z).locals) {res : (Int32 × Sg)} (N : Nat) (K : Sg → Option (Int32 × Sg)) (kx : ∀ (σ : Sg), K σ = some res → V z 0 2 58 [] [] σ) : ∀ (n : Nat) (x1 : Int32) (σ : Sg), f_X7_findMisplaced_2 N K n x1 σ = some res → V z 0 2 2 [(0, .ref (zA z 0)), (1, .int x1)] [] σ := by
  intro n
  induction n with
  | zero =>
    intro x1 σ h
    rw [f_X7_findMisplaced_2] at h
    cases h
  | succ n ih =>
    intro x1 σ h
    rw [f_X7_findMisplaced_2] at h
    refine r_iload_n X dX7_findMisplaced_2 rfl 1 rfl ?_
    refine r_aload_n X dX7_findMisplaced_3 rfl 0 rfl ?_
    refine gf_X7_21 X dX7_findMisplaced_4 ?_
    refine gf_X7_116 X dX7_findMisplaced_7 h (fun v1 h => ?_)
    refine r_icmp_ge X 58 dX7_findMisplaced_10 (by decide) h (fun g2 h => ?_) (fun g2 h => ?_)
    · refine r_sub [] rfl ?_
      exact kx  σ h
    · refine r_aload_n X dX7_findMisplaced_13 rfl 0 rfl ?_
      refine gf_X7_21 X dX7_findMisplaced_14 ?_
      refine r_iload_n X dX7_findMisplaced_17 rfl 1 rfl ?_
      refine r_callV X 3 6 (by decide) rfl rfl rfl lk_X7_253 (c_X6_standardOf (zl z) X.2.2.2.2.2.2.2.1 N (zD z) (zy z) (zA z) (zS z) x1 σ) ⟨Nat.le_trans (by decide) hR.1, Nat.le_trans (by decide) hR.2⟩ rfl rfl (Nat.le_of_ble_eq_true rfl) dX7_findMisplaced_18 h (fun v3 σ4 h => ?_)
      refine r_aload_n X dX7_findMisplaced_21 rfl 0 rfl ?_
      refine gf_X7_21 X dX7_findMisplaced_22 ?_
      refine r_aload_n X dX7_findMisplaced_25 rfl 0 rfl ?_
      refine gf_X7_21 X dX7_findMisplaced_26 ?_
      refine r_iload_n X dX7_findMisplaced_29 rfl 1 rfl ?_
      refine r_callV X 3 6 (by decide) rfl rfl rfl lk_X7_268 (c_X6_parentOf (zl z) X.2.2.2.2.2.2.2.1 N (zD z) (zy z) (zA z) (zS z) x1 σ4) ⟨Nat.le_trans (by decide) hR.1, Nat.le_trans (by decide) hR.2⟩ rfl rfl (Nat.le_of_ble_eq_true rfl) dX7_findMisplaced_30 h (fun v5 σ6 h => ?_)
      refine r_callV X 3 6 (by decide) rfl rfl rfl lk_X7_253 (c_X6_standardOf (zl z) X.2.2.2.2.2.2.2.1 N (zD z) (zy z) (zA z) (zS z) v5 σ6) ⟨Nat.le_trans (by decide) hR.1, Nat.le_trans (by decide) hR.2⟩ rfl rfl (Nat.le_of_ble_eq_true rfl) dX7_findMisplaced_33 h (fun v7 σ8 h => ?_)
      refine r_callS X lk_X7_271 (c_X7_isMisplaced (zl z) X.2.2.2.2.2.2.2.1 N (zD z) (zy z) (zA z) (zS z) v3 v7 σ8) ⟨Nat.le_trans (by decide) hR.1, Nat.le_trans (by decide) hR.2⟩ rfl rfl (Nat.le_of_ble_eq_true rfl) dX7_findMisplaced_36 h (fun v9 σ10 h => ?_)
      refine r_if_eq X 52 dX7_findMisplaced_39 (by decide) h (fun g11 h => ?_) (fun g11 h => ?_)
      · refine r_iinc X 1 (fun v12 => [(1, .int v12), (0, .ref (zA z 0))]) dX7_findMisplaced_52 1 rfl (by decide) (by decide) (fun _ => rfl) h (fun v12 h => ?_)
        refine r_goto X 2 dX7_findMisplaced_55 (by decide) ?_
        refine r_sub [1, 0] rfl ?_
        exact ih v12 σ10 h
      · refine r_aload_n X dX7_findMisplaced_42 rfl 0 rfl ?_
        refine gf_X7_58 X dX7_findMisplaced_43 ?_
        refine r_iconst X 4 dX7_findMisplaced_46 (by decide) ?_
        refine r_iload_n X dX7_findMisplaced_47 rfl 1 rfl ?_
        refine r_iconst X 0 dX7_findMisplaced_48 (by decide) ?_
        refine r_callVv X 22 0 (by decide) rfl rfl rfl lk_X7_265 (c_X0_append (zl z) X.2.2.2.2.2.2.2.1 N (zD z) (zy z) (zA z) (zS z) 4 x1 0 σ10) ⟨Nat.le_trans (by decide) hR.1, Nat.le_trans (by decide) hR.2⟩ rfl rfl (Nat.le_of_ble_eq_true rfl) dX7_findMisplaced_49 h (fun v13 σ14 h => ?_)
        refine r_iinc X 1 (fun v15 => [(1, .int v15), (0, .ref (zA z 0))]) dX7_findMisplaced_52 1 rfl (by decide) (by decide) (fun _ => rfl) h (fun v15 h => ?_)
        refine r_goto X 2 dX7_findMisplaced_55 (by decide) ?_
        refine r_sub [1, 0] rfl ?_
        exact ih v15 σ14 h
set_option maxHeartbeats 4000000 in
set_option maxRecDepth 100000 in
theorem w_X7_findMisplaced {z : Cz} (X : Cx z cX7_findMisplaced 2 RX7) (hR : 3 ≤ (zR z).frames ∧ 64 ≤ (zR z).locals) {res : (Int32 × Sg)} (Rt : RtV z cX7_findMisplaced 2 res) (N : Nat) (σ : Sg) (h : f_X7_findMisplaced N σ = some res) : V z 0 2 0 [(0, .ref (zA z 0))] [] σ := by
  rw [f_X7_findMisplaced] at h
  refine r_iconst X 1 dX7_findMisplaced_0 (by decide) ?_
  refine r_istore_n X [(1, .int 1), (0, .ref (zA z 0))] dX7_findMisplaced_1 rfl (by decide) rfl ?_
  refine r_sub [1, 0] rfl ?_
  refine w_X7_findMisplaced_2 X hR N _ (fun σ16 h => ?_) N 1 σ h
  exact r_vret Rt dX7_findMisplaced_58 h
theorem c_X7_findMisplaced (l : Launch) (hl : l.stackTraces = false) (N : Nat) (D : va_G) (cy : Nat → ClassId) (ad sa : Nat → Nat) (σ : Sg) : CtV l yX7_findMisplaced cX7_findMisplaced 2 3 64 D cy ad sa [.ref (ad 0)] σ (f_X7_findMisplaced N σ) :=
  ct_V hl (by decide +kernel) (Nat.le_of_ble_eq_true rfl) (fun z res e1 e2 e3 e4 e5 e6 X Rt h => by subst e1 e2 e3 e4 e5; exact w_X7_findMisplaced X ⟨e6.1, e6.2⟩ Rt N σ h)
def f_X7_layCells_4 (N : Nat) (x1 : Int32) (K : Sg → Option (Int32 × Sg)) : Nat → Int32 → Sg → Option (Int32 × Sg)
  | 0, _, _ => none
  | n + 1, x2, σ => lt (σ 3 6) (fun v2 => if v2 ≤ x2 then (K σ) else (cI (f_X6_parentOf N x2 σ) (fun v4 σ5 => if v4 = x1 then (cI (f_X6_standardOf N x2 σ5) (fun v8 σ9 => cI (f_X7_isCell N v8 σ9) (fun v10 σ11 => if v10 = 0 then (lt (x2 + 1) (fun v13 => f_X7_layCells_4 N x1 K n v13 σ11)) else (rdA 60 (σ11 28) x2 (fun v14 => rdA 60 (σ11 29) x2 (fun v15 => cI (f_X1_lay N v14 v15 σ11) (fun v16 σ17 => lt (x2 + 1) (fun v18 => f_X7_layCells_4 N x1 K n v18 σ17)))))))) else (lt (x2 + 1) (fun v7 => f_X7_layCells_4 N x1 K n v7 σ5)))))
def f_X7_layCells (N : Nat) (a1 : Int32) (σ : Sg) : Option (Int32 × Sg) := lt (a1 + 1) (fun v1 => f_X7_layCells_4 N a1 (fun σ19 => some (0, σ19)) N v1 σ)
set_option maxHeartbeats 4000000 in
set_option maxRecDepth 100000 in
theorem w_X7_layCells_4 {z : Cz} (X : Cx z cX7_layCells 3 RX7) (hR : 3 ≤ (zR z).frames ∧ 64 ≤ (zR z).locals) {res : (Int32 × Sg)} (N : Nat) (x1 : Int32) (K : Sg → Option (Int32 × Sg)) (kx : ∀ (σ : Sg), K σ = some res → V z 0 3 66 [] [] σ) : ∀ (n : Nat) (x2 : Int32) (σ : Sg), f_X7_layCells_4 N x1 K n x2 σ = some res → V z 0 3 4 [(0, .ref (zA z 0)), (1, .int x1), (2, .int x2)] [] σ := by
  intro n
  induction n with
  | zero =>
    intro x2 σ h
    rw [f_X7_layCells_4] at h
    cases h
  | succ n ih =>
    intro x2 σ h
    rw [f_X7_layCells_4] at h
    refine r_iload_n X dX7_layCells_4 rfl 2 rfl ?_
    refine r_aload_n X dX7_layCells_5 rfl 0 rfl ?_
    refine gf_X7_21 X dX7_layCells_6 ?_
    refine gf_X7_116 X dX7_layCells_9 h (fun v2 h => ?_)
    refine r_icmp_ge X 66 dX7_layCells_12 (by decide) h (fun g3 h => ?_) (fun g3 h => ?_)
    · refine r_sub [] rfl ?_
      exact kx  σ h
    · refine r_aload_n X dX7_layCells_15 rfl 0 rfl ?_
      refine gf_X7_21 X dX7_layCells_16 ?_
      refine r_iload_n X dX7_layCells_19 rfl 2 rfl ?_
      refine r_callV X 3 6 (by decide) rfl rfl rfl lk_X7_268 (c_X6_parentOf (zl z) X.2.2.2.2.2.2.2.1 N (zD z) (zy z) (zA z) (zS z) x2 σ) ⟨Nat.le_trans (by decide) hR.1, Nat.le_trans (by decide) hR.2⟩ rfl rfl (Nat.le_of_ble_eq_true rfl) dX7_layCells_20 h (fun v4 σ5 h => ?_)
      refine r_iload_n X dX7_layCells_23 rfl 1 rfl ?_
      refine r_icmp_ne X 60 dX7_layCells_24 (by decide) h (fun g6 h => ?_) (fun g6 h => ?_)
      · refine r_aload_n X dX7_layCells_27 rfl 0 rfl ?_
        refine gf_X7_21 X dX7_layCells_28 ?_
        refine r_iload_n X dX7_layCells_31 rfl 2 rfl ?_
        refine r_callV X 3 6 (by decide) rfl rfl rfl lk_X7_253 (c_X6_standardOf (zl z) X.2.2.2.2.2.2.2.1 N (zD z) (zy z) (zA z) (zS z) x2 σ5) ⟨Nat.le_trans (by decide) hR.1, Nat.le_trans (by decide) hR.2⟩ rfl rfl (Nat.le_of_ble_eq_true rfl) dX7_layCells_32 h (fun v8 σ9 h => ?_)
        refine r_callS X lk_X7_277 (c_X7_isCell (zl z) X.2.2.2.2.2.2.2.1 N (zD z) (zy z) (zA z) (zS z) v8 σ9) ⟨Nat.le_trans (by decide) hR.1, Nat.le_trans (by decide) hR.2⟩ rfl rfl (Nat.le_of_ble_eq_true rfl) dX7_layCells_35 h (fun v10 σ11 h => ?_)
        refine r_if_eq X 60 dX7_layCells_38 (by decide) h (fun g12 h => ?_) (fun g12 h => ?_)
        · refine r_iinc X 1 (fun v13 => [(2, .int v13), (0, .ref (zA z 0)), (1, .int x1)]) dX7_layCells_60 2 rfl (by decide) (by decide) (fun _ => rfl) h (fun v13 h => ?_)
          refine r_goto X 4 dX7_layCells_63 (by decide) ?_
          refine r_sub [1, 2, 0] rfl ?_
          exact ih v13 σ11 h
        · refine r_aload_n X dX7_layCells_41 rfl 0 rfl ?_
          refine gf_X7_51 X dX7_layCells_42 ?_
          refine r_aload_n X dX7_layCells_45 rfl 0 rfl ?_
          refine gf_X7_70 X dX7_layCells_46 ?_
          refine r_iload_n X dX7_layCells_49 rfl 2 rfl ?_
          refine al_28 X dX7_layCells_50 h (fun v14 h => ?_)
          refine r_aload_n X dX7_layCells_51 rfl 0 rfl ?_
          refine gf_X7_73 X dX7_layCells_52 ?_
          refine r_iload_n X dX7_layCells_55 rfl 2 rfl ?_
          refine al_29 X dX7_layCells_56 h (fun v15 h => ?_)
          refine r_callVv X 20 1 (by decide) rfl rfl rfl lk_X7_299 (c_X1_lay (zl z) X.2.2.2.2.2.2.2.1 N (zD z) (zy z) (zA z) (zS z) v14 v15 σ11) ⟨Nat.le_trans (by decide) hR.1, Nat.le_trans (by decide) hR.2⟩ rfl rfl (Nat.le_of_ble_eq_true rfl) dX7_layCells_57 h (fun v16 σ17 h => ?_)
          refine r_iinc X 1 (fun v18 => [(2, .int v18), (0, .ref (zA z 0)), (1, .int x1)]) dX7_layCells_60 2 rfl (by decide) (by decide) (fun _ => rfl) h (fun v18 h => ?_)
          refine r_goto X 4 dX7_layCells_63 (by decide) ?_
          refine r_sub [1, 2, 0] rfl ?_
          exact ih v18 σ17 h
      · refine r_iinc X 1 (fun v7 => [(2, .int v7), (0, .ref (zA z 0)), (1, .int x1)]) dX7_layCells_60 2 rfl (by decide) (by decide) (fun _ => rfl) h (fun v7 h => ?_)
        refine r_goto X 4 dX7_layCells_63 (by decide) ?_
        refine r_sub [1, 2, 0] rfl ?_
        exact ih v7 σ5 h
set_option maxHeartbeats 4000000 in
set_option maxRecDepth 100000 in
theorem w_X7_layCells {z : Cz} (X : Cx z cX7_layCells 3 RX7) (hR : 3 ≤ (zR z).frames ∧ 64 ≤ (zR z).locals) {res : (Int32 × Sg)} (Rt : RtV z cX7_layCells 3 res) (N : Nat) (a1 : Int32) (σ : Sg) (h : f_X7_layCells N a1 σ = some res) : V z 0 3 0 [(0, .ref (zA z 0)), (1, .int a1)] [] σ := by
  rw [f_X7_layCells] at h
  refine r_iload_n X dX7_layCells_0 rfl 1 rfl ?_
  refine r_iconst X 1 dX7_layCells_1 (by decide) ?_
  refine r_iadd X dX7_layCells_2 ?_
  refine r_lt h (fun v1 h => ?_)
  refine r_istore_n X [(2, .int v1), (0, .ref (zA z 0)), (1, .int a1)] dX7_layCells_3 rfl (by decide) rfl ?_
  refine r_sub [1, 2, 0] rfl ?_
  refine w_X7_layCells_4 X hR N a1 _ (fun σ19 h => ?_) N v1 σ h
  exact r_vret Rt dX7_layCells_66 h
theorem c_X7_layCells (l : Launch) (hl : l.stackTraces = false) (N : Nat) (D : va_G) (cy : Nat → ClassId) (ad sa : Nat → Nat) (a1 : Int32) (σ : Sg) : CtV l yX7_layCells cX7_layCells 3 3 64 D cy ad sa [.ref (ad 0), .int a1] σ (f_X7_layCells N a1 σ) :=
  ct_V hl (by decide +kernel) (Nat.le_of_ble_eq_true rfl) (fun z res e1 e2 e3 e4 e5 e6 X Rt h => by subst e1 e2 e3 e4 e5; exact w_X7_layCells X ⟨e6.1, e6.2⟩ Rt N a1 σ h)
def f_X7_isUneven_11 (N : Nat) (x1 : Int32) (K : Sg → Option (Int32 × Sg)) : Nat → Int32 → Sg → Option (Int32 × Sg)
  | 0, _, _ => none
  | n + 1, x2, σ => lt (σ 3 6) (fun v4 => if v4 ≤ x2 then (K σ) else (cI (f_X6_parentOf N x2 σ) (fun v6 σ7 => if v6 = x1 then (cI (f_X6_standardOf N x2 σ7) (fun v10 σ11 => if v10 = 7 then (cI (f_X1_beginRow N σ11) (fun v14 σ15 => cI (f_X7_layCells N x2 σ15) (fun v16 σ17 => cI (f_X1_endRow N σ17) (fun v18 σ19 => lt (x2 + 1) (fun v20 => f_X7_isUneven_11 N x1 K n v20 σ19))))) else (lt (x2 + 1) (fun v13 => f_X7_isUneven_11 N x1 K n v13 σ11)))) else (lt (x2 + 1) (fun v9 => f_X7_isUneven_11 N x1 K n v9 σ7)))))
def f_X7_isUneven (N : Nat) (a1 : Int32) (σ : Sg) : Option (Int32 × Sg) := cI (f_X1_clear N σ) (fun v1 σ2 => lt (a1 + 1) (fun v3 => f_X7_isUneven_11 N a1 (fun σ21 => lt (σ21 20 5) (fun v22 => gd (v22 = 0 ∨ v22 = 1) (some (v22, σ21)))) N v3 σ2))
set_option maxHeartbeats 4000000 in
set_option maxRecDepth 100000 in
theorem w_X7_isUneven_11 {z : Cz} (X : Cx z cX7_isUneven 3 RX7) (hR : 4 ≤ (zR z).frames ∧ 86 ≤ (zR z).locals) {res : (Int32 × Sg)} (N : Nat) (x1 : Int32) (K : Sg → Option (Int32 × Sg)) (kx : ∀ (σ : Sg), K σ = some res → V z 0 3 72 [(0, .ref (zA z 0))] [] σ) : ∀ (n : Nat) (x2 : Int32) (σ : Sg), f_X7_isUneven_11 N x1 K n x2 σ = some res → V z 0 3 11 [(0, .ref (zA z 0)), (1, .int x1), (2, .int x2)] [] σ := by
  intro n
  induction n with
  | zero =>
    intro x2 σ h
    rw [f_X7_isUneven_11] at h
    cases h
  | succ n ih =>
    intro x2 σ h
    rw [f_X7_isUneven_11] at h
    refine r_iload_n X dX7_isUneven_11 rfl 2 rfl ?_
    refine r_aload_n X dX7_isUneven_12 rfl 0 rfl ?_
    refine gf_X7_21 X dX7_isUneven_13 ?_
    refine gf_X7_116 X dX7_isUneven_16 h (fun v4 h => ?_)
    refine r_icmp_ge X 72 dX7_isUneven_19 (by decide) h (fun g5 h => ?_) (fun g5 h => ?_)
    · refine r_sub [0] rfl ?_
      exact kx  σ h
    · refine r_aload_n X dX7_isUneven_22 rfl 0 rfl ?_
      refine gf_X7_21 X dX7_isUneven_23 ?_
      refine r_iload_n X dX7_isUneven_26 rfl 2 rfl ?_
      refine r_callV X 3 6 (by decide) rfl rfl rfl lk_X7_268 (c_X6_parentOf (zl z) X.2.2.2.2.2.2.2.1 N (zD z) (zy z) (zA z) (zS z) x2 σ) ⟨Nat.le_trans (by decide) hR.1, Nat.le_trans (by decide) hR.2⟩ rfl rfl (Nat.le_of_ble_eq_true rfl) dX7_isUneven_27 h (fun v6 σ7 h => ?_)
      refine r_iload_n X dX7_isUneven_30 rfl 1 rfl ?_
      refine r_icmp_ne X 66 dX7_isUneven_31 (by decide) h (fun g8 h => ?_) (fun g8 h => ?_)
      · refine r_aload_n X dX7_isUneven_34 rfl 0 rfl ?_
        refine gf_X7_21 X dX7_isUneven_35 ?_
        refine r_iload_n X dX7_isUneven_38 rfl 2 rfl ?_
        refine r_callV X 3 6 (by decide) rfl rfl rfl lk_X7_253 (c_X6_standardOf (zl z) X.2.2.2.2.2.2.2.1 N (zD z) (zy z) (zA z) (zS z) x2 σ7) ⟨Nat.le_trans (by decide) hR.1, Nat.le_trans (by decide) hR.2⟩ rfl rfl (Nat.le_of_ble_eq_true rfl) dX7_isUneven_39 h (fun v10 σ11 h => ?_)
        refine r_bipush X 7 dX7_isUneven_42 (by decide) ?_
        refine r_icmp_ne X 66 dX7_isUneven_44 (by decide) h (fun g12 h => ?_) (fun g12 h => ?_)
        · refine r_aload_n X dX7_isUneven_47 rfl 0 rfl ?_
          refine gf_X7_51 X dX7_isUneven_48 ?_
          refine r_callVv X 20 1 (by decide) rfl rfl rfl lk_X7_286 (c_X1_beginRow (zl z) X.2.2.2.2.2.2.2.1 N (zD z) (zy z) (zA z) (zS z) σ11) ⟨Nat.le_trans (by decide) hR.1, Nat.le_trans (by decide) hR.2⟩ rfl rfl (Nat.le_of_ble_eq_true rfl) dX7_isUneven_51 h (fun v14 σ15 h => ?_)
          refine r_aload_n X dX7_isUneven_54 rfl 0 rfl ?_
          refine r_iload_n X dX7_isUneven_55 rfl 2 rfl ?_
          refine r_callVv X 0 7 (by decide) rfl rfl rfl lk_X7_289 (c_X7_layCells (zl z) X.2.2.2.2.2.2.2.1 N (zD z) (zy z) (zA z) (zS z) x2 σ15) ⟨Nat.le_trans (by decide) hR.1, Nat.le_trans (by decide) hR.2⟩ rfl rfl (Nat.le_of_ble_eq_true rfl) dX7_isUneven_56 h (fun v16 σ17 h => ?_)
          refine r_aload_n X dX7_isUneven_59 rfl 0 rfl ?_
          refine gf_X7_51 X dX7_isUneven_60 ?_
          refine r_callVv X 20 1 (by decide) rfl rfl rfl lk_X7_292 (c_X1_endRow (zl z) X.2.2.2.2.2.2.2.1 N (zD z) (zy z) (zA z) (zS z) σ17) ⟨Nat.le_trans (by decide) hR.1, Nat.le_trans (by decide) hR.2⟩ rfl rfl (Nat.le_of_ble_eq_true rfl) dX7_isUneven_63 h (fun v18 σ19 h => ?_)
          refine r_iinc X 1 (fun v20 => [(2, .int v20), (0, .ref (zA z 0)), (1, .int x1)]) dX7_isUneven_66 2 rfl (by decide) (by decide) (fun _ => rfl) h (fun v20 h => ?_)
          refine r_goto X 11 dX7_isUneven_69 (by decide) ?_
          refine r_sub [1, 2, 0] rfl ?_
          exact ih v20 σ19 h
        · refine r_iinc X 1 (fun v13 => [(2, .int v13), (0, .ref (zA z 0)), (1, .int x1)]) dX7_isUneven_66 2 rfl (by decide) (by decide) (fun _ => rfl) h (fun v13 h => ?_)
          refine r_goto X 11 dX7_isUneven_69 (by decide) ?_
          refine r_sub [1, 2, 0] rfl ?_
          exact ih v13 σ11 h
      · refine r_iinc X 1 (fun v9 => [(2, .int v9), (0, .ref (zA z 0)), (1, .int x1)]) dX7_isUneven_66 2 rfl (by decide) (by decide) (fun _ => rfl) h (fun v9 h => ?_)
        refine r_goto X 11 dX7_isUneven_69 (by decide) ?_
        refine r_sub [1, 2, 0] rfl ?_
        exact ih v9 σ7 h
set_option maxHeartbeats 4000000 in
set_option maxRecDepth 100000 in
theorem w_X7_isUneven {z : Cz} (X : Cx z cX7_isUneven 3 RX7) (hR : 4 ≤ (zR z).frames ∧ 86 ≤ (zR z).locals) {res : (Int32 × Sg)} (Rt : RtI z cX7_isUneven 3 .boolean res) (N : Nat) (a1 : Int32) (σ : Sg) (h : f_X7_isUneven N a1 σ = some res) : V z 0 3 0 [(0, .ref (zA z 0)), (1, .int a1)] [] σ := by
  rw [f_X7_isUneven] at h
  refine r_aload_n X dX7_isUneven_0 rfl 0 rfl ?_
  refine gf_X7_51 X dX7_isUneven_1 ?_
  refine r_callVv X 20 1 (by decide) rfl rfl rfl lk_X7_283 (c_X1_clear (zl z) X.2.2.2.2.2.2.2.1 N (zD z) (zy z) (zA z) (zS z) σ) ⟨Nat.le_trans (by decide) hR.1, Nat.le_trans (by decide) hR.2⟩ rfl rfl (Nat.le_of_ble_eq_true rfl) dX7_isUneven_4 h (fun v1 σ2 h => ?_)
  refine r_iload_n X dX7_isUneven_7 rfl 1 rfl ?_
  refine r_iconst X 1 dX7_isUneven_8 (by decide) ?_
  refine r_iadd X dX7_isUneven_9 ?_
  refine r_lt h (fun v3 h => ?_)
  refine r_istore_n X [(2, .int v3), (0, .ref (zA z 0)), (1, .int a1)] dX7_isUneven_10 rfl (by decide) rfl ?_
  refine r_sub [1, 2, 0] rfl ?_
  refine w_X7_isUneven_11 X hR N a1 _ (fun σ21 h => ?_) N v3 σ2 h
  refine r_aload_n X dX7_isUneven_72 rfl 0 rfl ?_
  refine gf_X7_51 X dX7_isUneven_73 ?_
  refine gf_X7_295 X dX7_isUneven_76 h (fun v22 h => ?_)
  exact r_zret Rt dX7_isUneven_79 h
theorem c_X7_isUneven (l : Launch) (hl : l.stackTraces = false) (N : Nat) (D : va_G) (cy : Nat → ClassId) (ad sa : Nat → Nat) (a1 : Int32) (σ : Sg) : CtI l yX7_isUneven cX7_isUneven 3 (some .boolean) 4 86 D cy ad sa [.ref (ad 0), .int a1] σ (f_X7_isUneven N a1 σ) :=
  ct_I hl (by decide +kernel) (Nat.le_of_ble_eq_true rfl) (fun z res e1 e2 e3 e4 e5 e6 X Rt h => by subst e1 e2 e3 e4 e5; exact w_X7_isUneven X ⟨e6.1, e6.2⟩ Rt N a1 σ h)
def f_X7_findUnevenTables_2 (N : Nat) (K : Sg → Option (Int32 × Sg)) : Nat → Int32 → Sg → Option (Int32 × Sg)
  | 0, _, _ => none
  | n + 1, x1, σ => lt (σ 3 6) (fun v1 => if v1 ≤ x1 then (K σ) else (cI (f_X6_standardOf N x1 σ) (fun v3 σ4 => if v3 = 6 then (cI (f_X7_isUneven N x1 σ4) (fun v7 σ8 => if v7 = 0 then (lt (x1 + 1) (fun v10 => f_X7_findUnevenTables_2 N K n v10 σ8)) else (cI (f_X0_append N 5 x1 0 σ8) (fun v11 σ12 => lt (x1 + 1) (fun v13 => f_X7_findUnevenTables_2 N K n v13 σ12))))) else (lt (x1 + 1) (fun v6 => f_X7_findUnevenTables_2 N K n v6 σ4)))))
def f_X7_findUnevenTables (N : Nat) (σ : Sg) : Option (Int32 × Sg) := f_X7_findUnevenTables_2 N (fun σ14 => some (0, σ14)) N 0 σ
set_option maxHeartbeats 4000000 in
set_option maxRecDepth 100000 in
theorem w_X7_findUnevenTables_2 {z : Cz} (X : Cx z cX7_findUnevenTables 2 RX7) (hR : 5 ≤ (zR z).frames ∧ 108 ≤ (zR z).locals) {res : (Int32 × Sg)} (N : Nat) (K : Sg → Option (Int32 × Sg)) (kx : ∀ (σ : Sg), K σ = some res → V z 0 2 50 [] [] σ) : ∀ (n : Nat) (x1 : Int32) (σ : Sg), f_X7_findUnevenTables_2 N K n x1 σ = some res → V z 0 2 2 [(0, .ref (zA z 0)), (1, .int x1)] [] σ := by
  intro n
  induction n with
  | zero =>
    intro x1 σ h
    rw [f_X7_findUnevenTables_2] at h
    cases h
  | succ n ih =>
    intro x1 σ h
    rw [f_X7_findUnevenTables_2] at h
    refine r_iload_n X dX7_findUnevenTables_2 rfl 1 rfl ?_
    refine r_aload_n X dX7_findUnevenTables_3 rfl 0 rfl ?_
    refine gf_X7_21 X dX7_findUnevenTables_4 ?_
    refine gf_X7_116 X dX7_findUnevenTables_7 h (fun v1 h => ?_)
    refine r_icmp_ge X 50 dX7_findUnevenTables_10 (by decide) h (fun g2 h => ?_) (fun g2 h => ?_)
    · refine r_sub [] rfl ?_
      exact kx  σ h
    · refine r_aload_n X dX7_findUnevenTables_13 rfl 0 rfl ?_
      refine gf_X7_21 X dX7_findUnevenTables_14 ?_
      refine r_iload_n X dX7_findUnevenTables_17 rfl 1 rfl ?_
      refine r_callV X 3 6 (by decide) rfl rfl rfl lk_X7_253 (c_X6_standardOf (zl z) X.2.2.2.2.2.2.2.1 N (zD z) (zy z) (zA z) (zS z) x1 σ) ⟨Nat.le_trans (by decide) hR.1, Nat.le_trans (by decide) hR.2⟩ rfl rfl (Nat.le_of_ble_eq_true rfl) dX7_findUnevenTables_18 h (fun v3 σ4 h => ?_)
      refine r_bipush X 6 dX7_findUnevenTables_21 (by decide) ?_
      refine r_icmp_ne X 44 dX7_findUnevenTables_23 (by decide) h (fun g5 h => ?_) (fun g5 h => ?_)
      · refine r_aload_n X dX7_findUnevenTables_26 rfl 0 rfl ?_
        refine r_iload_n X dX7_findUnevenTables_27 rfl 1 rfl ?_
        refine r_callV X 0 7 (by decide) rfl rfl rfl lk_X7_280 (c_X7_isUneven (zl z) X.2.2.2.2.2.2.2.1 N (zD z) (zy z) (zA z) (zS z) x1 σ4) ⟨Nat.le_trans (by decide) hR.1, Nat.le_trans (by decide) hR.2⟩ rfl rfl (Nat.le_of_ble_eq_true rfl) dX7_findUnevenTables_28 h (fun v7 σ8 h => ?_)
        refine r_if_eq X 44 dX7_findUnevenTables_31 (by decide) h (fun g9 h => ?_) (fun g9 h => ?_)
        · refine r_iinc X 1 (fun v10 => [(1, .int v10), (0, .ref (zA z 0))]) dX7_findUnevenTables_44 1 rfl (by decide) (by decide) (fun _ => rfl) h (fun v10 h => ?_)
          refine r_goto X 2 dX7_findUnevenTables_47 (by decide) ?_
          refine r_sub [1, 0] rfl ?_
          exact ih v10 σ8 h
        · refine r_aload_n X dX7_findUnevenTables_34 rfl 0 rfl ?_
          refine gf_X7_58 X dX7_findUnevenTables_35 ?_
          refine r_iconst X 5 dX7_findUnevenTables_38 (by decide) ?_
          refine r_iload_n X dX7_findUnevenTables_39 rfl 1 rfl ?_
          refine r_iconst X 0 dX7_findUnevenTables_40 (by decide) ?_
          refine r_callVv X 22 0 (by decide) rfl rfl rfl lk_X7_265 (c_X0_append (zl z) X.2.2.2.2.2.2.2.1 N (zD z) (zy z) (zA z) (zS z) 5 x1 0 σ8) ⟨Nat.le_trans (by decide) hR.1, Nat.le_trans (by decide) hR.2⟩ rfl rfl (Nat.le_of_ble_eq_true rfl) dX7_findUnevenTables_41 h (fun v11 σ12 h => ?_)
          refine r_iinc X 1 (fun v13 => [(1, .int v13), (0, .ref (zA z 0))]) dX7_findUnevenTables_44 1 rfl (by decide) (by decide) (fun _ => rfl) h (fun v13 h => ?_)
          refine r_goto X 2 dX7_findUnevenTables_47 (by decide) ?_
          refine r_sub [1, 0] rfl ?_
          exact ih v13 σ12 h
      · refine r_iinc X 1 (fun v6 => [(1, .int v6), (0, .ref (zA z 0))]) dX7_findUnevenTables_44 1 rfl (by decide) (by decide) (fun _ => rfl) h (fun v6 h => ?_)
        refine r_goto X 2 dX7_findUnevenTables_47 (by decide) ?_
        refine r_sub [1, 0] rfl ?_
        exact ih v6 σ4 h
set_option maxHeartbeats 4000000 in
set_option maxRecDepth 100000 in
theorem w_X7_findUnevenTables {z : Cz} (X : Cx z cX7_findUnevenTables 2 RX7) (hR : 5 ≤ (zR z).frames ∧ 108 ≤ (zR z).locals) {res : (Int32 × Sg)} (Rt : RtV z cX7_findUnevenTables 2 res) (N : Nat) (σ : Sg) (h : f_X7_findUnevenTables N σ = some res) : V z 0 2 0 [(0, .ref (zA z 0))] [] σ := by
  rw [f_X7_findUnevenTables] at h
  refine r_iconst X 0 dX7_findUnevenTables_0 (by decide) ?_
  refine r_istore_n X [(1, .int 0), (0, .ref (zA z 0))] dX7_findUnevenTables_1 rfl (by decide) rfl ?_
  refine r_sub [1, 0] rfl ?_
  refine w_X7_findUnevenTables_2 X hR N _ (fun σ14 h => ?_) N 0 σ h
  exact r_vret Rt dX7_findUnevenTables_50 h
theorem c_X7_findUnevenTables (l : Launch) (hl : l.stackTraces = false) (N : Nat) (D : va_G) (cy : Nat → ClassId) (ad sa : Nat → Nat) (σ : Sg) : CtV l yX7_findUnevenTables cX7_findUnevenTables 2 5 108 D cy ad sa [.ref (ad 0)] σ (f_X7_findUnevenTables N σ) :=
  ct_V hl (by decide +kernel) (Nat.le_of_ble_eq_true rfl) (fun z res e1 e2 e3 e4 e5 e6 X Rt h => by subst e1 e2 e3 e4 e5; exact w_X7_findUnevenTables X ⟨e6.1, e6.2⟩ Rt N σ h)
def f_X7_findFiguresWithoutWords_2 (N : Nat) (K : Sg → Option (Int32 × Sg)) : Nat → Int32 → Sg → Option (Int32 × Sg)
  | 0, _, _ => none
  | n + 1, x1, σ => lt (σ 3 6) (fun v1 => if v1 ≤ x1 then (K σ) else (cI (f_X6_standardOf N x1 σ) (fun v3 σ4 => if v3 = 10 then (rdA 60 (σ4 27) x1 (fun v7 => if v7 = 0 then (cI (f_X0_append N 6 x1 0 σ4) (fun v10 σ11 => lt (x1 + 1) (fun v12 => f_X7_findFiguresWithoutWords_2 N K n v12 σ11))) else (lt (x1 + 1) (fun v9 => f_X7_findFiguresWithoutWords_2 N K n v9 σ4)))) else (lt (x1 + 1) (fun v6 => f_X7_findFiguresWithoutWords_2 N K n v6 σ4)))))
def f_X7_findFiguresWithoutWords (N : Nat) (σ : Sg) : Option (Int32 × Sg) := f_X7_findFiguresWithoutWords_2 N (fun σ13 => some (0, σ13)) N 0 σ
set_option maxHeartbeats 4000000 in
set_option maxRecDepth 100000 in
theorem w_X7_findFiguresWithoutWords_2 {z : Cz} (X : Cx z cX7_findFiguresWithoutWords 2 RX7) (hR : 3 ≤ (zR z).frames ∧ 64 ≤ (zR z).locals) {res : (Int32 × Sg)} (N : Nat) (K : Sg → Option (Int32 × Sg)) (kx : ∀ (σ : Sg), K σ = some res → V z 0 2 52 [] [] σ) : ∀ (n : Nat) (x1 : Int32) (σ : Sg), f_X7_findFiguresWithoutWords_2 N K n x1 σ = some res → V z 0 2 2 [(0, .ref (zA z 0)), (1, .int x1)] [] σ := by
  intro n
  induction n with
  | zero =>
    intro x1 σ h
    rw [f_X7_findFiguresWithoutWords_2] at h
    cases h
  | succ n ih =>
    intro x1 σ h
    rw [f_X7_findFiguresWithoutWords_2] at h
    refine r_iload_n X dX7_findFiguresWithoutWords_2 rfl 1 rfl ?_
    refine r_aload_n X dX7_findFiguresWithoutWords_3 rfl 0 rfl ?_
    refine gf_X7_21 X dX7_findFiguresWithoutWords_4 ?_
    refine gf_X7_116 X dX7_findFiguresWithoutWords_7 h (fun v1 h => ?_)
    refine r_icmp_ge X 52 dX7_findFiguresWithoutWords_10 (by decide) h (fun g2 h => ?_) (fun g2 h => ?_)
    · refine r_sub [] rfl ?_
      exact kx  σ h
    · refine r_aload_n X dX7_findFiguresWithoutWords_13 rfl 0 rfl ?_
      refine gf_X7_21 X dX7_findFiguresWithoutWords_14 ?_
      refine r_iload_n X dX7_findFiguresWithoutWords_17 rfl 1 rfl ?_
      refine r_callV X 3 6 (by decide) rfl rfl rfl lk_X7_253 (c_X6_standardOf (zl z) X.2.2.2.2.2.2.2.1 N (zD z) (zy z) (zA z) (zS z) x1 σ) ⟨Nat.le_trans (by decide) hR.1, Nat.le_trans (by decide) hR.2⟩ rfl rfl (Nat.le_of_ble_eq_true rfl) dX7_findFiguresWithoutWords_18 h (fun v3 σ4 h => ?_)
      refine r_bipush X 10 dX7_findFiguresWithoutWords_21 (by decide) ?_
      refine r_icmp_ne X 46 dX7_findFiguresWithoutWords_23 (by decide) h (fun g5 h => ?_) (fun g5 h => ?_)
      · refine r_aload_n X dX7_findFiguresWithoutWords_26 rfl 0 rfl ?_
        refine gf_X7_66 X dX7_findFiguresWithoutWords_27 ?_
        refine r_iload_n X dX7_findFiguresWithoutWords_30 rfl 1 rfl ?_
        refine al_27 X dX7_findFiguresWithoutWords_31 h (fun v7 h => ?_)
        refine r_if_ne X 46 dX7_findFiguresWithoutWords_32 (by decide) h (fun g8 h => ?_) (fun g8 h => ?_)
        · refine r_aload_n X dX7_findFiguresWithoutWords_35 rfl 0 rfl ?_
          refine gf_X7_58 X dX7_findFiguresWithoutWords_36 ?_
          refine r_bipush X 6 dX7_findFiguresWithoutWords_39 (by decide) ?_
          refine r_iload_n X dX7_findFiguresWithoutWords_41 rfl 1 rfl ?_
          refine r_iconst X 0 dX7_findFiguresWithoutWords_42 (by decide) ?_
          refine r_callVv X 22 0 (by decide) rfl rfl rfl lk_X7_265 (c_X0_append (zl z) X.2.2.2.2.2.2.2.1 N (zD z) (zy z) (zA z) (zS z) 6 x1 0 σ4) ⟨Nat.le_trans (by decide) hR.1, Nat.le_trans (by decide) hR.2⟩ rfl rfl (Nat.le_of_ble_eq_true rfl) dX7_findFiguresWithoutWords_43 h (fun v10 σ11 h => ?_)
          refine r_iinc X 1 (fun v12 => [(1, .int v12), (0, .ref (zA z 0))]) dX7_findFiguresWithoutWords_46 1 rfl (by decide) (by decide) (fun _ => rfl) h (fun v12 h => ?_)
          refine r_goto X 2 dX7_findFiguresWithoutWords_49 (by decide) ?_
          refine r_sub [1, 0] rfl ?_
          exact ih v12 σ11 h
        · refine r_iinc X 1 (fun v9 => [(1, .int v9), (0, .ref (zA z 0))]) dX7_findFiguresWithoutWords_46 1 rfl (by decide) (by decide) (fun _ => rfl) h (fun v9 h => ?_)
          refine r_goto X 2 dX7_findFiguresWithoutWords_49 (by decide) ?_
          refine r_sub [1, 0] rfl ?_
          exact ih v9 σ4 h
      · refine r_iinc X 1 (fun v6 => [(1, .int v6), (0, .ref (zA z 0))]) dX7_findFiguresWithoutWords_46 1 rfl (by decide) (by decide) (fun _ => rfl) h (fun v6 h => ?_)
        refine r_goto X 2 dX7_findFiguresWithoutWords_49 (by decide) ?_
        refine r_sub [1, 0] rfl ?_
        exact ih v6 σ4 h
set_option maxHeartbeats 4000000 in
set_option maxRecDepth 100000 in
theorem w_X7_findFiguresWithoutWords {z : Cz} (X : Cx z cX7_findFiguresWithoutWords 2 RX7) (hR : 3 ≤ (zR z).frames ∧ 64 ≤ (zR z).locals) {res : (Int32 × Sg)} (Rt : RtV z cX7_findFiguresWithoutWords 2 res) (N : Nat) (σ : Sg) (h : f_X7_findFiguresWithoutWords N σ = some res) : V z 0 2 0 [(0, .ref (zA z 0))] [] σ := by
  rw [f_X7_findFiguresWithoutWords] at h
  refine r_iconst X 0 dX7_findFiguresWithoutWords_0 (by decide) ?_
  refine r_istore_n X [(1, .int 0), (0, .ref (zA z 0))] dX7_findFiguresWithoutWords_1 rfl (by decide) rfl ?_
  refine r_sub [1, 0] rfl ?_
  refine w_X7_findFiguresWithoutWords_2 X hR N _ (fun σ13 h => ?_) N 0 σ h
  exact r_vret Rt dX7_findFiguresWithoutWords_52 h
theorem c_X7_findFiguresWithoutWords (l : Launch) (hl : l.stackTraces = false) (N : Nat) (D : va_G) (cy : Nat → ClassId) (ad sa : Nat → Nat) (σ : Sg) : CtV l yX7_findFiguresWithoutWords cX7_findFiguresWithoutWords 2 3 64 D cy ad sa [.ref (ad 0)] σ (f_X7_findFiguresWithoutWords N σ) :=
  ct_V hl (by decide +kernel) (Nat.le_of_ble_eq_true rfl) (fun z res e1 e2 e3 e4 e5 e6 X Rt h => by subst e1 e2 e3 e4 e5; exact w_X7_findFiguresWithoutWords X ⟨e6.1, e6.2⟩ Rt N σ h)
def f_X7_findElementsWithoutKids_2 (N : Nat) (K : Sg → Option (Int32 × Sg)) : Nat → Int32 → Sg → Option (Int32 × Sg)
  | 0, _, _ => none
  | n + 1, x1, σ => lt (σ 3 6) (fun v1 => if v1 ≤ x1 then (K σ) else (cI (f_X6_hasKids N x1 σ) (fun v3 σ4 => if v3 = 0 then (cI (f_X6_standardOf N x1 σ4) (fun v7 σ8 => if v7 = 10 then (lt (x1 + 1) (fun v10 => f_X7_findElementsWithoutKids_2 N K n v10 σ8)) else (cI (f_X0_append N 7 x1 0 σ8) (fun v11 σ12 => lt (x1 + 1) (fun v13 => f_X7_findElementsWithoutKids_2 N K n v13 σ12))))) else (lt (x1 + 1) (fun v6 => f_X7_findElementsWithoutKids_2 N K n v6 σ4)))))
def f_X7_findElementsWithoutKids (N : Nat) (σ : Sg) : Option (Int32 × Sg) := f_X7_findElementsWithoutKids_2 N (fun σ14 => some (0, σ14)) N 1 σ
set_option maxHeartbeats 4000000 in
set_option maxRecDepth 100000 in
theorem w_X7_findElementsWithoutKids_2 {z : Cz} (X : Cx z cX7_findElementsWithoutKids 2 RX7) (hR : 3 ≤ (zR z).frames ∧ 64 ≤ (zR z).locals) {res : (Int32 × Sg)} (N : Nat) (K : Sg → Option (Int32 × Sg)) (kx : ∀ (σ : Sg), K σ = some res → V z 0 2 54 [] [] σ) : ∀ (n : Nat) (x1 : Int32) (σ : Sg), f_X7_findElementsWithoutKids_2 N K n x1 σ = some res → V z 0 2 2 [(0, .ref (zA z 0)), (1, .int x1)] [] σ := by
  intro n
  induction n with
  | zero =>
    intro x1 σ h
    rw [f_X7_findElementsWithoutKids_2] at h
    cases h
  | succ n ih =>
    intro x1 σ h
    rw [f_X7_findElementsWithoutKids_2] at h
    refine r_iload_n X dX7_findElementsWithoutKids_2 rfl 1 rfl ?_
    refine r_aload_n X dX7_findElementsWithoutKids_3 rfl 0 rfl ?_
    refine gf_X7_21 X dX7_findElementsWithoutKids_4 ?_
    refine gf_X7_116 X dX7_findElementsWithoutKids_7 h (fun v1 h => ?_)
    refine r_icmp_ge X 54 dX7_findElementsWithoutKids_10 (by decide) h (fun g2 h => ?_) (fun g2 h => ?_)
    · refine r_sub [] rfl ?_
      exact kx  σ h
    · refine r_aload_n X dX7_findElementsWithoutKids_13 rfl 0 rfl ?_
      refine gf_X7_21 X dX7_findElementsWithoutKids_14 ?_
      refine r_iload_n X dX7_findElementsWithoutKids_17 rfl 1 rfl ?_
      refine r_callV X 3 6 (by decide) rfl rfl rfl lk_X7_302 (c_X6_hasKids (zl z) X.2.2.2.2.2.2.2.1 N (zD z) (zy z) (zA z) (zS z) x1 σ) ⟨Nat.le_trans (by decide) hR.1, Nat.le_trans (by decide) hR.2⟩ rfl rfl (Nat.le_of_ble_eq_true rfl) dX7_findElementsWithoutKids_18 h (fun v3 σ4 h => ?_)
      refine r_if_ne X 48 dX7_findElementsWithoutKids_21 (by decide) h (fun g5 h => ?_) (fun g5 h => ?_)
      · refine r_aload_n X dX7_findElementsWithoutKids_24 rfl 0 rfl ?_
        refine gf_X7_21 X dX7_findElementsWithoutKids_25 ?_
        refine r_iload_n X dX7_findElementsWithoutKids_28 rfl 1 rfl ?_
        refine r_callV X 3 6 (by decide) rfl rfl rfl lk_X7_253 (c_X6_standardOf (zl z) X.2.2.2.2.2.2.2.1 N (zD z) (zy z) (zA z) (zS z) x1 σ4) ⟨Nat.le_trans (by decide) hR.1, Nat.le_trans (by decide) hR.2⟩ rfl rfl (Nat.le_of_ble_eq_true rfl) dX7_findElementsWithoutKids_29 h (fun v7 σ8 h => ?_)
        refine r_bipush X 10 dX7_findElementsWithoutKids_32 (by decide) ?_
        refine r_icmp_eq X 48 dX7_findElementsWithoutKids_34 (by decide) h (fun g9 h => ?_) (fun g9 h => ?_)
        · refine r_iinc X 1 (fun v10 => [(1, .int v10), (0, .ref (zA z 0))]) dX7_findElementsWithoutKids_48 1 rfl (by decide) (by decide) (fun _ => rfl) h (fun v10 h => ?_)
          refine r_goto X 2 dX7_findElementsWithoutKids_51 (by decide) ?_
          refine r_sub [1, 0] rfl ?_
          exact ih v10 σ8 h
        · refine r_aload_n X dX7_findElementsWithoutKids_37 rfl 0 rfl ?_
          refine gf_X7_58 X dX7_findElementsWithoutKids_38 ?_
          refine r_bipush X 7 dX7_findElementsWithoutKids_41 (by decide) ?_
          refine r_iload_n X dX7_findElementsWithoutKids_43 rfl 1 rfl ?_
          refine r_iconst X 0 dX7_findElementsWithoutKids_44 (by decide) ?_
          refine r_callVv X 22 0 (by decide) rfl rfl rfl lk_X7_265 (c_X0_append (zl z) X.2.2.2.2.2.2.2.1 N (zD z) (zy z) (zA z) (zS z) 7 x1 0 σ8) ⟨Nat.le_trans (by decide) hR.1, Nat.le_trans (by decide) hR.2⟩ rfl rfl (Nat.le_of_ble_eq_true rfl) dX7_findElementsWithoutKids_45 h (fun v11 σ12 h => ?_)
          refine r_iinc X 1 (fun v13 => [(1, .int v13), (0, .ref (zA z 0))]) dX7_findElementsWithoutKids_48 1 rfl (by decide) (by decide) (fun _ => rfl) h (fun v13 h => ?_)
          refine r_goto X 2 dX7_findElementsWithoutKids_51 (by decide) ?_
          refine r_sub [1, 0] rfl ?_
          exact ih v13 σ12 h
      · refine r_iinc X 1 (fun v6 => [(1, .int v6), (0, .ref (zA z 0))]) dX7_findElementsWithoutKids_48 1 rfl (by decide) (by decide) (fun _ => rfl) h (fun v6 h => ?_)
        refine r_goto X 2 dX7_findElementsWithoutKids_51 (by decide) ?_
        refine r_sub [1, 0] rfl ?_
        exact ih v6 σ4 h
set_option maxHeartbeats 4000000 in
set_option maxRecDepth 100000 in
theorem w_X7_findElementsWithoutKids {z : Cz} (X : Cx z cX7_findElementsWithoutKids 2 RX7) (hR : 3 ≤ (zR z).frames ∧ 64 ≤ (zR z).locals) {res : (Int32 × Sg)} (Rt : RtV z cX7_findElementsWithoutKids 2 res) (N : Nat) (σ : Sg) (h : f_X7_findElementsWithoutKids N σ = some res) : V z 0 2 0 [(0, .ref (zA z 0))] [] σ := by
  rw [f_X7_findElementsWithoutKids] at h
  refine r_iconst X 1 dX7_findElementsWithoutKids_0 (by decide) ?_
  refine r_istore_n X [(1, .int 1), (0, .ref (zA z 0))] dX7_findElementsWithoutKids_1 rfl (by decide) rfl ?_
  refine r_sub [1, 0] rfl ?_
  refine w_X7_findElementsWithoutKids_2 X hR N _ (fun σ14 h => ?_) N 1 σ h
  exact r_vret Rt dX7_findElementsWithoutKids_54 h
theorem c_X7_findElementsWithoutKids (l : Launch) (hl : l.stackTraces = false) (N : Nat) (D : va_G) (cy : Nat → ClassId) (ad sa : Nat → Nat) (σ : Sg) : CtV l yX7_findElementsWithoutKids cX7_findElementsWithoutKids 2 3 64 D cy ad sa [.ref (ad 0)] σ (f_X7_findElementsWithoutKids N σ) :=
  ct_V hl (by decide +kernel) (Nat.le_of_ble_eq_true rfl) (fun z res e1 e2 e3 e4 e5 e6 X Rt h => by subst e1 e2 e3 e4 e5; exact w_X7_findElementsWithoutKids X ⟨e6.1, e6.2⟩ Rt N σ h)
def f_X7_findRepeats_2 (N : Nat) (K : Sg → Option (Int32 × Sg)) : Nat → Int32 → Sg → Option (Int32 × Sg)
  | 0, _, _ => none
  | n + 1, x1, σ => lt (σ 0 13) (fun v1 => if v1 ≤ x1 then (K σ) else (rdA 40 (σ 30) x1 (fun v3 => rdA 40 (σ 31) x1 (fun v4 => cI (f_X0_append N 8 v3 v4 σ) (fun v5 σ6 => lt (x1 + 1) (fun v7 => f_X7_findRepeats_2 N K n v7 σ6))))))
def f_X7_findRepeats (N : Nat) (σ : Sg) : Option (Int32 × Sg) := f_X7_findRepeats_2 N (fun σ8 => some (0, σ8)) N 0 σ
set_option maxHeartbeats 4000000 in
set_option maxRecDepth 100000 in
theorem w_X7_findRepeats_2 {z : Cz} (X : Cx z cX7_findRepeats 2 RX7) (hR : 1 ≤ (zR z).frames ∧ 23 ≤ (zR z).locals) {res : (Int32 × Sg)} (N : Nat) (K : Sg → Option (Int32 × Sg)) (kx : ∀ (σ : Sg), K σ = some res → V z 0 2 37 [] [] σ) : ∀ (n : Nat) (x1 : Int32) (σ : Sg), f_X7_findRepeats_2 N K n x1 σ = some res → V z 0 2 2 [(0, .ref (zA z 0)), (1, .int x1)] [] σ := by
  intro n
  induction n with
  | zero =>
    intro x1 σ h
    rw [f_X7_findRepeats_2] at h
    cases h
  | succ n ih =>
    intro x1 σ h
    rw [f_X7_findRepeats_2] at h
    refine r_iload_n X dX7_findRepeats_2 rfl 1 rfl ?_
    refine r_aload_n X dX7_findRepeats_3 rfl 0 rfl ?_
    refine gf_X7_82 X dX7_findRepeats_4 h (fun v1 h => ?_)
    refine r_icmp_ge X 37 dX7_findRepeats_7 (by decide) h (fun g2 h => ?_) (fun g2 h => ?_)
    · refine r_sub [] rfl ?_
      exact kx  σ h
    · refine r_aload_n X dX7_findRepeats_10 rfl 0 rfl ?_
      refine gf_X7_58 X dX7_findRepeats_11 ?_
      refine r_bipush X 8 dX7_findRepeats_14 (by decide) ?_
      refine r_aload_n X dX7_findRepeats_16 rfl 0 rfl ?_
      refine gf_X7_76 X dX7_findRepeats_17 ?_
      refine r_iload_n X dX7_findRepeats_20 rfl 1 rfl ?_
      refine al_30 X dX7_findRepeats_21 h (fun v3 h => ?_)
      refine r_aload_n X dX7_findRepeats_22 rfl 0 rfl ?_
      refine gf_X7_79 X dX7_findRepeats_23 ?_
      refine r_iload_n X dX7_findRepeats_26 rfl 1 rfl ?_
      refine al_31 X dX7_findRepeats_27 h (fun v4 h => ?_)
      refine r_callVv X 22 0 (by decide) rfl rfl rfl lk_X7_265 (c_X0_append (zl z) X.2.2.2.2.2.2.2.1 N (zD z) (zy z) (zA z) (zS z) 8 v3 v4 σ) ⟨Nat.le_trans (by decide) hR.1, Nat.le_trans (by decide) hR.2⟩ rfl rfl (Nat.le_of_ble_eq_true rfl) dX7_findRepeats_28 h (fun v5 σ6 h => ?_)
      refine r_iinc X 1 (fun v7 => [(1, .int v7), (0, .ref (zA z 0))]) dX7_findRepeats_31 1 rfl (by decide) (by decide) (fun _ => rfl) h (fun v7 h => ?_)
      refine r_goto X 2 dX7_findRepeats_34 (by decide) ?_
      refine r_sub [1, 0] rfl ?_
      exact ih v7 σ6 h
set_option maxHeartbeats 4000000 in
set_option maxRecDepth 100000 in
theorem w_X7_findRepeats {z : Cz} (X : Cx z cX7_findRepeats 2 RX7) (hR : 1 ≤ (zR z).frames ∧ 23 ≤ (zR z).locals) {res : (Int32 × Sg)} (Rt : RtV z cX7_findRepeats 2 res) (N : Nat) (σ : Sg) (h : f_X7_findRepeats N σ = some res) : V z 0 2 0 [(0, .ref (zA z 0))] [] σ := by
  rw [f_X7_findRepeats] at h
  refine r_iconst X 0 dX7_findRepeats_0 (by decide) ?_
  refine r_istore_n X [(1, .int 0), (0, .ref (zA z 0))] dX7_findRepeats_1 rfl (by decide) rfl ?_
  refine r_sub [1, 0] rfl ?_
  refine w_X7_findRepeats_2 X hR N _ (fun σ8 h => ?_) N 0 σ h
  exact r_vret Rt dX7_findRepeats_37 h
theorem c_X7_findRepeats (l : Launch) (hl : l.stackTraces = false) (N : Nat) (D : va_G) (cy : Nat → ClassId) (ad sa : Nat → Nat) (σ : Sg) : CtV l yX7_findRepeats cX7_findRepeats 2 1 23 D cy ad sa [.ref (ad 0)] σ (f_X7_findRepeats N σ) :=
  ct_V hl (by decide +kernel) (Nat.le_of_ble_eq_true rfl) (fun z res e1 e2 e3 e4 e5 e6 X Rt h => by subst e1 e2 e3 e4 e5; exact w_X7_findRepeats X ⟨e6.1, e6.2⟩ Rt N σ h)
def f_X7_gatherLoose_15 (N : Nat) (x1 : Int32) (K : Sg → Option (Int32 × Sg)) : Nat → Int32 → Sg → Option (Int32 × Sg)
  | 0, _, _ => none
  | n + 1, x2, σ => cI (f_X3_shownBy N x1 σ) (fun v3 σ4 => if v3 ≤ x2 then (K σ4) else (cI (f_X3_codeAt N x1 x2 σ4) (fun v6 σ7 => lt (σ7 0 15) (fun v8 => if 200 ≤ v8 then (lt (x2 + 1) (fun v10 => f_X7_gatherLoose_15 N x1 K n v10 σ7)) else (cI (f_X6_holderOf N v6 σ7) (fun v11 σ12 => if v11 = (-1) then (lt (σ12 0 15) (fun v15 => wrA 200 σ12 32 v15 v6 (fun σ16 => lt (σ16 0 15) (fun v17 => st (ss σ16 0 15 (v17 + 1)) (fun σ18 => lt (x2 + 1) (fun v19 => f_X7_gatherLoose_15 N x1 K n v19 σ18)))))) else (lt (x2 + 1) (fun v14 => f_X7_gatherLoose_15 N x1 K n v14 σ12))))))))
def f_X7_gatherLoose_7 (N : Nat) (K : Sg → Option (Int32 × Sg)) : Nat → Int32 → Sg → Option (Int32 × Sg)
  | 0, _, _ => none
  | n + 1, x1, σ => if 10 ≤ x1 then (K σ) else (f_X7_gatherLoose_15 N x1 (fun σ20 => lt (x1 + 1) (fun v21 => f_X7_gatherLoose_7 N K n v21 σ20)) N 0 σ)
def f_X7_gatherLoose (N : Nat) (σ : Sg) : Option (Int32 × Sg) := st (ss σ 0 15 0) (fun σ1 => f_X7_gatherLoose_7 N (fun σ22 => some (0, σ22)) N 0 σ1)
set_option maxHeartbeats 4000000 in
set_option maxRecDepth 100000 in
theorem w_X7_gatherLoose_15 {z : Cz} (X : Cx z cX7_gatherLoose 4 RX7) (hR : 1 ≤ (zR z).frames ∧ 22 ≤ (zR z).locals) {res : (Int32 × Sg)} (N : Nat) (x1 : Int32) (K : Sg → Option (Int32 × Sg)) (kx : ∀ (σ : Sg), K σ = some res → V z 0 4 85 [(0, .ref (zA z 0)), (1, .int x1)] [] σ) : ∀ (n : Nat) (x2 : Int32) (σ : Sg), f_X7_gatherLoose_15 N x1 K n x2 σ = some res → V z 0 4 15 [(0, .ref (zA z 0)), (1, .int x1), (2, .int x2)] [] σ := by
  intro n
  induction n with
  | zero =>
    intro x2 σ h
    rw [f_X7_gatherLoose_15] at h
    cases h
  | succ n ih =>
    intro x2 σ h
    rw [f_X7_gatherLoose_15] at h
    refine r_iload_n X dX7_gatherLoose_15 rfl 2 rfl ?_
    refine r_aload_n X dX7_gatherLoose_16 rfl 0 rfl ?_
    refine gf_X7_37 X dX7_gatherLoose_17 ?_
    refine r_iload_n X dX7_gatherLoose_20 rfl 1 rfl ?_
    refine r_callV X 12 3 (by decide) rfl rfl rfl lk_X7_259 (c_X3_shownBy (zl z) X.2.2.2.2.2.2.2.1 N (zD z) (zy z) (zA z) (zS z) x1 σ) ⟨Nat.le_trans (by decide) hR.1, Nat.le_trans (by decide) hR.2⟩ rfl rfl (Nat.le_of_ble_eq_true rfl) dX7_gatherLoose_21 h (fun v3 σ4 h => ?_)
    refine r_icmp_ge X 85 dX7_gatherLoose_24 (by decide) h (fun g5 h => ?_) (fun g5 h => ?_)
    · refine r_sub [0, 1] rfl ?_
      exact kx  σ4 h
    · refine r_aload_n X dX7_gatherLoose_27 rfl 0 rfl ?_
      refine gf_X7_37 X dX7_gatherLoose_28 ?_
      refine r_iload_n X dX7_gatherLoose_31 rfl 1 rfl ?_
      refine r_iload_n X dX7_gatherLoose_32 rfl 2 rfl ?_
      refine r_callV X 12 3 (by decide) rfl rfl rfl lk_X7_262 (c_X3_codeAt (zl z) X.2.2.2.2.2.2.2.1 N (zD z) (zy z) (zA z) (zS z) x1 x2 σ4) ⟨Nat.le_trans (by decide) hR.1, Nat.le_trans (by decide) hR.2⟩ rfl rfl (Nat.le_of_ble_eq_true rfl) dX7_gatherLoose_33 h (fun v6 σ7 h => ?_)
      refine r_istore_n X [(3, .int v6), (0, .ref (zA z 0)), (1, .int x1), (2, .int x2)] dX7_gatherLoose_36 rfl (by decide) rfl ?_
      refine r_aload_n X dX7_gatherLoose_37 rfl 1 rfl ?_
      refine gf_X7_89 X dX7_gatherLoose_38 h (fun v8 h => ?_)
      refine r_sipush X 200 dX7_gatherLoose_41 (by decide) ?_
      refine r_icmp_ge X 79 dX7_gatherLoose_44 (by decide) h (fun g9 h => ?_) (fun g9 h => ?_)
      · refine r_iinc X 1 (fun v10 => [(2, .int v10), (3, .int v6), (0, .ref (zA z 0)), (1, .int x1)]) dX7_gatherLoose_79 3 rfl (by decide) (by decide) (fun _ => rfl) h (fun v10 h => ?_)
        refine r_goto X 15 dX7_gatherLoose_82 (by decide) ?_
        refine r_sub [2, 3, 0] rfl ?_
        exact ih v10 σ7 h
      · refine r_aload_n X dX7_gatherLoose_47 rfl 1 rfl ?_
        refine gf_X7_21 X dX7_gatherLoose_48 ?_
        refine r_iload_n X dX7_gatherLoose_51 rfl 0 rfl ?_
        refine r_callV X 3 6 (by decide) rfl rfl rfl lk_X7_144 (c_X6_holderOf (zl z) X.2.2.2.2.2.2.2.1 N (zD z) (zy z) (zA z) (zS z) v6 σ7) ⟨Nat.le_trans (by decide) hR.1, Nat.le_trans (by decide) hR.2⟩ rfl rfl (Nat.le_of_ble_eq_true rfl) dX7_gatherLoose_52 h (fun v11 σ12 h => ?_)
        refine r_iconst X (-1) dX7_gatherLoose_55 (by decide) ?_
        refine r_icmp_ne X 79 dX7_gatherLoose_56 (by decide) h (fun g13 h => ?_) (fun g13 h => ?_)
        · refine r_aload_n X dX7_gatherLoose_59 rfl 1 rfl ?_
          refine gf_X7_86 X dX7_gatherLoose_60 ?_
          refine r_aload_n X dX7_gatherLoose_63 rfl 1 rfl ?_
          refine gf_X7_89 X dX7_gatherLoose_64 h (fun v15 h => ?_)
          refine r_iload_n X dX7_gatherLoose_67 rfl 0 rfl ?_
          refine as_32 X dX7_gatherLoose_68 h (fun σ16 h => ?_)
          refine r_aload_n X dX7_gatherLoose_69 rfl 1 rfl ?_
          refine r_dup X dX7_gatherLoose_70 rfl ?_
          refine gf_X7_89 X dX7_gatherLoose_71 h (fun v17 h => ?_)
          refine r_iconst X 1 dX7_gatherLoose_74 (by decide) ?_
          refine r_iadd X dX7_gatherLoose_75 ?_
          refine pf_X7_89 X dX7_gatherLoose_76 h (fun σ18 h => ?_)
          refine r_iinc X 1 (fun v19 => [(2, .int v19), (3, .int v6), (0, .ref (zA z 0)), (1, .int x1)]) dX7_gatherLoose_79 3 rfl (by decide) (by decide) (fun _ => rfl) h (fun v19 h => ?_)
          refine r_goto X 15 dX7_gatherLoose_82 (by decide) ?_
          refine r_sub [2, 3, 0] rfl ?_
          exact ih v19 σ18 h
        · refine r_iinc X 1 (fun v14 => [(2, .int v14), (3, .int v6), (0, .ref (zA z 0)), (1, .int x1)]) dX7_gatherLoose_79 3 rfl (by decide) (by decide) (fun _ => rfl) h (fun v14 h => ?_)
          refine r_goto X 15 dX7_gatherLoose_82 (by decide) ?_
          refine r_sub [2, 3, 0] rfl ?_
          exact ih v14 σ12 h
set_option maxHeartbeats 4000000 in
set_option maxRecDepth 100000 in
theorem w_X7_gatherLoose_7 {z : Cz} (X : Cx z cX7_gatherLoose 4 RX7) (hR : 1 ≤ (zR z).frames ∧ 22 ≤ (zR z).locals) {res : (Int32 × Sg)} (N : Nat) (K : Sg → Option (Int32 × Sg)) (kx : ∀ (σ : Sg), K σ = some res → V z 0 4 91 [] [] σ) : ∀ (n : Nat) (x1 : Int32) (σ : Sg), f_X7_gatherLoose_7 N K n x1 σ = some res → V z 0 4 7 [(0, .ref (zA z 0)), (1, .int x1)] [] σ := by
  intro n
  induction n with
  | zero =>
    intro x1 σ h
    rw [f_X7_gatherLoose_7] at h
    cases h
  | succ n ih =>
    intro x1 σ h
    rw [f_X7_gatherLoose_7] at h
    refine r_iload_n X dX7_gatherLoose_7 rfl 1 rfl ?_
    refine r_bipush X 10 dX7_gatherLoose_8 (by decide) ?_
    refine r_icmp_ge X 91 dX7_gatherLoose_10 (by decide) h (fun g2 h => ?_) (fun g2 h => ?_)
    · refine r_sub [] rfl ?_
      exact kx  σ h
    · refine r_iconst X 0 dX7_gatherLoose_13 (by decide) ?_
      refine r_istore_n X [(2, .int 0), (0, .ref (zA z 0)), (1, .int x1)] dX7_gatherLoose_14 rfl (by decide) rfl ?_
      refine r_sub [1, 2, 0] rfl ?_
      refine w_X7_gatherLoose_15 X hR N x1 _ (fun σ20 h => ?_) N 0 σ h
      refine r_iinc X 1 (fun v21 => [(1, .int v21), (0, .ref (zA z 0))]) dX7_gatherLoose_85 1 rfl (by decide) (by decide) (fun _ => rfl) h (fun v21 h => ?_)
      refine r_goto X 7 dX7_gatherLoose_88 (by decide) ?_
      refine r_sub [1, 0] rfl ?_
      exact ih v21 σ20 h
set_option maxHeartbeats 4000000 in
set_option maxRecDepth 100000 in
theorem w_X7_gatherLoose {z : Cz} (X : Cx z cX7_gatherLoose 4 RX7) (hR : 1 ≤ (zR z).frames ∧ 22 ≤ (zR z).locals) {res : (Int32 × Sg)} (Rt : RtV z cX7_gatherLoose 4 res) (N : Nat) (σ : Sg) (h : f_X7_gatherLoose N σ = some res) : V z 0 4 0 [(0, .ref (zA z 0))] [] σ := by
  rw [f_X7_gatherLoose] at h
  refine r_aload_n X dX7_gatherLoose_0 rfl 0 rfl ?_
  refine r_iconst X 0 dX7_gatherLoose_1 (by decide) ?_
  refine pf_X7_89 X dX7_gatherLoose_2 h (fun σ1 h => ?_)
  refine r_iconst X 0 dX7_gatherLoose_5 (by decide) ?_
  refine r_istore_n X [(1, .int 0), (0, .ref (zA z 0))] dX7_gatherLoose_6 rfl (by decide) rfl ?_
  refine r_sub [1, 0] rfl ?_
  refine w_X7_gatherLoose_7 X hR N _ (fun σ22 h => ?_) N 0 σ1 h
  exact r_vret Rt dX7_gatherLoose_91 h
theorem c_X7_gatherLoose (l : Launch) (hl : l.stackTraces = false) (N : Nat) (D : va_G) (cy : Nat → ClassId) (ad sa : Nat → Nat) (σ : Sg) : CtV l yX7_gatherLoose cX7_gatherLoose 4 1 22 D cy ad sa [.ref (ad 0)] σ (f_X7_gatherLoose N σ) :=
  ct_V hl (by decide +kernel) (Nat.le_of_ble_eq_true rfl) (fun z res e1 e2 e3 e4 e5 e6 X Rt h => by subst e1 e2 e3 e4 e5; exact w_X7_gatherLoose X ⟨e6.1, e6.2⟩ Rt N σ h)
def f_X7_findUntagged_6 (N : Nat) (K : Sg → Option (Int32 × Sg)) : Nat → Int32 → Sg → Option (Int32 × Sg)
  | 0, _, _ => none
  | n + 1, x1, σ => lt (σ 0 15) (fun v3 => if v3 ≤ x1 then (K σ) else (rdA 200 (σ 32) x1 (fun v5 => cI (f_X0_append N 9 (-1) v5 σ) (fun v6 σ7 => lt (x1 + 1) (fun v8 => f_X7_findUntagged_6 N K n v8 σ7)))))
def f_X7_findUntagged (N : Nat) (σ : Sg) : Option (Int32 × Sg) := cI (f_X7_gatherLoose N σ) (fun v1 σ2 => f_X7_findUntagged_6 N (fun σ9 => some (0, σ9)) N 0 σ2)
set_option maxHeartbeats 4000000 in
set_option maxRecDepth 100000 in
theorem w_X7_findUntagged_6 {z : Cz} (X : Cx z cX7_findUntagged 2 RX7) (hR : 2 ≤ (zR z).frames ∧ 45 ≤ (zR z).locals) {res : (Int32 × Sg)} (N : Nat) (K : Sg → Option (Int32 × Sg)) (kx : ∀ (σ : Sg), K σ = some res → V z 0 2 36 [] [] σ) : ∀ (n : Nat) (x1 : Int32) (σ : Sg), f_X7_findUntagged_6 N K n x1 σ = some res → V z 0 2 6 [(0, .ref (zA z 0)), (1, .int x1)] [] σ := by
  intro n
  induction n with
  | zero =>
    intro x1 σ h
    rw [f_X7_findUntagged_6] at h
    cases h
  | succ n ih =>
    intro x1 σ h
    rw [f_X7_findUntagged_6] at h
    refine r_iload_n X dX7_findUntagged_6 rfl 1 rfl ?_
    refine r_aload_n X dX7_findUntagged_7 rfl 0 rfl ?_
    refine gf_X7_89 X dX7_findUntagged_8 h (fun v3 h => ?_)
    refine r_icmp_ge X 36 dX7_findUntagged_11 (by decide) h (fun g4 h => ?_) (fun g4 h => ?_)
    · refine r_sub [] rfl ?_
      exact kx  σ h
    · refine r_aload_n X dX7_findUntagged_14 rfl 0 rfl ?_
      refine gf_X7_58 X dX7_findUntagged_15 ?_
      refine r_bipush X 9 dX7_findUntagged_18 (by decide) ?_
      refine r_iconst X (-1) dX7_findUntagged_20 (by decide) ?_
      refine r_aload_n X dX7_findUntagged_21 rfl 0 rfl ?_
      refine gf_X7_86 X dX7_findUntagged_22 ?_
      refine r_iload_n X dX7_findUntagged_25 rfl 1 rfl ?_
      refine al_32 X dX7_findUntagged_26 h (fun v5 h => ?_)
      refine r_callVv X 22 0 (by decide) rfl rfl rfl lk_X7_265 (c_X0_append (zl z) X.2.2.2.2.2.2.2.1 N (zD z) (zy z) (zA z) (zS z) 9 (-1) v5 σ) ⟨Nat.le_trans (by decide) hR.1, Nat.le_trans (by decide) hR.2⟩ rfl rfl (Nat.le_of_ble_eq_true rfl) dX7_findUntagged_27 h (fun v6 σ7 h => ?_)
      refine r_iinc X 1 (fun v8 => [(1, .int v8), (0, .ref (zA z 0))]) dX7_findUntagged_30 1 rfl (by decide) (by decide) (fun _ => rfl) h (fun v8 h => ?_)
      refine r_goto X 6 dX7_findUntagged_33 (by decide) ?_
      refine r_sub [1, 0] rfl ?_
      exact ih v8 σ7 h
set_option maxHeartbeats 4000000 in
set_option maxRecDepth 100000 in
theorem w_X7_findUntagged {z : Cz} (X : Cx z cX7_findUntagged 2 RX7) (hR : 2 ≤ (zR z).frames ∧ 45 ≤ (zR z).locals) {res : (Int32 × Sg)} (Rt : RtV z cX7_findUntagged 2 res) (N : Nat) (σ : Sg) (h : f_X7_findUntagged N σ = some res) : V z 0 2 0 [(0, .ref (zA z 0))] [] σ := by
  rw [f_X7_findUntagged] at h
  refine r_aload_n X dX7_findUntagged_0 rfl 0 rfl ?_
  refine r_callVv X 0 7 (by decide) rfl rfl rfl lk_X7_235 (c_X7_gatherLoose (zl z) X.2.2.2.2.2.2.2.1 N (zD z) (zy z) (zA z) (zS z) σ) ⟨Nat.le_trans (by decide) hR.1, Nat.le_trans (by decide) hR.2⟩ rfl rfl (Nat.le_of_ble_eq_true rfl) dX7_findUntagged_1 h (fun v1 σ2 h => ?_)
  refine r_iconst X 0 dX7_findUntagged_4 (by decide) ?_
  refine r_istore_n X [(1, .int 0), (0, .ref (zA z 0))] dX7_findUntagged_5 rfl (by decide) rfl ?_
  refine r_sub [1, 0] rfl ?_
  refine w_X7_findUntagged_6 X hR N _ (fun σ9 h => ?_) N 0 σ2 h
  exact r_vret Rt dX7_findUntagged_36 h
theorem c_X7_findUntagged (l : Launch) (hl : l.stackTraces = false) (N : Nat) (D : va_G) (cy : Nat → ClassId) (ad sa : Nat → Nat) (σ : Sg) : CtV l yX7_findUntagged cX7_findUntagged 2 2 45 D cy ad sa [.ref (ad 0)] σ (f_X7_findUntagged N σ) :=
  ct_V hl (by decide +kernel) (Nat.le_of_ble_eq_true rfl) (fun z res e1 e2 e3 e4 e5 e6 X Rt h => by subst e1 e2 e3 e4 e5; exact w_X7_findUntagged X ⟨e6.1, e6.2⟩ Rt N σ h)
def f_X7_findOutOfOrder_17 (N : Nat) (K : Sg → Option (Int32 × Sg)) : Nat → Int32 → Sg → Option (Int32 × Sg)
  | 0, _, _ => none
  | n + 1, x1, σ => lt (σ 9 4) (fun v5 => if v5 ≤ x1 then (K σ) else (rdA 100 (σ 11) x1 (fun v7 => lt (v7 / 20) (fun v8 => cI (f_X3_placeOf N v7 σ) (fun v9 σ10 => if v9 = (-1) then (lt (x1 + 1) (fun v12 => f_X7_findOutOfOrder_17 N K n v12 σ10)) else (rdA 10 (σ10 33) v8 (fun v13 => if v13 ≤ v9 then (wrA 10 σ10 33 v8 v9 (fun σ15 => lt (x1 + 1) (fun v16 => f_X7_findOutOfOrder_17 N K n v16 σ15))) else (cI (f_X6_holderOf N v7 σ10) (fun v17 σ18 => cI (f_X0_append N 10 v17 v7 σ18) (fun v19 σ20 => wrA 10 σ20 33 v8 v9 (fun σ21 => lt (x1 + 1) (fun v22 => f_X7_findOutOfOrder_17 N K n v22 σ21))))))))))))
def f_X7_findOutOfOrder (N : Nat) (σ : Sg) : Option (Int32 × Sg) := cI (f_X5_follow N σ) (fun v1 σ2 => cI (f_J7_fill_33 N (-1) σ2) (fun v3 σ4 => f_X7_findOutOfOrder_17 N (fun σ23 => some (0, σ23)) N 0 σ4))
set_option maxHeartbeats 4000000 in
set_option maxRecDepth 100000 in
theorem w_X7_findOutOfOrder_17 {z : Cz} (X : Cx z cX7_findOutOfOrder 5 RX7) (hR : 5 ≤ (zR z).frames ∧ 107 ≤ (zR z).locals) {res : (Int32 × Sg)} (N : Nat) (K : Sg → Option (Int32 × Sg)) (kx : ∀ (σ : Sg), K σ = some res → V z 0 5 102 [] [] σ) : ∀ (n : Nat) (x1 : Int32) (σ : Sg), f_X7_findOutOfOrder_17 N K n x1 σ = some res → V z 0 5 17 [(0, .ref (zA z 0)), (1, .int x1)] [] σ := by
  intro n
  induction n with
  | zero =>
    intro x1 σ h
    rw [f_X7_findOutOfOrder_17] at h
    cases h
  | succ n ih =>
    intro x1 σ h
    rw [f_X7_findOutOfOrder_17] at h
    refine r_iload_n X dX7_findOutOfOrder_17 rfl 1 rfl ?_
    refine r_aload_n X dX7_findOutOfOrder_18 rfl 0 rfl ?_
    refine gf_X7_30 X dX7_findOutOfOrder_19 ?_
    refine gf_X7_165 X dX7_findOutOfOrder_22 h (fun v5 h => ?_)
    refine r_icmp_ge X 102 dX7_findOutOfOrder_25 (by decide) h (fun g6 h => ?_) (fun g6 h => ?_)
    · refine r_sub [] rfl ?_
      exact kx  σ h
    · refine r_aload_n X dX7_findOutOfOrder_28 rfl 0 rfl ?_
      refine gf_X7_30 X dX7_findOutOfOrder_29 ?_
      refine gf_X7_174 X dX7_findOutOfOrder_32 ?_
      refine r_iload_n X dX7_findOutOfOrder_35 rfl 1 rfl ?_
      refine al_11 X dX7_findOutOfOrder_36 h (fun v7 h => ?_)
      refine r_istore_n X [(2, .int v7), (0, .ref (zA z 0)), (1, .int x1)] dX7_findOutOfOrder_37 rfl (by decide) rfl ?_
      refine r_iload_n X dX7_findOutOfOrder_38 rfl 0 rfl ?_
      refine r_bipush X 20 dX7_findOutOfOrder_39 (by decide) ?_
      refine r_idiv X dX7_findOutOfOrder_41 (by decide) ?_
      refine r_lt h (fun v8 h => ?_)
      refine r_istore_n X [(3, .int v8), (2, .int v7), (0, .ref (zA z 0)), (1, .int x1)] dX7_findOutOfOrder_42 rfl (by decide) rfl ?_
      refine r_aload_n X dX7_findOutOfOrder_43 rfl 2 rfl ?_
      refine gf_X7_37 X dX7_findOutOfOrder_44 ?_
      refine r_iload_n X dX7_findOutOfOrder_47 rfl 1 rfl ?_
      refine r_callV X 12 3 (by decide) rfl rfl rfl lk_X7_305 (c_X3_placeOf (zl z) X.2.2.2.2.2.2.2.1 N (zD z) (zy z) (zA z) (zS z) v7 σ) ⟨Nat.le_trans (by decide) hR.1, Nat.le_trans (by decide) hR.2⟩ rfl rfl (Nat.le_of_ble_eq_true rfl) dX7_findOutOfOrder_48 h (fun v9 σ10 h => ?_)
      refine r_istore X [(4, .int v9), (3, .int v8), (2, .int v7), (0, .ref (zA z 0)), (1, .int x1)] dX7_findOutOfOrder_51 (by decide) rfl ?_
      refine r_iload X dX7_findOutOfOrder_53 0 rfl ?_
      refine r_iconst X (-1) dX7_findOutOfOrder_55 (by decide) ?_
      refine r_icmp_eq X 96 dX7_findOutOfOrder_56 (by decide) h (fun g11 h => ?_) (fun g11 h => ?_)
      · refine r_iinc X 1 (fun v12 => [(1, .int v12), (4, .int v9), (3, .int v8), (2, .int v7), (0, .ref (zA z 0))]) dX7_findOutOfOrder_96 4 rfl (by decide) (by decide) (fun _ => rfl) h (fun v12 h => ?_)
        refine r_goto X 17 dX7_findOutOfOrder_99 (by decide) ?_
        refine r_sub [4, 0] rfl ?_
        exact ih v12 σ10 h
      · refine r_iload X dX7_findOutOfOrder_59 0 rfl ?_
        refine r_aload_n X dX7_findOutOfOrder_61 rfl 3 rfl ?_
        refine gf_X7_92 X dX7_findOutOfOrder_62 ?_
        refine r_iload_n X dX7_findOutOfOrder_65 rfl 1 rfl ?_
        refine al_33 X dX7_findOutOfOrder_66 h (fun v13 h => ?_)
        refine r_icmp_ge X 88 dX7_findOutOfOrder_67 (by decide) h (fun g14 h => ?_) (fun g14 h => ?_)
        · refine r_aload_n X dX7_findOutOfOrder_88 rfl 3 rfl ?_
          refine gf_X7_92 X dX7_findOutOfOrder_89 ?_
          refine r_iload_n X dX7_findOutOfOrder_92 rfl 1 rfl ?_
          refine r_iload X dX7_findOutOfOrder_93 0 rfl ?_
          refine as_33 X dX7_findOutOfOrder_95 h (fun σ15 h => ?_)
          refine r_iinc X 1 (fun v16 => [(1, .int v16), (4, .int v9), (3, .int v8), (2, .int v7), (0, .ref (zA z 0))]) dX7_findOutOfOrder_96 4 rfl (by decide) (by decide) (fun _ => rfl) h (fun v16 h => ?_)
          refine r_goto X 17 dX7_findOutOfOrder_99 (by decide) ?_
          refine r_sub [4, 0] rfl ?_
          exact ih v16 σ15 h
        · refine r_aload_n X dX7_findOutOfOrder_70 rfl 3 rfl ?_
          refine gf_X7_58 X dX7_findOutOfOrder_71 ?_
          refine r_bipush X 10 dX7_findOutOfOrder_74 (by decide) ?_
          refine r_aload_n X dX7_findOutOfOrder_76 rfl 3 rfl ?_
          refine gf_X7_21 X dX7_findOutOfOrder_77 ?_
          refine r_iload_n X dX7_findOutOfOrder_80 rfl 2 rfl ?_
          refine r_callV X 3 6 (by decide) rfl rfl rfl lk_X7_144 (c_X6_holderOf (zl z) X.2.2.2.2.2.2.2.1 N (zD z) (zy z) (zA z) (zS z) v7 σ10) ⟨Nat.le_trans (by decide) hR.1, Nat.le_trans (by decide) hR.2⟩ rfl rfl (Nat.le_of_ble_eq_true rfl) dX7_findOutOfOrder_81 h (fun v17 σ18 h => ?_)
          refine r_iload_n X dX7_findOutOfOrder_84 rfl 2 rfl ?_
          refine r_callVv X 22 0 (by decide) rfl rfl rfl lk_X7_265 (c_X0_append (zl z) X.2.2.2.2.2.2.2.1 N (zD z) (zy z) (zA z) (zS z) 10 v17 v7 σ18) ⟨Nat.le_trans (by decide) hR.1, Nat.le_trans (by decide) hR.2⟩ rfl rfl (Nat.le_of_ble_eq_true rfl) dX7_findOutOfOrder_85 h (fun v19 σ20 h => ?_)
          refine r_aload_n X dX7_findOutOfOrder_88 rfl 3 rfl ?_
          refine gf_X7_92 X dX7_findOutOfOrder_89 ?_
          refine r_iload_n X dX7_findOutOfOrder_92 rfl 1 rfl ?_
          refine r_iload X dX7_findOutOfOrder_93 0 rfl ?_
          refine as_33 X dX7_findOutOfOrder_95 h (fun σ21 h => ?_)
          refine r_iinc X 1 (fun v22 => [(1, .int v22), (4, .int v9), (3, .int v8), (2, .int v7), (0, .ref (zA z 0))]) dX7_findOutOfOrder_96 4 rfl (by decide) (by decide) (fun _ => rfl) h (fun v22 h => ?_)
          refine r_goto X 17 dX7_findOutOfOrder_99 (by decide) ?_
          refine r_sub [4, 0] rfl ?_
          exact ih v22 σ21 h
set_option maxHeartbeats 4000000 in
set_option maxRecDepth 100000 in
theorem w_X7_findOutOfOrder {z : Cz} (X : Cx z cX7_findOutOfOrder 5 RX7) (hR : 5 ≤ (zR z).frames ∧ 107 ≤ (zR z).locals) {res : (Int32 × Sg)} (Rt : RtV z cX7_findOutOfOrder 5 res) (N : Nat) (σ : Sg) (h : f_X7_findOutOfOrder N σ = some res) : V z 0 5 0 [(0, .ref (zA z 0))] [] σ := by
  rw [f_X7_findOutOfOrder] at h
  refine r_aload_n X dX7_findOutOfOrder_0 rfl 0 rfl ?_
  refine gf_X7_30 X dX7_findOutOfOrder_1 ?_
  refine r_callVv X 9 5 (by decide) rfl rfl rfl lk_X7_162 (c_X5_follow (zl z) X.2.2.2.2.2.2.2.1 N (zD z) (zy z) (zA z) (zS z) σ) ⟨Nat.le_trans (by decide) hR.1, Nat.le_trans (by decide) hR.2⟩ rfl rfl (Nat.le_of_ble_eq_true rfl) dX7_findOutOfOrder_4 h (fun v1 σ2 h => ?_)
  refine r_aload_n X dX7_findOutOfOrder_7 rfl 0 rfl ?_
  refine gf_X7_92 X dX7_findOutOfOrder_8 ?_
  refine r_iconst X (-1) dX7_findOutOfOrder_11 (by decide) ?_
  refine r_callSv X lk_X7_95 (c_J7_fill_33 (zl z) X.2.2.2.2.2.2.2.1 N (zD z) (zy z) (zA z) (zS z) (-1) σ2) ⟨Nat.le_trans (by decide) hR.1, Nat.le_trans (by decide) hR.2⟩ rfl rfl (Nat.le_of_ble_eq_true rfl) dX7_findOutOfOrder_12 h (fun v3 σ4 h => ?_)
  refine r_iconst X 0 dX7_findOutOfOrder_15 (by decide) ?_
  refine r_istore_n X [(1, .int 0), (0, .ref (zA z 0))] dX7_findOutOfOrder_16 rfl (by decide) rfl ?_
  refine r_sub [1, 0] rfl ?_
  refine w_X7_findOutOfOrder_17 X hR N _ (fun σ23 h => ?_) N 0 σ4 h
  exact r_vret Rt dX7_findOutOfOrder_102 h
theorem c_X7_findOutOfOrder (l : Launch) (hl : l.stackTraces = false) (N : Nat) (D : va_G) (cy : Nat → ClassId) (ad sa : Nat → Nat) (σ : Sg) : CtV l yX7_findOutOfOrder cX7_findOutOfOrder 5 5 107 D cy ad sa [.ref (ad 0)] σ (f_X7_findOutOfOrder N σ) :=
  ct_V hl (by decide +kernel) (Nat.le_of_ble_eq_true rfl) (fun z res e1 e2 e3 e4 e5 e6 X Rt h => by subst e1 e2 e3 e4 e5; exact w_X7_findOutOfOrder X ⟨e6.1, e6.2⟩ Rt N σ h)
def f_X7_check (N : Nat) (σ : Sg) : Option (Int32 × Sg) := st (ss σ 22 3 0) (fun σ1 => cI (f_X7_findElementsWithoutStandard N σ1) (fun v2 σ3 => cI (f_X7_findHeadingsWithoutLevel N σ3) (fun v4 σ5 => cI (f_X7_findSkippedLevels N σ5) (fun v6 σ7 => cI (f_X7_findMisplaced N σ7) (fun v8 σ9 => cI (f_X7_findUnevenTables N σ9) (fun v10 σ11 => cI (f_X7_findFiguresWithoutWords N σ11) (fun v12 σ13 => cI (f_X7_findElementsWithoutKids N σ13) (fun v14 σ15 => cI (f_X7_findRepeats N σ15) (fun v16 σ17 => cI (f_X7_findUntagged N σ17) (fun v18 σ19 => cI (f_X7_findOutOfOrder N σ19) (fun v20 σ21 => lt (σ21 22 3) (fun v22 => some (v22, σ21)))))))))))))
set_option maxHeartbeats 4000000 in
set_option maxRecDepth 100000 in
theorem w_X7_check {z : Cz} (X : Cx z cX7_check 1 RX7) (hR : 7 ≤ (zR z).frames ∧ 152 ≤ (zR z).locals) {res : (Int32 × Sg)} (Rt : RtI z cX7_check 1 .int res) (N : Nat) (σ : Sg) (h : f_X7_check N σ = some res) : V z 0 1 0 [(0, .ref (zA z 0))] [] σ := by
  rw [f_X7_check] at h
  refine r_aload_n X dX7_check_0 rfl 0 rfl ?_
  refine gf_X7_58 X dX7_check_1 ?_
  refine r_iconst X 0 dX7_check_4 (by decide) ?_
  refine pf_X7_177 X dX7_check_5 h (fun σ1 h => ?_)
  refine r_aload_n X dX7_check_8 rfl 0 rfl ?_
  refine r_callVv X 0 7 (by decide) rfl rfl rfl lk_X7_180 (c_X7_findElementsWithoutStandard (zl z) X.2.2.2.2.2.2.2.1 N (zD z) (zy z) (zA z) (zS z) σ1) ⟨Nat.le_trans (by decide) hR.1, Nat.le_trans (by decide) hR.2⟩ rfl rfl (Nat.le_of_ble_eq_true rfl) dX7_check_9 h (fun v2 σ3 h => ?_)
  refine r_aload_n X dX7_check_12 rfl 0 rfl ?_
  refine r_callVv X 0 7 (by decide) rfl rfl rfl lk_X7_183 (c_X7_findHeadingsWithoutLevel (zl z) X.2.2.2.2.2.2.2.1 N (zD z) (zy z) (zA z) (zS z) σ3) ⟨Nat.le_trans (by decide) hR.1, Nat.le_trans (by decide) hR.2⟩ rfl rfl (Nat.le_of_ble_eq_true rfl) dX7_check_13 h (fun v4 σ5 h => ?_)
  refine r_aload_n X dX7_check_16 rfl 0 rfl ?_
  refine r_callVv X 0 7 (by decide) rfl rfl rfl lk_X7_186 (c_X7_findSkippedLevels (zl z) X.2.2.2.2.2.2.2.1 N (zD z) (zy z) (zA z) (zS z) σ5) ⟨Nat.le_trans (by decide) hR.1, Nat.le_trans (by decide) hR.2⟩ rfl rfl (Nat.le_of_ble_eq_true rfl) dX7_check_17 h (fun v6 σ7 h => ?_)
  refine r_aload_n X dX7_check_20 rfl 0 rfl ?_
  refine r_callVv X 0 7 (by decide) rfl rfl rfl lk_X7_189 (c_X7_findMisplaced (zl z) X.2.2.2.2.2.2.2.1 N (zD z) (zy z) (zA z) (zS z) σ7) ⟨Nat.le_trans (by decide) hR.1, Nat.le_trans (by decide) hR.2⟩ rfl rfl (Nat.le_of_ble_eq_true rfl) dX7_check_21 h (fun v8 σ9 h => ?_)
  refine r_aload_n X dX7_check_24 rfl 0 rfl ?_
  refine r_callVv X 0 7 (by decide) rfl rfl rfl lk_X7_192 (c_X7_findUnevenTables (zl z) X.2.2.2.2.2.2.2.1 N (zD z) (zy z) (zA z) (zS z) σ9) ⟨Nat.le_trans (by decide) hR.1, Nat.le_trans (by decide) hR.2⟩ rfl rfl (Nat.le_of_ble_eq_true rfl) dX7_check_25 h (fun v10 σ11 h => ?_)
  refine r_aload_n X dX7_check_28 rfl 0 rfl ?_
  refine r_callVv X 0 7 (by decide) rfl rfl rfl lk_X7_195 (c_X7_findFiguresWithoutWords (zl z) X.2.2.2.2.2.2.2.1 N (zD z) (zy z) (zA z) (zS z) σ11) ⟨Nat.le_trans (by decide) hR.1, Nat.le_trans (by decide) hR.2⟩ rfl rfl (Nat.le_of_ble_eq_true rfl) dX7_check_29 h (fun v12 σ13 h => ?_)
  refine r_aload_n X dX7_check_32 rfl 0 rfl ?_
  refine r_callVv X 0 7 (by decide) rfl rfl rfl lk_X7_198 (c_X7_findElementsWithoutKids (zl z) X.2.2.2.2.2.2.2.1 N (zD z) (zy z) (zA z) (zS z) σ13) ⟨Nat.le_trans (by decide) hR.1, Nat.le_trans (by decide) hR.2⟩ rfl rfl (Nat.le_of_ble_eq_true rfl) dX7_check_33 h (fun v14 σ15 h => ?_)
  refine r_aload_n X dX7_check_36 rfl 0 rfl ?_
  refine r_callVv X 0 7 (by decide) rfl rfl rfl lk_X7_201 (c_X7_findRepeats (zl z) X.2.2.2.2.2.2.2.1 N (zD z) (zy z) (zA z) (zS z) σ15) ⟨Nat.le_trans (by decide) hR.1, Nat.le_trans (by decide) hR.2⟩ rfl rfl (Nat.le_of_ble_eq_true rfl) dX7_check_37 h (fun v16 σ17 h => ?_)
  refine r_aload_n X dX7_check_40 rfl 0 rfl ?_
  refine r_callVv X 0 7 (by decide) rfl rfl rfl lk_X7_204 (c_X7_findUntagged (zl z) X.2.2.2.2.2.2.2.1 N (zD z) (zy z) (zA z) (zS z) σ17) ⟨Nat.le_trans (by decide) hR.1, Nat.le_trans (by decide) hR.2⟩ rfl rfl (Nat.le_of_ble_eq_true rfl) dX7_check_41 h (fun v18 σ19 h => ?_)
  refine r_aload_n X dX7_check_44 rfl 0 rfl ?_
  refine r_callVv X 0 7 (by decide) rfl rfl rfl lk_X7_207 (c_X7_findOutOfOrder (zl z) X.2.2.2.2.2.2.2.1 N (zD z) (zy z) (zA z) (zS z) σ19) ⟨Nat.le_trans (by decide) hR.1, Nat.le_trans (by decide) hR.2⟩ rfl rfl (Nat.le_of_ble_eq_true rfl) dX7_check_45 h (fun v20 σ21 h => ?_)
  refine r_aload_n X dX7_check_48 rfl 0 rfl ?_
  refine gf_X7_58 X dX7_check_49 ?_
  refine gf_X7_177 X dX7_check_52 h (fun v22 h => ?_)
  exact r_iret Rt dX7_check_55 h
theorem c_X7_check (l : Launch) (hl : l.stackTraces = false) (N : Nat) (D : va_G) (cy : Nat → ClassId) (ad sa : Nat → Nat) (σ : Sg) : CtI l yX7_check cX7_check 1 (some .int) 7 152 D cy ad sa [.ref (ad 0)] σ (f_X7_check N σ) :=
  ct_I hl (by decide +kernel) (Nat.le_of_ble_eq_true rfl) (fun z res e1 e2 e3 e4 e5 e6 X Rt h => by subst e1 e2 e3 e4 e5; exact w_X7_check X ⟨e6.1, e6.2⟩ Rt N σ h)
def f_X7_fault (N : Nat) (a1 : Int32) (a2 : Int32) (σ : Sg) : Option Out := cT (f_X7_needWhat N a2 σ) (fun v1 σ2 => if a1 < 0 then (some (.inl "java/lang/IndexOutOfBoundsException", σ2)) else (lt (σ2 22 3) (fun v4 => if a1 < v4 then (if a2 = 0 then (rdA 760 (σ2 23) a1 (fun v10 => some (.inr v10, σ2))) else (if a2 = 1 then (rdA 760 (σ2 24) a1 (fun v9 => some (.inr v9, σ2))) else (rdA 760 (σ2 25) a1 (fun v8 => some (.inr v8, σ2))))) else (some (.inl "java/lang/IndexOutOfBoundsException", σ2)))))
set_option maxHeartbeats 4000000 in
set_option maxRecDepth 100000 in
theorem w_X7_fault {z : Cz} (X : Cx z cX7_fault 3 RX7) (hR : 7 ≤ (zR z).frames ∧ 110 ≤ (zR z).locals) {res : Out} (Rt : RtT z cX7_fault 3 res) (Th : ThT z res) (N : Nat) (a1 : Int32) (a2 : Int32) (σ : Sg) (h : f_X7_fault N a1 a2 σ = some res) : V z 0 3 0 [(0, .ref (zA z 0)), (1, .int a1), (2, .int a2)] [] σ := by
  rw [f_X7_fault] at h
  refine r_iload_n X dX7_fault_0 rfl 2 rfl ?_
  refine r_callSu X Th lk_X7_166 (c_X7_needWhat (zl z) X.2.2.2.2.2.2.2.1 N (zD z) (zy z) (zA z) (zS z) a2 σ) ⟨Nat.le_trans (by decide) hR.1, Nat.le_trans (by decide) hR.2⟩ rfl rfl (Nat.le_of_ble_eq_true rfl) dX7_fault_1 h (fun v1 σ2 h => ?_)
  refine r_iload_n X dX7_fault_4 rfl 1 rfl ?_
  refine r_if_lt X 19 dX7_fault_5 (by decide) h (fun g3 h => ?_) (fun g3 h => ?_)
  · exact r_throw X Th hR (by decide) (Nat.le_of_ble_eq_true rfl) (List.mem_of_getElem? (i := 5) rfl) tw_169_173 h dX7_fault_19 dX7_fault_22 dX7_fault_23 dX7_fault_25 dX7_fault_28
  · refine r_iload_n X dX7_fault_8 rfl 1 rfl ?_
    refine r_aload_n X dX7_fault_9 rfl 0 rfl ?_
    refine gf_X7_58 X dX7_fault_10 ?_
    refine gf_X7_177 X dX7_fault_13 h (fun v4 h => ?_)
    refine r_icmp_lt X 29 dX7_fault_16 (by decide) h (fun g5 h => ?_) (fun g5 h => ?_)
    · refine r_iload_n X dX7_fault_29 rfl 2 rfl ?_
      refine r_if_ne X 45 dX7_fault_30 (by decide) h (fun g6 h => ?_) (fun g6 h => ?_)
      · refine r_aload_n X dX7_fault_33 rfl 0 rfl ?_
        refine gf_X7_58 X dX7_fault_34 ?_
        refine gf_X7_212 X dX7_fault_37 ?_
        refine r_iload_n X dX7_fault_40 rfl 1 rfl ?_
        refine al_23 X dX7_fault_41 h (fun v10 h => ?_)
        refine r_goto X 71 dX7_fault_42 (by decide) ?_
        exact r_tret Rt dX7_fault_71 h
      · refine r_iload_n X dX7_fault_45 rfl 2 rfl ?_
        refine r_iconst X 1 dX7_fault_46 (by decide) ?_
        refine r_icmp_ne X 62 dX7_fault_47 (by decide) h (fun g7 h => ?_) (fun g7 h => ?_)
        · refine r_aload_n X dX7_fault_50 rfl 0 rfl ?_
          refine gf_X7_58 X dX7_fault_51 ?_
          refine gf_X7_215 X dX7_fault_54 ?_
          refine r_iload_n X dX7_fault_57 rfl 1 rfl ?_
          refine al_24 X dX7_fault_58 h (fun v9 h => ?_)
          refine r_goto X 71 dX7_fault_59 (by decide) ?_
          exact r_tret Rt dX7_fault_71 h
        · refine r_aload_n X dX7_fault_62 rfl 0 rfl ?_
          refine gf_X7_58 X dX7_fault_63 ?_
          refine gf_X7_217 X dX7_fault_66 ?_
          refine r_iload_n X dX7_fault_69 rfl 1 rfl ?_
          refine al_25 X dX7_fault_70 h (fun v8 h => ?_)
          exact r_tret Rt dX7_fault_71 h
    · exact r_throw X Th hR (by decide) (Nat.le_of_ble_eq_true rfl) (List.mem_of_getElem? (i := 5) rfl) tw_169_173 h dX7_fault_19 dX7_fault_22 dX7_fault_23 dX7_fault_25 dX7_fault_28
theorem c_X7_fault (l : Launch) (hl : l.stackTraces = false) (N : Nat) (D : va_G) (cy : Nat → ClassId) (ad sa : Nat → Nat) (a1 : Int32) (a2 : Int32) (σ : Sg) : CtT l yX7_fault cX7_fault 3 (some .int) 7 110 D cy ad sa [.ref (ad 0), .int a1, .int a2] σ (f_X7_fault N a1 a2 σ) :=
  ct_T hl (by decide +kernel) (Nat.le_of_ble_eq_true rfl) (fun z res e1 e2 e3 e4 e5 e6 X Rt Th h => by subst e1 e2 e3 e4 e5; exact w_X7_fault X ⟨e6.1, e6.2⟩ Rt Th N a1 a2 σ h)
def f_X7_heading (N : Nat) (a1 : Int32) (a2 : Int32) (σ : Sg) : Option Out := cT (f_X7_needElement N a1 σ) (fun v1 σ2 => if a2 < 1 then (some (.inl "java/lang/IllegalArgumentException", σ2)) else (if a2 ≤ 6 then (rdA 60 (σ2 26) a1 (fun v5 => wrA 60 σ2 26 a1 a2 (fun σ6 => some (.inr v5, σ6)))) else (some (.inl "java/lang/IllegalArgumentException", σ2))))
set_option maxHeartbeats 4000000 in
set_option maxRecDepth 100000 in
theorem w_X7_heading {z : Cz} (X : Cx z cX7_heading 4 RX7) (hR : 7 ≤ (zR z).frames ∧ 111 ≤ (zR z).locals) {res : Out} (Rt : RtT z cX7_heading 4 res) (Th : ThT z res) (N : Nat) (a1 : Int32) (a2 : Int32) (σ : Sg) (h : f_X7_heading N a1 a2 σ = some res) : V z 0 4 0 [(0, .ref (zA z 0)), (1, .int a1), (2, .int a2)] [] σ := by
  rw [f_X7_heading] at h
  refine r_aload_n X dX7_heading_0 rfl 0 rfl ?_
  refine r_iload_n X dX7_heading_1 rfl 1 rfl ?_
  refine r_callVu X Th 0 7 (by decide) rfl rfl rfl lk_X7_101 (c_X7_needElement (zl z) X.2.2.2.2.2.2.2.1 N (zD z) (zy z) (zA z) (zS z) a1 σ) ⟨Nat.le_trans (by decide) hR.1, Nat.le_trans (by decide) hR.2⟩ rfl rfl (Nat.le_of_ble_eq_true rfl) dX7_heading_2 h (fun v1 σ2 h => ?_)
  refine r_iload_n X dX7_heading_5 rfl 2 rfl ?_
  refine r_iconst X 1 dX7_heading_6 (by decide) ?_
  refine r_icmp_lt X 16 dX7_heading_7 (by decide) h (fun g3 h => ?_) (fun g3 h => ?_)
  · exact r_throw X Th hR (by decide) (Nat.le_of_ble_eq_true rfl) (List.mem_of_getElem? (i := 6) rfl) tw_109_113 h dX7_heading_16 dX7_heading_19 dX7_heading_20 dX7_heading_22 dX7_heading_25
  · refine r_iload_n X dX7_heading_10 rfl 2 rfl ?_
    refine r_bipush X 6 dX7_heading_11 (by decide) ?_
    refine r_icmp_le X 26 dX7_heading_13 (by decide) h (fun g4 h => ?_) (fun g4 h => ?_)
    · refine r_aload_n X dX7_heading_26 rfl 0 rfl ?_
      refine gf_X7_62 X dX7_heading_27 ?_
      refine r_iload_n X dX7_heading_30 rfl 1 rfl ?_
      refine al_26 X dX7_heading_31 h (fun v5 h => ?_)
      refine r_istore_n X [(3, .int v5), (0, .ref (zA z 0)), (1, .int a1), (2, .int a2)] dX7_heading_32 rfl (by decide) rfl ?_
      refine r_aload_n X dX7_heading_33 rfl 1 rfl ?_
      refine gf_X7_62 X dX7_heading_34 ?_
      refine r_iload_n X dX7_heading_37 rfl 2 rfl ?_
      refine r_iload_n X dX7_heading_38 rfl 3 rfl ?_
      refine as_26 X dX7_heading_39 h (fun σ6 h => ?_)
      refine r_iload_n X dX7_heading_40 rfl 0 rfl ?_
      exact r_tret Rt dX7_heading_41 h
    · exact r_throw X Th hR (by decide) (Nat.le_of_ble_eq_true rfl) (List.mem_of_getElem? (i := 6) rfl) tw_109_113 h dX7_heading_16 dX7_heading_19 dX7_heading_20 dX7_heading_22 dX7_heading_25
theorem c_X7_heading (l : Launch) (hl : l.stackTraces = false) (N : Nat) (D : va_G) (cy : Nat → ClassId) (ad sa : Nat → Nat) (a1 : Int32) (a2 : Int32) (σ : Sg) : CtT l yX7_heading cX7_heading 4 (some .int) 7 111 D cy ad sa [.ref (ad 0), .int a1, .int a2] σ (f_X7_heading N a1 a2 σ) :=
  ct_T hl (by decide +kernel) (Nat.le_of_ble_eq_true rfl) (fun z res e1 e2 e3 e4 e5 e6 X Rt Th h => by subst e1 e2 e3 e4 e5; exact w_X7_heading X ⟨e6.1, e6.2⟩ Rt Th N a1 a2 σ h)
def f_X7_words (N : Nat) (a1 : Int32) (a2 : Int32) (σ : Sg) : Option Out := cT (f_X7_needElement N a1 σ) (fun v1 σ2 => rdA 60 (σ2 27) a1 (fun v3 => if v3 = 0 then (wrA 60 σ2 27 a1 (vp_nar .boolean a2) (fun σ5 => some (.inr 0, σ5))) else (wrA 60 σ2 27 a1 (vp_nar .boolean a2) (fun σ6 => some (.inr 1, σ6)))))
set_option maxHeartbeats 4000000 in
set_option maxRecDepth 100000 in
theorem w_X7_words {z : Cz} (X : Cx z cX7_words 4 RX7) (hR : 7 ≤ (zR z).frames ∧ 111 ≤ (zR z).locals) {res : Out} (Rt : RtT z cX7_words 4 res) (Th : ThT z res) (N : Nat) (a1 : Int32) (a2 : Int32) (σ : Sg) (h : f_X7_words N a1 a2 σ = some res) : V z 0 4 0 [(0, .ref (zA z 0)), (1, .int a1), (2, .int a2)] [] σ := by
  rw [f_X7_words] at h
  refine r_aload_n X dX7_words_0 rfl 0 rfl ?_
  refine r_iload_n X dX7_words_1 rfl 1 rfl ?_
  refine r_callVu X Th 0 7 (by decide) rfl rfl rfl lk_X7_101 (c_X7_needElement (zl z) X.2.2.2.2.2.2.2.1 N (zD z) (zy z) (zA z) (zS z) a1 σ) ⟨Nat.le_trans (by decide) hR.1, Nat.le_trans (by decide) hR.2⟩ rfl rfl (Nat.le_of_ble_eq_true rfl) dX7_words_2 h (fun v1 σ2 h => ?_)
  refine r_aload_n X dX7_words_5 rfl 0 rfl ?_
  refine gf_X7_66 X dX7_words_6 ?_
  refine r_iload_n X dX7_words_9 rfl 1 rfl ?_
  refine al_27 X dX7_words_10 h (fun v3 h => ?_)
  refine r_if_eq X 18 dX7_words_11 (by decide) h (fun g4 h => ?_) (fun g4 h => ?_)
  · refine r_iconst X 0 dX7_words_18 (by decide) ?_
    refine r_istore_n X [(3, .int 0), (0, .ref (zA z 0)), (1, .int a1), (2, .int a2)] dX7_words_19 rfl (by decide) rfl ?_
    refine r_aload_n X dX7_words_20 rfl 1 rfl ?_
    refine gf_X7_66 X dX7_words_21 ?_
    refine r_iload_n X dX7_words_24 rfl 2 rfl ?_
    refine r_iload_n X dX7_words_25 rfl 3 rfl ?_
    refine as_27 X dX7_words_26 h (fun σ5 h => ?_)
    refine r_iload_n X dX7_words_27 rfl 0 rfl ?_
    exact r_tret Rt dX7_words_28 h
  · refine r_iconst X 1 dX7_words_14 (by decide) ?_
    refine r_goto X 19 dX7_words_15 (by decide) ?_
    refine r_istore_n X [(3, .int 1), (0, .ref (zA z 0)), (1, .int a1), (2, .int a2)] dX7_words_19 rfl (by decide) rfl ?_
    refine r_aload_n X dX7_words_20 rfl 1 rfl ?_
    refine gf_X7_66 X dX7_words_21 ?_
    refine r_iload_n X dX7_words_24 rfl 2 rfl ?_
    refine r_iload_n X dX7_words_25 rfl 3 rfl ?_
    refine as_27 X dX7_words_26 h (fun σ6 h => ?_)
    refine r_iload_n X dX7_words_27 rfl 0 rfl ?_
    exact r_tret Rt dX7_words_28 h
theorem c_X7_words (l : Launch) (hl : l.stackTraces = false) (N : Nat) (D : va_G) (cy : Nat → ClassId) (ad sa : Nat → Nat) (a1 : Int32) (a2 : Int32) (σ : Sg) : CtT l yX7_words cX7_words 4 (some .int) 7 111 D cy ad sa [.ref (ad 0), .int a1, .int a2] σ (f_X7_words N a1 a2 σ) :=
  ct_T hl (by decide +kernel) (Nat.le_of_ble_eq_true rfl) (fun z res e1 e2 e3 e4 e5 e6 X Rt Th h => by subst e1 e2 e3 e4 e5; exact w_X7_words X ⟨e6.1, e6.2⟩ Rt Th N a1 a2 σ h)
def f_X7_span (N : Nat) (a1 : Int32) (a2 : Int32) (a3 : Int32) (σ : Sg) : Option Out := cT (f_X7_needElement N a1 σ) (fun v1 σ2 => if a2 < 1 then (some (.inl "java/lang/IllegalArgumentException", σ2)) else (if 8 < a2 then (some (.inl "java/lang/IllegalArgumentException", σ2)) else (if a3 < 1 then (some (.inl "java/lang/IllegalArgumentException", σ2)) else (if a3 ≤ 8 then (rdA 60 (σ2 28) a1 (fun v7 => rdA 60 (σ2 29) a1 (fun v8 => lt ((10 * v7) + v8) (fun v9 => wrA 60 σ2 28 a1 a2 (fun σ10 => wrA 60 σ10 29 a1 a3 (fun σ11 => some (.inr v9, σ11))))))) else (some (.inl "java/lang/IllegalArgumentException", σ2))))))
set_option maxHeartbeats 4000000 in
set_option maxRecDepth 100000 in
theorem w_X7_span {z : Cz} (X : Cx z cX7_span 5 RX7) (hR : 7 ≤ (zR z).frames ∧ 111 ≤ (zR z).locals) {res : Out} (Rt : RtT z cX7_span 5 res) (Th : ThT z res) (N : Nat) (a1 : Int32) (a2 : Int32) (a3 : Int32) (σ : Sg) (h : f_X7_span N a1 a2 a3 σ = some res) : V z 0 5 0 [(0, .ref (zA z 0)), (1, .int a1), (2, .int a2), (3, .int a3)] [] σ := by
  rw [f_X7_span] at h
  refine r_aload_n X dX7_span_0 rfl 0 rfl ?_
  refine r_iload_n X dX7_span_1 rfl 1 rfl ?_
  refine r_callVu X Th 0 7 (by decide) rfl rfl rfl lk_X7_101 (c_X7_needElement (zl z) X.2.2.2.2.2.2.2.1 N (zD z) (zy z) (zA z) (zS z) a1 σ) ⟨Nat.le_trans (by decide) hR.1, Nat.le_trans (by decide) hR.2⟩ rfl rfl (Nat.le_of_ble_eq_true rfl) dX7_span_2 h (fun v1 σ2 h => ?_)
  refine r_iload_n X dX7_span_5 rfl 2 rfl ?_
  refine r_iconst X 1 dX7_span_6 (by decide) ?_
  refine r_icmp_lt X 27 dX7_span_7 (by decide) h (fun g3 h => ?_) (fun g3 h => ?_)
  · exact r_throw X Th hR (by decide) (Nat.le_of_ble_eq_true rfl) (List.mem_of_getElem? (i := 7) rfl) tw_109_113 h dX7_span_27 dX7_span_30 dX7_span_31 dX7_span_33 dX7_span_36
  · refine r_iload_n X dX7_span_10 rfl 2 rfl ?_
    refine r_bipush X 8 dX7_span_11 (by decide) ?_
    refine r_icmp_gt X 27 dX7_span_13 (by decide) h (fun g4 h => ?_) (fun g4 h => ?_)
    · exact r_throw X Th hR (by decide) (Nat.le_of_ble_eq_true rfl) (List.mem_of_getElem? (i := 7) rfl) tw_109_113 h dX7_span_27 dX7_span_30 dX7_span_31 dX7_span_33 dX7_span_36
    · refine r_iload_n X dX7_span_16 rfl 3 rfl ?_
      refine r_iconst X 1 dX7_span_17 (by decide) ?_
      refine r_icmp_lt X 27 dX7_span_18 (by decide) h (fun g5 h => ?_) (fun g5 h => ?_)
      · exact r_throw X Th hR (by decide) (Nat.le_of_ble_eq_true rfl) (List.mem_of_getElem? (i := 7) rfl) tw_109_113 h dX7_span_27 dX7_span_30 dX7_span_31 dX7_span_33 dX7_span_36
      · refine r_iload_n X dX7_span_21 rfl 3 rfl ?_
        refine r_bipush X 8 dX7_span_22 (by decide) ?_
        refine r_icmp_le X 37 dX7_span_24 (by decide) h (fun g6 h => ?_) (fun g6 h => ?_)
        · refine r_bipush X 10 dX7_span_37 (by decide) ?_
          refine r_aload_n X dX7_span_39 rfl 0 rfl ?_
          refine gf_X7_70 X dX7_span_40 ?_
          refine r_iload_n X dX7_span_43 rfl 1 rfl ?_
          refine al_28 X dX7_span_44 h (fun v7 h => ?_)
          refine r_imul X dX7_span_45 ?_
          refine r_aload_n X dX7_span_46 rfl 0 rfl ?_
          refine gf_X7_73 X dX7_span_47 ?_
          refine r_iload_n X dX7_span_50 rfl 1 rfl ?_
          refine al_29 X dX7_span_51 h (fun v8 h => ?_)
          refine r_iadd X dX7_span_52 ?_
          refine r_lt h (fun v9 h => ?_)
          refine r_istore X [(4, .int v9), (0, .ref (zA z 0)), (1, .int a1), (2, .int a2), (3, .int a3)] dX7_span_53 (by decide) rfl ?_
          refine r_aload_n X dX7_span_55 rfl 1 rfl ?_
          refine gf_X7_70 X dX7_span_56 ?_
          refine r_iload_n X dX7_span_59 rfl 2 rfl ?_
          refine r_iload_n X dX7_span_60 rfl 3 rfl ?_
          refine as_28 X dX7_span_61 h (fun σ10 h => ?_)
          refine r_aload_n X dX7_span_62 rfl 1 rfl ?_
          refine gf_X7_73 X dX7_span_63 ?_
          refine r_iload_n X dX7_span_66 rfl 2 rfl ?_
          refine r_iload_n X dX7_span_67 rfl 4 rfl ?_
          refine as_29 X dX7_span_68 h (fun σ11 h => ?_)
          refine r_iload X dX7_span_69 0 rfl ?_
          exact r_tret Rt dX7_span_71 h
        · exact r_throw X Th hR (by decide) (Nat.le_of_ble_eq_true rfl) (List.mem_of_getElem? (i := 7) rfl) tw_109_113 h dX7_span_27 dX7_span_30 dX7_span_31 dX7_span_33 dX7_span_36
theorem c_X7_span (l : Launch) (hl : l.stackTraces = false) (N : Nat) (D : va_G) (cy : Nat → ClassId) (ad sa : Nat → Nat) (a1 : Int32) (a2 : Int32) (a3 : Int32) (σ : Sg) : CtT l yX7_span cX7_span 5 (some .int) 7 111 D cy ad sa [.ref (ad 0), .int a1, .int a2, .int a3] σ (f_X7_span N a1 a2 a3 σ) :=
  ct_T hl (by decide +kernel) (Nat.le_of_ble_eq_true rfl) (fun z res e1 e2 e3 e4 e5 e6 X Rt Th h => by subst e1 e2 e3 e4 e5; exact w_X7_span X ⟨e6.1, e6.2⟩ Rt Th N a1 a2 a3 σ h)
def f_X7_outline (N : Nat) (a1 : Int32) (a2 : Int32) (σ : Sg) : Option Out := cI (f_X7_gatherHeadings N σ) (fun v1 σ2 => if a1 = (-1) then (lt (σ2 16 3) (fun v14 => some (.inr v14, σ2))) else (cT (f_X7_needWhat N a2 σ2) (fun v4 σ5 => if a1 < 0 then (some (.inl "java/lang/IndexOutOfBoundsException", σ5)) else (lt (σ5 16 3) (fun v7 => if a1 < v7 then (if a2 = 0 then (rdA 60 (σ5 17) a1 (fun v13 => some (.inr v13, σ5))) else (if a2 = 1 then (rdA 60 (σ5 19) a1 (fun v12 => some (.inr v12, σ5))) else (rdA 60 (σ5 18) a1 (fun v11 => some (.inr v11, σ5))))) else (some (.inl "java/lang/IndexOutOfBoundsException", σ5)))))))
set_option maxHeartbeats 4000000 in
set_option maxRecDepth 100000 in
theorem w_X7_outline {z : Cz} (X : Cx z cX7_outline 3 RX7) (hR : 7 ≤ (zR z).frames ∧ 129 ≤ (zR z).locals) {res : Out} (Rt : RtT z cX7_outline 3 res) (Th : ThT z res) (N : Nat) (a1 : Int32) (a2 : Int32) (σ : Sg) (h : f_X7_outline N a1 a2 σ = some res) : V z 0 3 0 [(0, .ref (zA z 0)), (1, .int a1), (2, .int a2)] [] σ := by
  rw [f_X7_outline] at h
  refine r_aload_n X dX7_outline_0 rfl 0 rfl ?_
  refine r_callVv X 0 7 (by decide) rfl rfl rfl lk_X7_224 (c_X7_gatherHeadings (zl z) X.2.2.2.2.2.2.2.1 N (zD z) (zy z) (zA z) (zS z) σ) ⟨Nat.le_trans (by decide) hR.1, Nat.le_trans (by decide) hR.2⟩ rfl rfl (Nat.le_of_ble_eq_true rfl) dX7_outline_1 h (fun v1 σ2 h => ?_)
  refine r_iload_n X dX7_outline_4 rfl 1 rfl ?_
  refine r_iconst X (-1) dX7_outline_5 (by decide) ?_
  refine r_icmp_ne X 17 dX7_outline_6 (by decide) h (fun g3 h => ?_) (fun g3 h => ?_)
  · refine r_aload_n X dX7_outline_9 rfl 0 rfl ?_
    refine gf_X7_44 X dX7_outline_10 ?_
    refine gf_X7_227 X dX7_outline_13 h (fun v14 h => ?_)
    exact r_tret Rt dX7_outline_16 h
  · refine r_iload_n X dX7_outline_17 rfl 2 rfl ?_
    refine r_callSu X Th lk_X7_166 (c_X7_needWhat (zl z) X.2.2.2.2.2.2.2.1 N (zD z) (zy z) (zA z) (zS z) a2 σ2) ⟨Nat.le_trans (by decide) hR.1, Nat.le_trans (by decide) hR.2⟩ rfl rfl (Nat.le_of_ble_eq_true rfl) dX7_outline_18 h (fun v4 σ5 h => ?_)
    refine r_iload_n X dX7_outline_21 rfl 1 rfl ?_
    refine r_if_lt X 36 dX7_outline_22 (by decide) h (fun g6 h => ?_) (fun g6 h => ?_)
    · exact r_throw X Th hR (by decide) (Nat.le_of_ble_eq_true rfl) (List.mem_of_getElem? (i := 8) rfl) tw_169_173 h dX7_outline_36 dX7_outline_39 dX7_outline_40 dX7_outline_42 dX7_outline_45
    · refine r_iload_n X dX7_outline_25 rfl 1 rfl ?_
      refine r_aload_n X dX7_outline_26 rfl 0 rfl ?_
      refine gf_X7_44 X dX7_outline_27 ?_
      refine gf_X7_227 X dX7_outline_30 h (fun v7 h => ?_)
      refine r_icmp_lt X 46 dX7_outline_33 (by decide) h (fun g8 h => ?_) (fun g8 h => ?_)
      · refine r_iload_n X dX7_outline_46 rfl 2 rfl ?_
        refine r_if_ne X 62 dX7_outline_47 (by decide) h (fun g9 h => ?_) (fun g9 h => ?_)
        · refine r_aload_n X dX7_outline_50 rfl 0 rfl ?_
          refine gf_X7_44 X dX7_outline_51 ?_
          refine gf_X7_230 X dX7_outline_54 ?_
          refine r_iload_n X dX7_outline_57 rfl 1 rfl ?_
          refine al_17 X dX7_outline_58 h (fun v13 h => ?_)
          refine r_goto X 88 dX7_outline_59 (by decide) ?_
          exact r_tret Rt dX7_outline_88 h
        · refine r_iload_n X dX7_outline_62 rfl 2 rfl ?_
          refine r_iconst X 1 dX7_outline_63 (by decide) ?_
          refine r_icmp_ne X 79 dX7_outline_64 (by decide) h (fun g10 h => ?_) (fun g10 h => ?_)
          · refine r_aload_n X dX7_outline_67 rfl 0 rfl ?_
            refine gf_X7_44 X dX7_outline_68 ?_
            refine gf_X7_231 X dX7_outline_71 ?_
            refine r_iload_n X dX7_outline_74 rfl 1 rfl ?_
            refine al_19 X dX7_outline_75 h (fun v12 h => ?_)
            refine r_goto X 88 dX7_outline_76 (by decide) ?_
            exact r_tret Rt dX7_outline_88 h
          · refine r_aload_n X dX7_outline_79 rfl 0 rfl ?_
            refine gf_X7_44 X dX7_outline_80 ?_
            refine gf_X7_234 X dX7_outline_83 ?_
            refine r_iload_n X dX7_outline_86 rfl 1 rfl ?_
            refine al_18 X dX7_outline_87 h (fun v11 h => ?_)
            exact r_tret Rt dX7_outline_88 h
      · exact r_throw X Th hR (by decide) (Nat.le_of_ble_eq_true rfl) (List.mem_of_getElem? (i := 8) rfl) tw_169_173 h dX7_outline_36 dX7_outline_39 dX7_outline_40 dX7_outline_42 dX7_outline_45
theorem c_X7_outline (l : Launch) (hl : l.stackTraces = false) (N : Nat) (D : va_G) (cy : Nat → ClassId) (ad sa : Nat → Nat) (a1 : Int32) (a2 : Int32) (σ : Sg) : CtT l yX7_outline cX7_outline 3 (some .int) 7 129 D cy ad sa [.ref (ad 0), .int a1, .int a2] σ (f_X7_outline N a1 a2 σ) :=
  ct_T hl (by decide +kernel) (Nat.le_of_ble_eq_true rfl) (fun z res e1 e2 e3 e4 e5 e6 X Rt Th h => by subst e1 e2 e3 e4 e5; exact w_X7_outline X ⟨e6.1, e6.2⟩ Rt Th N a1 a2 σ h)
def f_X7_untagged (N : Nat) (a1 : Int32) (σ : Sg) : Option Out := cI (f_X7_gatherLoose N σ) (fun v1 σ2 => if a1 = (-1) then (lt (σ2 0 15) (fun v8 => some (.inr v8, σ2))) else (if a1 < 0 then (some (.inl "java/lang/IndexOutOfBoundsException", σ2)) else (lt (σ2 0 15) (fun v5 => if a1 < v5 then (rdA 200 (σ2 32) a1 (fun v7 => some (.inr v7, σ2))) else (some (.inl "java/lang/IndexOutOfBoundsException", σ2))))))
set_option maxHeartbeats 4000000 in
set_option maxRecDepth 100000 in
theorem w_X7_untagged {z : Cz} (X : Cx z cX7_untagged 2 RX7) (hR : 6 ≤ (zR z).frames ∧ 90 ≤ (zR z).locals) {res : Out} (Rt : RtT z cX7_untagged 2 res) (Th : ThT z res) (N : Nat) (a1 : Int32) (σ : Sg) (h : f_X7_untagged N a1 σ = some res) : V z 0 2 0 [(0, .ref (zA z 0)), (1, .int a1)] [] σ := by
  rw [f_X7_untagged] at h
  refine r_aload_n X dX7_untagged_0 rfl 0 rfl ?_
  refine r_callVv X 0 7 (by decide) rfl rfl rfl lk_X7_235 (c_X7_gatherLoose (zl z) X.2.2.2.2.2.2.2.1 N (zD z) (zy z) (zA z) (zS z) σ) ⟨Nat.le_trans (by decide) hR.1, Nat.le_trans (by decide) hR.2⟩ rfl rfl (Nat.le_of_ble_eq_true rfl) dX7_untagged_1 h (fun v1 σ2 h => ?_)
  refine r_iload_n X dX7_untagged_4 rfl 1 rfl ?_
  refine r_iconst X (-1) dX7_untagged_5 (by decide) ?_
  refine r_icmp_ne X 14 dX7_untagged_6 (by decide) h (fun g3 h => ?_) (fun g3 h => ?_)
  · refine r_aload_n X dX7_untagged_9 rfl 0 rfl ?_
    refine gf_X7_89 X dX7_untagged_10 h (fun v8 h => ?_)
    exact r_tret Rt dX7_untagged_13 h
  · refine r_iload_n X dX7_untagged_14 rfl 1 rfl ?_
    refine r_if_lt X 26 dX7_untagged_15 (by decide) h (fun g4 h => ?_) (fun g4 h => ?_)
    · exact r_throw X Th hR (by decide) (Nat.le_of_ble_eq_true rfl) (List.mem_of_getElem? (i := 9) rfl) tw_169_173 h dX7_untagged_26 dX7_untagged_29 dX7_untagged_30 dX7_untagged_32 dX7_untagged_35
    · refine r_iload_n X dX7_untagged_18 rfl 1 rfl ?_
      refine r_aload_n X dX7_untagged_19 rfl 0 rfl ?_
      refine gf_X7_89 X dX7_untagged_20 h (fun v5 h => ?_)
      refine r_icmp_lt X 36 dX7_untagged_23 (by decide) h (fun g6 h => ?_) (fun g6 h => ?_)
      · refine r_aload_n X dX7_untagged_36 rfl 0 rfl ?_
        refine gf_X7_86 X dX7_untagged_37 ?_
        refine r_iload_n X dX7_untagged_40 rfl 1 rfl ?_
        refine al_32 X dX7_untagged_41 h (fun v7 h => ?_)
        exact r_tret Rt dX7_untagged_42 h
      · exact r_throw X Th hR (by decide) (Nat.le_of_ble_eq_true rfl) (List.mem_of_getElem? (i := 9) rfl) tw_169_173 h dX7_untagged_26 dX7_untagged_29 dX7_untagged_30 dX7_untagged_32 dX7_untagged_35
theorem c_X7_untagged (l : Launch) (hl : l.stackTraces = false) (N : Nat) (D : va_G) (cy : Nat → ClassId) (ad sa : Nat → Nat) (a1 : Int32) (σ : Sg) : CtT l yX7_untagged cX7_untagged 2 (some .int) 6 90 D cy ad sa [.ref (ad 0), .int a1] σ (f_X7_untagged N a1 σ) :=
  ct_T hl (by decide +kernel) (Nat.le_of_ble_eq_true rfl) (fun z res e1 e2 e3 e4 e5 e6 X Rt Th h => by subst e1 e2 e3 e4 e5; exact w_X7_untagged X ⟨e6.1, e6.2⟩ Rt Th N a1 σ h)
