def f_X8_parent (N : Nat) (a1 : Int32) (a2 : Int32) (σ : Sg) : Option (Int32 × Sg) := cI (f_X8_isPart N a1 a2 σ) (fun v1 σ2 => if v1 = 0 then (st (ss σ2 35 0 1) (fun σ4 => lt (σ4 35 0) (fun v5 => if v5 ≤ 0 then (cI (f_X8_ownerOf N ((20 * a1) + a2) σ4) (fun v7 σ8 => some (v7, σ8))) else (some (0, σ4))))) else (st (ss σ2 35 0 0) (fun σ9 => lt (σ9 35 0) (fun v10 => if v10 ≤ 0 then (cI (f_X8_ownerOf N ((20 * a1) + a2) σ9) (fun v12 σ13 => some (v12, σ13))) else (some (0, σ9))))))
set_option maxHeartbeats 4000000 in
set_option maxRecDepth 100000 in
theorem w_X8_parent {z : Cz} (X : Cx z cX8_parent 3 RX8) (hR : 2 ≤ (zR z).frames ∧ 43 ≤ (zR z).locals) {res : (Int32 × Sg)} (Rt : RtI z cX8_parent 3 .int res) (N : Nat) (a1 : Int32) (a2 : Int32) (σ : Sg) (h : f_X8_parent N a1 a2 σ = some res) : V z 0 3 0 [(0, .ref (zA z 35)), (1, .int a1), (2, .int a2)] [] σ := by
  rw [f_X8_parent] at h
  refine r_aload_n X dX8_parent_0 rfl 0 rfl ?_
  refine r_iload_n X dX8_parent_1 rfl 1 rfl ?_
  refine r_iload_n X dX8_parent_2 rfl 2 rfl ?_
  refine r_callS X lk_X8_96 (c_X8_isPart (zl z) X.2.2.2.2.2.2.2.1 N (zD z) (zy z) (zA z) (zS z) a1 a2 σ) ⟨Nat.le_trans (by decide) hR.1, Nat.le_trans (by decide) hR.2⟩ rfl rfl (Nat.le_of_ble_eq_true rfl) dX8_parent_3 h (fun v1 σ2 h => ?_)
  refine r_if_eq X 13 dX8_parent_6 (by decide) h (fun g3 h => ?_) (fun g3 h => ?_)
  · refine r_iconst X 1 dX8_parent_13 (by decide) ?_
    refine pf_X8_78 X dX8_parent_14 h (fun σ4 h => ?_)
    refine r_aload_n X dX8_parent_17 rfl 0 rfl ?_
    refine gf_X8_78 X dX8_parent_18 h (fun v5 h => ?_)
    refine r_if_le X 28 dX8_parent_21 (by decide) h (fun g6 h => ?_) (fun g6 h => ?_)
    · refine r_aload_n X dX8_parent_28 rfl 0 rfl ?_
      refine r_bipush X 20 dX8_parent_29 (by decide) ?_
      refine r_iload_n X dX8_parent_31 rfl 1 rfl ?_
      refine r_imul X dX8_parent_32 ?_
      refine r_iload_n X dX8_parent_33 rfl 2 rfl ?_
      refine r_iadd X dX8_parent_34 ?_
      refine r_callV X 35 8 (by decide) rfl rfl rfl lk_X8_99 (c_X8_ownerOf (zl z) X.2.2.2.2.2.2.2.1 N (zD z) (zy z) (zA z) (zS z) ((20 * a1) + a2) σ4) ⟨Nat.le_trans (by decide) hR.1, Nat.le_trans (by decide) hR.2⟩ rfl rfl (Nat.le_of_ble_eq_true rfl) dX8_parent_35 h (fun v7 σ8 h => ?_)
      exact r_iret Rt dX8_parent_38 h
    · refine r_iconst X 0 dX8_parent_24 (by decide) ?_
      refine r_goto X 38 dX8_parent_25 (by decide) ?_
      exact r_iret Rt dX8_parent_38 h
  · refine r_iconst X 0 dX8_parent_9 (by decide) ?_
    refine r_goto X 14 dX8_parent_10 (by decide) ?_
    refine pf_X8_78 X dX8_parent_14 h (fun σ9 h => ?_)
    refine r_aload_n X dX8_parent_17 rfl 0 rfl ?_
    refine gf_X8_78 X dX8_parent_18 h (fun v10 h => ?_)
    refine r_if_le X 28 dX8_parent_21 (by decide) h (fun g11 h => ?_) (fun g11 h => ?_)
    · refine r_aload_n X dX8_parent_28 rfl 0 rfl ?_
      refine r_bipush X 20 dX8_parent_29 (by decide) ?_
      refine r_iload_n X dX8_parent_31 rfl 1 rfl ?_
      refine r_imul X dX8_parent_32 ?_
      refine r_iload_n X dX8_parent_33 rfl 2 rfl ?_
      refine r_iadd X dX8_parent_34 ?_
      refine r_callV X 35 8 (by decide) rfl rfl rfl lk_X8_99 (c_X8_ownerOf (zl z) X.2.2.2.2.2.2.2.1 N (zD z) (zy z) (zA z) (zS z) ((20 * a1) + a2) σ9) ⟨Nat.le_trans (by decide) hR.1, Nat.le_trans (by decide) hR.2⟩ rfl rfl (Nat.le_of_ble_eq_true rfl) dX8_parent_35 h (fun v12 σ13 h => ?_)
      exact r_iret Rt dX8_parent_38 h
    · refine r_iconst X 0 dX8_parent_24 (by decide) ?_
      refine r_goto X 38 dX8_parent_25 (by decide) ?_
      exact r_iret Rt dX8_parent_38 h
theorem c_X8_parent (l : Launch) (hl : l.stackTraces = false) (N : Nat) (D : va_G) (cy : Nat → ClassId) (ad sa : Nat → Nat) (a1 : Int32) (a2 : Int32) (σ : Sg) : CtI l yX8_parent cX8_parent 3 (some .int) 2 43 D cy ad sa [.ref (ad 35), .int a1, .int a2] σ (f_X8_parent N a1 a2 σ) :=
  ct_I hl (by decide +kernel) (Nat.le_of_ble_eq_true rfl) (fun z res e1 e2 e3 e4 e5 e6 X Rt h => by subst e1 e2 e3 e4 e5; exact w_X8_parent X ⟨e6.1, e6.2⟩ Rt N a1 a2 σ h)
def f_X8_add (N : Nat) (a1 : Int32) (a2 : Int32) (a3 : Int32) (σ : Sg) : Option (Int32 × Sg) := lt (σ 35 25) (fun v1 => wrA 700 σ 53 v1 a1 (fun σ2 => lt (σ2 35 25) (fun v3 => wrA 700 σ2 54 v3 a2 (fun σ4 => lt (σ4 35 25) (fun v5 => wrA 700 σ4 55 v5 a3 (fun σ6 => lt (σ6 35 25) (fun v7 => st (ss σ6 35 25 (v7 + 1)) (fun σ8 => some (0, σ8)))))))))
set_option maxHeartbeats 4000000 in
set_option maxRecDepth 100000 in
theorem w_X8_add {z : Cz} (X : Cx z cX8_add 4 RX8) (hR : 0 ≤ (zR z).frames ∧ 0 ≤ (zR z).locals) {res : (Int32 × Sg)} (Rt : RtV z cX8_add 4 res) (N : Nat) (a1 : Int32) (a2 : Int32) (a3 : Int32) (σ : Sg) (h : f_X8_add N a1 a2 a3 σ = some res) : V z 0 4 0 [(0, .ref (zA z 35)), (1, .int a1), (2, .int a2), (3, .int a3)] [] σ := by
  rw [f_X8_add] at h
  refine r_aload_n X dX8_add_0 rfl 0 rfl ?_
  refine gf_X8_66 X dX8_add_1 ?_
  refine r_aload_n X dX8_add_4 rfl 0 rfl ?_
  refine gf_X8_141 X dX8_add_5 h (fun v1 h => ?_)
  refine r_iload_n X dX8_add_8 rfl 1 rfl ?_
  refine as_53 X dX8_add_9 h (fun σ2 h => ?_)
  refine r_aload_n X dX8_add_10 rfl 0 rfl ?_
  refine gf_X8_69 X dX8_add_11 ?_
  refine r_aload_n X dX8_add_14 rfl 0 rfl ?_
  refine gf_X8_141 X dX8_add_15 h (fun v3 h => ?_)
  refine r_iload_n X dX8_add_18 rfl 2 rfl ?_
  refine as_54 X dX8_add_19 h (fun σ4 h => ?_)
  refine r_aload_n X dX8_add_20 rfl 0 rfl ?_
  refine gf_X8_72 X dX8_add_21 ?_
  refine r_aload_n X dX8_add_24 rfl 0 rfl ?_
  refine gf_X8_141 X dX8_add_25 h (fun v5 h => ?_)
  refine r_iload_n X dX8_add_28 rfl 3 rfl ?_
  refine as_55 X dX8_add_29 h (fun σ6 h => ?_)
  refine r_aload_n X dX8_add_30 rfl 0 rfl ?_
  refine r_dup X dX8_add_31 rfl ?_
  refine gf_X8_141 X dX8_add_32 h (fun v7 h => ?_)
  refine r_iconst X 1 dX8_add_35 (by decide) ?_
  refine r_iadd X dX8_add_36 ?_
  refine pf_X8_141 X dX8_add_37 h (fun σ8 h => ?_)
  exact r_vret Rt dX8_add_40 h
theorem c_X8_add (l : Launch) (hl : l.stackTraces = false) (N : Nat) (D : va_G) (cy : Nat → ClassId) (ad sa : Nat → Nat) (a1 : Int32) (a2 : Int32) (a3 : Int32) (σ : Sg) : CtV l yX8_add cX8_add 4 0 0 D cy ad sa [.ref (ad 35), .int a1, .int a2, .int a3] σ (f_X8_add N a1 a2 a3 σ) :=
  ct_V hl (by decide +kernel) (Nat.le_of_ble_eq_true rfl) (fun z res e1 e2 e3 e4 e5 e6 X Rt h => by subst e1 e2 e3 e4 e5; exact w_X8_add X ⟨e6.1, e6.2⟩ Rt N a1 a2 a3 σ h)
def f_X8_parentOf_4 (N : Nat) (x1 : Int32) (K : Int32 → Sg → Option (Int32 × Sg)) : Nat → Int32 → Int32 → Sg → Option (Int32 × Sg)
  | 0, _, _, _ => none
  | n + 1, x2, x3, σ => lt (σ 35 8) (fun v1 => if v1 ≤ x3 then (K x2 σ) else (rdA 160 (σ 43) x3 (fun v3 => if v3 = x1 then (rdA 160 (σ 42) x3 (fun v6 => lt (x3 + 1) (fun v7 => f_X8_parentOf_4 N x1 K n v6 v7 σ))) else (lt (x3 + 1) (fun v5 => f_X8_parentOf_4 N x1 K n x2 v5 σ)))))
def f_X8_parentOf (N : Nat) (a1 : Int32) (σ : Sg) : Option (Int32 × Sg) := f_X8_parentOf_4 N a1 (fun v8 σ9 => some (v8, σ9)) N (-1) 0 σ
set_option maxHeartbeats 4000000 in
set_option maxRecDepth 100000 in
theorem w_X8_parentOf_4 {z : Cz} (X : Cx z cX8_parentOf 4 RX8) (hR : 0 ≤ (zR z).frames ∧ 0 ≤ (zR z).locals) {res : (Int32 × Sg)} (N : Nat) (x1 : Int32) (K : Int32 → Sg → Option (Int32 × Sg)) (kx : ∀ (y2 : Int32) (σ : Sg), K y2 σ = some res → V z 0 4 39 [(2, .int y2)] [] σ) : ∀ (n : Nat) (x2 : Int32) (x3 : Int32) (σ : Sg), f_X8_parentOf_4 N x1 K n x2 x3 σ = some res → V z 0 4 4 [(0, .ref (zA z 35)), (1, .int x1), (2, .int x2), (3, .int x3)] [] σ := by
  intro n
  induction n with
  | zero =>
    intro x2 x3 σ h
    rw [f_X8_parentOf_4] at h
    cases h
  | succ n ih =>
    intro x2 x3 σ h
    rw [f_X8_parentOf_4] at h
    refine r_iload_n X dX8_parentOf_4 rfl 3 rfl ?_
    refine r_aload_n X dX8_parentOf_5 rfl 0 rfl ?_
    refine gf_X8_89 X dX8_parentOf_6 h (fun v1 h => ?_)
    refine r_icmp_ge X 39 dX8_parentOf_9 (by decide) h (fun g2 h => ?_) (fun g2 h => ?_)
    · refine r_sub [2] rfl ?_
      exact kx x2 σ h
    · refine r_aload_n X dX8_parentOf_12 rfl 0 rfl ?_
      refine gf_X8_36 X dX8_parentOf_13 ?_
      refine r_iload_n X dX8_parentOf_16 rfl 3 rfl ?_
      refine al_43 X dX8_parentOf_17 h (fun v3 h => ?_)
      refine r_iload_n X dX8_parentOf_18 rfl 1 rfl ?_
      refine r_icmp_ne X 31 dX8_parentOf_19 (by decide) h (fun g4 h => ?_) (fun g4 h => ?_)
      · refine r_aload_n X dX8_parentOf_22 rfl 0 rfl ?_
        refine gf_X8_33 X dX8_parentOf_23 ?_
        refine r_iload_n X dX8_parentOf_26 rfl 3 rfl ?_
        refine al_42 X dX8_parentOf_27 h (fun v6 h => ?_)
        refine r_goto X 32 dX8_parentOf_28 (by decide) ?_
        refine r_istore_n X [(2, .int v6), (0, .ref (zA z 35)), (1, .int x1), (3, .int x3)] dX8_parentOf_32 rfl (by decide) rfl ?_
        refine r_iinc X 1 (fun v7 => [(3, .int v7), (2, .int v6), (0, .ref (zA z 35)), (1, .int x1)]) dX8_parentOf_33 3 rfl (by decide) (by decide) (fun _ => rfl) h (fun v7 h => ?_)
        refine r_goto X 4 dX8_parentOf_36 (by decide) ?_
        refine r_sub [2, 3, 1, 0] rfl ?_
        exact ih v6 v7 σ h
      · refine r_iload_n X dX8_parentOf_31 rfl 2 rfl ?_
        refine r_istore_n X [(2, .int x2), (0, .ref (zA z 35)), (1, .int x1), (3, .int x3)] dX8_parentOf_32 rfl (by decide) rfl ?_
        refine r_iinc X 1 (fun v5 => [(3, .int v5), (2, .int x2), (0, .ref (zA z 35)), (1, .int x1)]) dX8_parentOf_33 3 rfl (by decide) (by decide) (fun _ => rfl) h (fun v5 h => ?_)
        refine r_goto X 4 dX8_parentOf_36 (by decide) ?_
        refine r_sub [2, 3, 1, 0] rfl ?_
        exact ih x2 v5 σ h
set_option maxHeartbeats 4000000 in
set_option maxRecDepth 100000 in
theorem w_X8_parentOf {z : Cz} (X : Cx z cX8_parentOf 4 RX8) (hR : 0 ≤ (zR z).frames ∧ 0 ≤ (zR z).locals) {res : (Int32 × Sg)} (Rt : RtI z cX8_parentOf 4 .int res) (N : Nat) (a1 : Int32) (σ : Sg) (h : f_X8_parentOf N a1 σ = some res) : V z 0 4 0 [(0, .ref (zA z 35)), (1, .int a1)] [] σ := by
  rw [f_X8_parentOf] at h
  refine r_iconst X (-1) dX8_parentOf_0 (by decide) ?_
  refine r_istore_n X [(2, .int (-1)), (0, .ref (zA z 35)), (1, .int a1)] dX8_parentOf_1 rfl (by decide) rfl ?_
  refine r_iconst X 0 dX8_parentOf_2 (by decide) ?_
  refine r_istore_n X [(3, .int 0), (2, .int (-1)), (0, .ref (zA z 35)), (1, .int a1)] dX8_parentOf_3 rfl (by decide) rfl ?_
  refine r_sub [2, 3, 1, 0] rfl ?_
  refine w_X8_parentOf_4 X hR N a1 _ (fun v8 σ9 h => ?_) N (-1) 0 σ h
  refine r_iload_n X dX8_parentOf_39 rfl 0 rfl ?_
  exact r_iret Rt dX8_parentOf_40 h
theorem c_X8_parentOf (l : Launch) (hl : l.stackTraces = false) (N : Nat) (D : va_G) (cy : Nat → ClassId) (ad sa : Nat → Nat) (a1 : Int32) (σ : Sg) : CtI l yX8_parentOf cX8_parentOf 4 (some .int) 0 0 D cy ad sa [.ref (ad 35), .int a1] σ (f_X8_parentOf N a1 σ) :=
  ct_I hl (by decide +kernel) (Nat.le_of_ble_eq_true rfl) (fun z res e1 e2 e3 e4 e5 e6 X Rt h => by subst e1 e2 e3 e4 e5; exact w_X8_parentOf X ⟨e6.1, e6.2⟩ Rt N a1 σ h)
def f_X8_isCell (N : Nat) (a1 : Int32) (σ : Sg) : Option (Int32 × Sg) := cI (f_X8_is N a1 8 σ) (fun v1 σ2 => if v1 = 0 then (cI (f_X8_is N a1 9 σ2) (fun v4 σ5 => if v4 = 0 then (some (0, σ5)) else (some (1, σ5)))) else (some (1, σ2)))
set_option maxHeartbeats 4000000 in
set_option maxRecDepth 100000 in
theorem w_X8_isCell {z : Cz} (X : Cx z cX8_isCell 2 RX8) (hR : 2 ≤ (zR z).frames ∧ 44 ≤ (zR z).locals) {res : (Int32 × Sg)} (Rt : RtI z cX8_isCell 2 .boolean res) (N : Nat) (a1 : Int32) (σ : Sg) (h : f_X8_isCell N a1 σ = some res) : V z 0 2 0 [(0, .ref (zA z 35)), (1, .int a1)] [] σ := by
  rw [f_X8_isCell] at h
  refine r_aload_n X dX8_isCell_0 rfl 0 rfl ?_
  refine r_iload_n X dX8_isCell_1 rfl 1 rfl ?_
  refine r_bipush X 8 dX8_isCell_2 (by decide) ?_
  refine r_callV X 35 8 (by decide) rfl rfl rfl lk_X8_129 (c_X8_is (zl z) X.2.2.2.2.2.2.2.1 N (zD z) (zy z) (zA z) (zS z) a1 8 σ) ⟨Nat.le_trans (by decide) hR.1, Nat.le_trans (by decide) hR.2⟩ rfl rfl (Nat.le_of_ble_eq_true rfl) dX8_isCell_4 h (fun v1 σ2 h => ?_)
  refine r_if_ne X 20 dX8_isCell_7 (by decide) h (fun g3 h => ?_) (fun g3 h => ?_)
  · refine r_aload_n X dX8_isCell_10 rfl 0 rfl ?_
    refine r_iload_n X dX8_isCell_11 rfl 1 rfl ?_
    refine r_bipush X 9 dX8_isCell_12 (by decide) ?_
    refine r_callV X 35 8 (by decide) rfl rfl rfl lk_X8_129 (c_X8_is (zl z) X.2.2.2.2.2.2.2.1 N (zD z) (zy z) (zA z) (zS z) a1 9 σ2) ⟨Nat.le_trans (by decide) hR.1, Nat.le_trans (by decide) hR.2⟩ rfl rfl (Nat.le_of_ble_eq_true rfl) dX8_isCell_14 h (fun v4 σ5 h => ?_)
    refine r_if_eq X 24 dX8_isCell_17 (by decide) h (fun g6 h => ?_) (fun g6 h => ?_)
    · refine r_iconst X 0 dX8_isCell_24 (by decide) ?_
      exact r_zretC Rt dX8_isCell_25 (by decide) h
    · refine r_iconst X 1 dX8_isCell_20 (by decide) ?_
      refine r_goto X 25 dX8_isCell_21 (by decide) ?_
      exact r_zretC Rt dX8_isCell_25 (by decide) h
  · refine r_iconst X 1 dX8_isCell_20 (by decide) ?_
    refine r_goto X 25 dX8_isCell_21 (by decide) ?_
    exact r_zretC Rt dX8_isCell_25 (by decide) h
theorem c_X8_isCell (l : Launch) (hl : l.stackTraces = false) (N : Nat) (D : va_G) (cy : Nat → ClassId) (ad sa : Nat → Nat) (a1 : Int32) (σ : Sg) : CtI l yX8_isCell cX8_isCell 2 (some .boolean) 2 44 D cy ad sa [.ref (ad 35), .int a1] σ (f_X8_isCell N a1 σ) :=
  ct_I hl (by decide +kernel) (Nat.le_of_ble_eq_true rfl) (fun z res e1 e2 e3 e4 e5 e6 X Rt h => by subst e1 e2 e3 e4 e5; exact w_X8_isCell X ⟨e6.1, e6.2⟩ Rt N a1 σ h)
def f_X8_suits (N : Nat) (a1 : Int32) (a2 : Int32) (a3 : Int32) (σ : Sg) : Option (Int32 × Sg) := if a1 = 0 then (if a2 = 0 then (some (1, σ)) else (if a3 = 0 then (some (0, σ)) else (some (1, σ)))) else (gd (a2 = 0 ∨ a2 = 1) (some (a2, σ)))
set_option maxHeartbeats 4000000 in
set_option maxRecDepth 100000 in
theorem w_X8_suits {z : Cz} (X : Cx z cX8_suits 3 RX8) (hR : 0 ≤ (zR z).frames ∧ 0 ≤ (zR z).locals) {res : (Int32 × Sg)} (Rt : RtI z cX8_suits 3 .boolean res) (N : Nat) (a1 : Int32) (a2 : Int32) (a3 : Int32) (σ : Sg) (h : f_X8_suits N a1 a2 a3 σ = some res) : V z 0 3 0 [(0, .int a1), (1, .int a2), (2, .int a3)] [] σ := by
  rw [f_X8_suits] at h
  refine r_iload_n X dX8_suits_0 rfl 0 rfl ?_
  refine r_if_eq X 8 dX8_suits_1 (by decide) h (fun g1 h => ?_) (fun g1 h => ?_)
  · refine r_iload_n X dX8_suits_8 rfl 1 rfl ?_
    refine r_if_eq X 16 dX8_suits_9 (by decide) h (fun g2 h => ?_) (fun g2 h => ?_)
    · refine r_iconst X 1 dX8_suits_16 (by decide) ?_
      refine r_goto X 21 dX8_suits_17 (by decide) ?_
      exact r_zretC Rt dX8_suits_21 (by decide) h
    · refine r_iload_n X dX8_suits_12 rfl 2 rfl ?_
      refine r_if_eq X 20 dX8_suits_13 (by decide) h (fun g3 h => ?_) (fun g3 h => ?_)
      · refine r_iconst X 0 dX8_suits_20 (by decide) ?_
        exact r_zretC Rt dX8_suits_21 (by decide) h
      · refine r_iconst X 1 dX8_suits_16 (by decide) ?_
        refine r_goto X 21 dX8_suits_17 (by decide) ?_
        exact r_zretC Rt dX8_suits_21 (by decide) h
  · refine r_iload_n X dX8_suits_4 rfl 1 rfl ?_
    refine r_goto X 21 dX8_suits_5 (by decide) ?_
    exact r_zret Rt dX8_suits_21 h
theorem c_X8_suits (l : Launch) (hl : l.stackTraces = false) (N : Nat) (D : va_G) (cy : Nat → ClassId) (ad sa : Nat → Nat) (a1 : Int32) (a2 : Int32) (a3 : Int32) (σ : Sg) : CtI l yX8_suits cX8_suits 3 (some .boolean) 0 0 D cy ad sa [.int a1, .int a2, .int a3] σ (f_X8_suits N a1 a2 a3 σ) :=
  ct_I hl (by decide +kernel) (Nat.le_of_ble_eq_true rfl) (fun z res e1 e2 e3 e4 e5 e6 X Rt h => by subst e1 e2 e3 e4 e5; exact w_X8_suits X ⟨e6.1, e6.2⟩ Rt N a1 a2 a3 σ h)
def f_X8_isPlaced (N : Nat) (a1 : Int32) (σ : Sg) : Option (Int32 × Sg) := cI (f_X8_parentOf N a1 σ) (fun v1 σ2 => cI (f_X8_is N a1 12 σ2) (fun v3 σ4 => cI (f_X8_is N a1 5 σ4) (fun v5 σ6 => if v1 = (-1) then (cI (f_X8_suits N v5 0 v3 σ6) (fun v8 σ9 => cI (f_X8_is N a1 7 σ9) (fun v10 σ11 => if v1 = (-1) then (cI (f_X8_suits N v10 0 v3 σ11) (fun v13 σ14 => if v8 = 0 then (some (0, σ14)) else (if v13 = 0 then (some (0, σ14)) else (cI (f_X8_isCell N a1 σ14) (fun v17 σ18 => if v1 = (-1) then (cI (f_X8_suits N v17 0 v3 σ18) (fun v20 σ21 => if v20 = 0 then (some (0, σ21)) else (some (1, σ21)))) else (cI (f_X8_is N v1 7 σ18) (fun v23 σ24 => if v23 = 0 then (cI (f_X8_suits N v17 0 v3 σ24) (fun v26 σ27 => if v26 = 0 then (some (0, σ27)) else (some (1, σ27)))) else (cI (f_X8_suits N v17 1 v3 σ24) (fun v29 σ30 => if v29 = 0 then (some (0, σ30)) else (some (1, σ30))))))))))) else (cI (f_X8_is N v1 6 σ11) (fun v32 σ33 => if v32 = 0 then (cI (f_X8_suits N v10 0 v3 σ33) (fun v35 σ36 => if v8 = 0 then (some (0, σ36)) else (if v35 = 0 then (some (0, σ36)) else (cI (f_X8_isCell N a1 σ36) (fun v39 σ40 => if v1 = (-1) then (cI (f_X8_suits N v39 0 v3 σ40) (fun v42 σ43 => if v42 = 0 then (some (0, σ43)) else (some (1, σ43)))) else (cI (f_X8_is N v1 7 σ40) (fun v45 σ46 => if v45 = 0 then (cI (f_X8_suits N v39 0 v3 σ46) (fun v48 σ49 => if v48 = 0 then (some (0, σ49)) else (some (1, σ49)))) else (cI (f_X8_suits N v39 1 v3 σ46) (fun v51 σ52 => if v51 = 0 then (some (0, σ52)) else (some (1, σ52))))))))))) else (cI (f_X8_suits N v10 1 v3 σ33) (fun v54 σ55 => if v8 = 0 then (some (0, σ55)) else (if v54 = 0 then (some (0, σ55)) else (cI (f_X8_isCell N a1 σ55) (fun v58 σ59 => if v1 = (-1) then (cI (f_X8_suits N v58 0 v3 σ59) (fun v61 σ62 => if v61 = 0 then (some (0, σ62)) else (some (1, σ62)))) else (cI (f_X8_is N v1 7 σ59) (fun v64 σ65 => if v64 = 0 then (cI (f_X8_suits N v58 0 v3 σ65) (fun v67 σ68 => if v67 = 0 then (some (0, σ68)) else (some (1, σ68)))) else (cI (f_X8_suits N v58 1 v3 σ65) (fun v70 σ71 => if v70 = 0 then (some (0, σ71)) else (some (1, σ71)))))))))))))))) else (cI (f_X8_is N v1 4 σ6) (fun v73 σ74 => if v73 = 0 then (cI (f_X8_suits N v5 0 v3 σ74) (fun v76 σ77 => cI (f_X8_is N a1 7 σ77) (fun v78 σ79 => if v1 = (-1) then (cI (f_X8_suits N v78 0 v3 σ79) (fun v81 σ82 => if v76 = 0 then (some (0, σ82)) else (if v81 = 0 then (some (0, σ82)) else (cI (f_X8_isCell N a1 σ82) (fun v85 σ86 => if v1 = (-1) then (cI (f_X8_suits N v85 0 v3 σ86) (fun v88 σ89 => if v88 = 0 then (some (0, σ89)) else (some (1, σ89)))) else (cI (f_X8_is N v1 7 σ86) (fun v91 σ92 => if v91 = 0 then (cI (f_X8_suits N v85 0 v3 σ92) (fun v94 σ95 => if v94 = 0 then (some (0, σ95)) else (some (1, σ95)))) else (cI (f_X8_suits N v85 1 v3 σ92) (fun v97 σ98 => if v97 = 0 then (some (0, σ98)) else (some (1, σ98))))))))))) else (cI (f_X8_is N v1 6 σ79) (fun v100 σ101 => if v100 = 0 then (cI (f_X8_suits N v78 0 v3 σ101) (fun v103 σ104 => if v76 = 0 then (some (0, σ104)) else (if v103 = 0 then (some (0, σ104)) else (cI (f_X8_isCell N a1 σ104) (fun v107 σ108 => if v1 = (-1) then (cI (f_X8_suits N v107 0 v3 σ108) (fun v110 σ111 => if v110 = 0 then (some (0, σ111)) else (some (1, σ111)))) else (cI (f_X8_is N v1 7 σ108) (fun v113 σ114 => if v113 = 0 then (cI (f_X8_suits N v107 0 v3 σ114) (fun v116 σ117 => if v116 = 0 then (some (0, σ117)) else (some (1, σ117)))) else (cI (f_X8_suits N v107 1 v3 σ114) (fun v119 σ120 => if v119 = 0 then (some (0, σ120)) else (some (1, σ120))))))))))) else (cI (f_X8_suits N v78 1 v3 σ101) (fun v122 σ123 => if v76 = 0 then (some (0, σ123)) else (if v122 = 0 then (some (0, σ123)) else (cI (f_X8_isCell N a1 σ123) (fun v126 σ127 => if v1 = (-1) then (cI (f_X8_suits N v126 0 v3 σ127) (fun v129 σ130 => if v129 = 0 then (some (0, σ130)) else (some (1, σ130)))) else (cI (f_X8_is N v1 7 σ127) (fun v132 σ133 => if v132 = 0 then (cI (f_X8_suits N v126 0 v3 σ133) (fun v135 σ136 => if v135 = 0 then (some (0, σ136)) else (some (1, σ136)))) else (cI (f_X8_suits N v126 1 v3 σ133) (fun v138 σ139 => if v138 = 0 then (some (0, σ139)) else (some (1, σ139)))))))))))))))) else (cI (f_X8_suits N v5 1 v3 σ74) (fun v141 σ142 => cI (f_X8_is N a1 7 σ142) (fun v143 σ144 => if v1 = (-1) then (cI (f_X8_suits N v143 0 v3 σ144) (fun v146 σ147 => if v141 = 0 then (some (0, σ147)) else (if v146 = 0 then (some (0, σ147)) else (cI (f_X8_isCell N a1 σ147) (fun v150 σ151 => if v1 = (-1) then (cI (f_X8_suits N v150 0 v3 σ151) (fun v153 σ154 => if v153 = 0 then (some (0, σ154)) else (some (1, σ154)))) else (cI (f_X8_is N v1 7 σ151) (fun v156 σ157 => if v156 = 0 then (cI (f_X8_suits N v150 0 v3 σ157) (fun v159 σ160 => if v159 = 0 then (some (0, σ160)) else (some (1, σ160)))) else (cI (f_X8_suits N v150 1 v3 σ157) (fun v162 σ163 => if v162 = 0 then (some (0, σ163)) else (some (1, σ163))))))))))) else (cI (f_X8_is N v1 6 σ144) (fun v165 σ166 => if v165 = 0 then (cI (f_X8_suits N v143 0 v3 σ166) (fun v168 σ169 => if v141 = 0 then (some (0, σ169)) else (if v168 = 0 then (some (0, σ169)) else (cI (f_X8_isCell N a1 σ169) (fun v172 σ173 => if v1 = (-1) then (cI (f_X8_suits N v172 0 v3 σ173) (fun v175 σ176 => if v175 = 0 then (some (0, σ176)) else (some (1, σ176)))) else (cI (f_X8_is N v1 7 σ173) (fun v178 σ179 => if v178 = 0 then (cI (f_X8_suits N v172 0 v3 σ179) (fun v181 σ182 => if v181 = 0 then (some (0, σ182)) else (some (1, σ182)))) else (cI (f_X8_suits N v172 1 v3 σ179) (fun v184 σ185 => if v184 = 0 then (some (0, σ185)) else (some (1, σ185))))))))))) else (cI (f_X8_suits N v143 1 v3 σ166) (fun v187 σ188 => if v141 = 0 then (some (0, σ188)) else (if v187 = 0 then (some (0, σ188)) else (cI (f_X8_isCell N a1 σ188) (fun v191 σ192 => if v1 = (-1) then (cI (f_X8_suits N v191 0 v3 σ192) (fun v194 σ195 => if v194 = 0 then (some (0, σ195)) else (some (1, σ195)))) else (cI (f_X8_is N v1 7 σ192) (fun v197 σ198 => if v197 = 0 then (cI (f_X8_suits N v191 0 v3 σ198) (fun v200 σ201 => if v200 = 0 then (some (0, σ201)) else (some (1, σ201)))) else (cI (f_X8_suits N v191 1 v3 σ198) (fun v203 σ204 => if v203 = 0 then (some (0, σ204)) else (some (1, σ204)))))))))))))))))))))
set_option maxHeartbeats 4000000 in
set_option maxRecDepth 100000 in
theorem w_X8_isPlaced {z : Cz} (X : Cx z cX8_isPlaced 6 RX8) (hR : 3 ≤ (zR z).frames ∧ 65 ≤ (zR z).locals) {res : (Int32 × Sg)} (Rt : RtI z cX8_isPlaced 6 .boolean res) (N : Nat) (a1 : Int32) (σ : Sg) (h : f_X8_isPlaced N a1 σ = some res) : V z 0 6 0 [(0, .ref (zA z 35)), (1, .int a1)] [] σ := by
  rw [f_X8_isPlaced] at h
  refine r_aload_n X dX8_isPlaced_0 rfl 0 rfl ?_
  refine r_iload_n X dX8_isPlaced_1 rfl 1 rfl ?_
  refine r_callV X 35 8 (by decide) rfl rfl rfl lk_X8_144 (c_X8_parentOf (zl z) X.2.2.2.2.2.2.2.1 N (zD z) (zy z) (zA z) (zS z) a1 σ) ⟨Nat.le_trans (by decide) hR.1, Nat.le_trans (by decide) hR.2⟩ rfl rfl (Nat.le_of_ble_eq_true rfl) dX8_isPlaced_2 h (fun v1 σ2 h => ?_)
  refine r_istore_n X [(2, .int v1), (0, .ref (zA z 35)), (1, .int a1)] dX8_isPlaced_5 rfl (by decide) rfl ?_
  refine r_aload_n X dX8_isPlaced_6 rfl 1 rfl ?_
  refine r_iload_n X dX8_isPlaced_7 rfl 2 rfl ?_
  refine r_bipush X 12 dX8_isPlaced_8 (by decide) ?_
  refine r_callV X 35 8 (by decide) rfl rfl rfl lk_X8_129 (c_X8_is (zl z) X.2.2.2.2.2.2.2.1 N (zD z) (zy z) (zA z) (zS z) a1 12 σ2) ⟨Nat.le_trans (by decide) hR.1, Nat.le_trans (by decide) hR.2⟩ rfl rfl (Nat.le_of_ble_eq_true rfl) dX8_isPlaced_10 h (fun v3 σ4 h => ?_)
  refine r_istore_n X [(3, .int v3), (2, .int v1), (0, .ref (zA z 35)), (1, .int a1)] dX8_isPlaced_13 rfl (by decide) rfl ?_
  refine r_aload_n X dX8_isPlaced_14 rfl 2 rfl ?_
  refine r_iload_n X dX8_isPlaced_15 rfl 3 rfl ?_
  refine r_iconst X 5 dX8_isPlaced_16 (by decide) ?_
  refine r_callV X 35 8 (by decide) rfl rfl rfl lk_X8_129 (c_X8_is (zl z) X.2.2.2.2.2.2.2.1 N (zD z) (zy z) (zA z) (zS z) a1 5 σ4) ⟨Nat.le_trans (by decide) hR.1, Nat.le_trans (by decide) hR.2⟩ rfl rfl (Nat.le_of_ble_eq_true rfl) dX8_isPlaced_17 h (fun v5 σ6 h => ?_)
  refine r_iload_n X dX8_isPlaced_20 rfl 1 rfl ?_
  refine r_iconst X (-1) dX8_isPlaced_21 (by decide) ?_
  refine r_icmp_eq X 38 dX8_isPlaced_22 (by decide) h (fun g7 h => ?_) (fun g7 h => ?_)
  · refine r_iconst X 0 dX8_isPlaced_38 (by decide) ?_
    refine r_iload_n X dX8_isPlaced_39 rfl 0 rfl ?_
    refine r_callS X lk_X8_147 (c_X8_suits (zl z) X.2.2.2.2.2.2.2.1 N (zD z) (zy z) (zA z) (zS z) v5 0 v3 σ6) ⟨Nat.le_trans (by decide) hR.1, Nat.le_trans (by decide) hR.2⟩ rfl rfl (Nat.le_of_ble_eq_true rfl) dX8_isPlaced_40 h (fun v8 σ9 h => ?_)
    refine r_istore X [(4, .int v8), (3, .int v3), (2, .int v1), (0, .ref (zA z 35)), (1, .int a1)] dX8_isPlaced_43 (by decide) rfl ?_
    refine r_aload_n X dX8_isPlaced_45 rfl 3 rfl ?_
    refine r_iload_n X dX8_isPlaced_46 rfl 4 rfl ?_
    refine r_bipush X 7 dX8_isPlaced_47 (by decide) ?_
    refine r_callV X 35 8 (by decide) rfl rfl rfl lk_X8_129 (c_X8_is (zl z) X.2.2.2.2.2.2.2.1 N (zD z) (zy z) (zA z) (zS z) a1 7 σ9) ⟨Nat.le_trans (by decide) hR.1, Nat.le_trans (by decide) hR.2⟩ rfl rfl (Nat.le_of_ble_eq_true rfl) dX8_isPlaced_49 h (fun v10 σ11 h => ?_)
    refine r_iload_n X dX8_isPlaced_52 rfl 2 rfl ?_
    refine r_iconst X (-1) dX8_isPlaced_53 (by decide) ?_
    refine r_icmp_eq X 71 dX8_isPlaced_54 (by decide) h (fun g12 h => ?_) (fun g12 h => ?_)
    · refine r_iconst X 0 dX8_isPlaced_71 (by decide) ?_
      refine r_iload_n X dX8_isPlaced_72 rfl 1 rfl ?_
      refine r_callS X lk_X8_147 (c_X8_suits (zl z) X.2.2.2.2.2.2.2.1 N (zD z) (zy z) (zA z) (zS z) v10 0 v3 σ11) ⟨Nat.le_trans (by decide) hR.1, Nat.le_trans (by decide) hR.2⟩ rfl rfl (Nat.le_of_ble_eq_true rfl) dX8_isPlaced_73 h (fun v13 σ14 h => ?_)
      refine r_istore X [(5, .int v13), (4, .int v8), (3, .int v3), (2, .int v1), (0, .ref (zA z 35)), (1, .int a1)] dX8_isPlaced_76 (by decide) rfl ?_
      refine r_iload X dX8_isPlaced_78 1 rfl ?_
      refine r_if_eq X 124 dX8_isPlaced_80 (by decide) h (fun g15 h => ?_) (fun g15 h => ?_)
      · refine r_iconst X 0 dX8_isPlaced_124 (by decide) ?_
        exact r_zretC Rt dX8_isPlaced_125 (by decide) h
      · refine r_iload X dX8_isPlaced_83 0 rfl ?_
        refine r_if_eq X 124 dX8_isPlaced_85 (by decide) h (fun g16 h => ?_) (fun g16 h => ?_)
        · refine r_iconst X 0 dX8_isPlaced_124 (by decide) ?_
          exact r_zretC Rt dX8_isPlaced_125 (by decide) h
        · refine r_aload_n X dX8_isPlaced_88 rfl 4 rfl ?_
          refine r_iload_n X dX8_isPlaced_89 rfl 5 rfl ?_
          refine r_callV X 35 8 (by decide) rfl rfl rfl lk_X8_151 (c_X8_isCell (zl z) X.2.2.2.2.2.2.2.1 N (zD z) (zy z) (zA z) (zS z) a1 σ14) ⟨Nat.le_trans (by decide) hR.1, Nat.le_trans (by decide) hR.2⟩ rfl rfl (Nat.le_of_ble_eq_true rfl) dX8_isPlaced_90 h (fun v17 σ18 h => ?_)
          refine r_iload_n X dX8_isPlaced_93 rfl 3 rfl ?_
          refine r_iconst X (-1) dX8_isPlaced_94 (by decide) ?_
          refine r_icmp_eq X 112 dX8_isPlaced_95 (by decide) h (fun g19 h => ?_) (fun g19 h => ?_)
          · refine r_iconst X 0 dX8_isPlaced_112 (by decide) ?_
            refine r_iload_n X dX8_isPlaced_113 rfl 2 rfl ?_
            refine r_callS X lk_X8_147 (c_X8_suits (zl z) X.2.2.2.2.2.2.2.1 N (zD z) (zy z) (zA z) (zS z) v17 0 v3 σ18) ⟨Nat.le_trans (by decide) hR.1, Nat.le_trans (by decide) hR.2⟩ rfl rfl (Nat.le_of_ble_eq_true rfl) dX8_isPlaced_114 h (fun v20 σ21 h => ?_)
            refine r_if_eq X 124 dX8_isPlaced_117 (by decide) h (fun g22 h => ?_) (fun g22 h => ?_)
            · refine r_iconst X 0 dX8_isPlaced_124 (by decide) ?_
              exact r_zretC Rt dX8_isPlaced_125 (by decide) h
            · refine r_iconst X 1 dX8_isPlaced_120 (by decide) ?_
              refine r_goto X 125 dX8_isPlaced_121 (by decide) ?_
              exact r_zretC Rt dX8_isPlaced_125 (by decide) h
          · refine r_aload_n X dX8_isPlaced_98 rfl 4 rfl ?_
            refine r_iload_n X dX8_isPlaced_99 rfl 3 rfl ?_
            refine r_bipush X 7 dX8_isPlaced_100 (by decide) ?_
            refine r_callV X 35 8 (by decide) rfl rfl rfl lk_X8_129 (c_X8_is (zl z) X.2.2.2.2.2.2.2.1 N (zD z) (zy z) (zA z) (zS z) v1 7 σ18) ⟨Nat.le_trans (by decide) hR.1, Nat.le_trans (by decide) hR.2⟩ rfl rfl (Nat.le_of_ble_eq_true rfl) dX8_isPlaced_102 h (fun v23 σ24 h => ?_)
            refine r_if_eq X 112 dX8_isPlaced_105 (by decide) h (fun g25 h => ?_) (fun g25 h => ?_)
            · refine r_iconst X 0 dX8_isPlaced_112 (by decide) ?_
              refine r_iload_n X dX8_isPlaced_113 rfl 2 rfl ?_
              refine r_callS X lk_X8_147 (c_X8_suits (zl z) X.2.2.2.2.2.2.2.1 N (zD z) (zy z) (zA z) (zS z) v17 0 v3 σ24) ⟨Nat.le_trans (by decide) hR.1, Nat.le_trans (by decide) hR.2⟩ rfl rfl (Nat.le_of_ble_eq_true rfl) dX8_isPlaced_114 h (fun v26 σ27 h => ?_)
              refine r_if_eq X 124 dX8_isPlaced_117 (by decide) h (fun g28 h => ?_) (fun g28 h => ?_)
              · refine r_iconst X 0 dX8_isPlaced_124 (by decide) ?_
                exact r_zretC Rt dX8_isPlaced_125 (by decide) h
              · refine r_iconst X 1 dX8_isPlaced_120 (by decide) ?_
                refine r_goto X 125 dX8_isPlaced_121 (by decide) ?_
                exact r_zretC Rt dX8_isPlaced_125 (by decide) h
            · refine r_iconst X 1 dX8_isPlaced_108 (by decide) ?_
              refine r_goto X 113 dX8_isPlaced_109 (by decide) ?_
              refine r_iload_n X dX8_isPlaced_113 rfl 2 rfl ?_
              refine r_callS X lk_X8_147 (c_X8_suits (zl z) X.2.2.2.2.2.2.2.1 N (zD z) (zy z) (zA z) (zS z) v17 1 v3 σ24) ⟨Nat.le_trans (by decide) hR.1, Nat.le_trans (by decide) hR.2⟩ rfl rfl (Nat.le_of_ble_eq_true rfl) dX8_isPlaced_114 h (fun v29 σ30 h => ?_)
              refine r_if_eq X 124 dX8_isPlaced_117 (by decide) h (fun g31 h => ?_) (fun g31 h => ?_)
              · refine r_iconst X 0 dX8_isPlaced_124 (by decide) ?_
                exact r_zretC Rt dX8_isPlaced_125 (by decide) h
              · refine r_iconst X 1 dX8_isPlaced_120 (by decide) ?_
                refine r_goto X 125 dX8_isPlaced_121 (by decide) ?_
                exact r_zretC Rt dX8_isPlaced_125 (by decide) h
    · refine r_aload_n X dX8_isPlaced_57 rfl 3 rfl ?_
      refine r_iload_n X dX8_isPlaced_58 rfl 2 rfl ?_
      refine r_bipush X 6 dX8_isPlaced_59 (by decide) ?_
      refine r_callV X 35 8 (by decide) rfl rfl rfl lk_X8_129 (c_X8_is (zl z) X.2.2.2.2.2.2.2.1 N (zD z) (zy z) (zA z) (zS z) v1 6 σ11) ⟨Nat.le_trans (by decide) hR.1, Nat.le_trans (by decide) hR.2⟩ rfl rfl (Nat.le_of_ble_eq_true rfl) dX8_isPlaced_61 h (fun v32 σ33 h => ?_)
      refine r_if_eq X 71 dX8_isPlaced_64 (by decide) h (fun g34 h => ?_) (fun g34 h => ?_)
      · refine r_iconst X 0 dX8_isPlaced_71 (by decide) ?_
        refine r_iload_n X dX8_isPlaced_72 rfl 1 rfl ?_
        refine r_callS X lk_X8_147 (c_X8_suits (zl z) X.2.2.2.2.2.2.2.1 N (zD z) (zy z) (zA z) (zS z) v10 0 v3 σ33) ⟨Nat.le_trans (by decide) hR.1, Nat.le_trans (by decide) hR.2⟩ rfl rfl (Nat.le_of_ble_eq_true rfl) dX8_isPlaced_73 h (fun v35 σ36 h => ?_)
        refine r_istore X [(5, .int v35), (4, .int v8), (3, .int v3), (2, .int v1), (0, .ref (zA z 35)), (1, .int a1)] dX8_isPlaced_76 (by decide) rfl ?_
        refine r_iload X dX8_isPlaced_78 1 rfl ?_
        refine r_if_eq X 124 dX8_isPlaced_80 (by decide) h (fun g37 h => ?_) (fun g37 h => ?_)
        · refine r_iconst X 0 dX8_isPlaced_124 (by decide) ?_
          exact r_zretC Rt dX8_isPlaced_125 (by decide) h
        · refine r_iload X dX8_isPlaced_83 0 rfl ?_
          refine r_if_eq X 124 dX8_isPlaced_85 (by decide) h (fun g38 h => ?_) (fun g38 h => ?_)
          · refine r_iconst X 0 dX8_isPlaced_124 (by decide) ?_
            exact r_zretC Rt dX8_isPlaced_125 (by decide) h
          · refine r_aload_n X dX8_isPlaced_88 rfl 4 rfl ?_
            refine r_iload_n X dX8_isPlaced_89 rfl 5 rfl ?_
            refine r_callV X 35 8 (by decide) rfl rfl rfl lk_X8_151 (c_X8_isCell (zl z) X.2.2.2.2.2.2.2.1 N (zD z) (zy z) (zA z) (zS z) a1 σ36) ⟨Nat.le_trans (by decide) hR.1, Nat.le_trans (by decide) hR.2⟩ rfl rfl (Nat.le_of_ble_eq_true rfl) dX8_isPlaced_90 h (fun v39 σ40 h => ?_)
            refine r_iload_n X dX8_isPlaced_93 rfl 3 rfl ?_
            refine r_iconst X (-1) dX8_isPlaced_94 (by decide) ?_
            refine r_icmp_eq X 112 dX8_isPlaced_95 (by decide) h (fun g41 h => ?_) (fun g41 h => ?_)
            · refine r_iconst X 0 dX8_isPlaced_112 (by decide) ?_
              refine r_iload_n X dX8_isPlaced_113 rfl 2 rfl ?_
              refine r_callS X lk_X8_147 (c_X8_suits (zl z) X.2.2.2.2.2.2.2.1 N (zD z) (zy z) (zA z) (zS z) v39 0 v3 σ40) ⟨Nat.le_trans (by decide) hR.1, Nat.le_trans (by decide) hR.2⟩ rfl rfl (Nat.le_of_ble_eq_true rfl) dX8_isPlaced_114 h (fun v42 σ43 h => ?_)
              refine r_if_eq X 124 dX8_isPlaced_117 (by decide) h (fun g44 h => ?_) (fun g44 h => ?_)
              · refine r_iconst X 0 dX8_isPlaced_124 (by decide) ?_
                exact r_zretC Rt dX8_isPlaced_125 (by decide) h
              · refine r_iconst X 1 dX8_isPlaced_120 (by decide) ?_
                refine r_goto X 125 dX8_isPlaced_121 (by decide) ?_
                exact r_zretC Rt dX8_isPlaced_125 (by decide) h
            · refine r_aload_n X dX8_isPlaced_98 rfl 4 rfl ?_
              refine r_iload_n X dX8_isPlaced_99 rfl 3 rfl ?_
              refine r_bipush X 7 dX8_isPlaced_100 (by decide) ?_
              refine r_callV X 35 8 (by decide) rfl rfl rfl lk_X8_129 (c_X8_is (zl z) X.2.2.2.2.2.2.2.1 N (zD z) (zy z) (zA z) (zS z) v1 7 σ40) ⟨Nat.le_trans (by decide) hR.1, Nat.le_trans (by decide) hR.2⟩ rfl rfl (Nat.le_of_ble_eq_true rfl) dX8_isPlaced_102 h (fun v45 σ46 h => ?_)
              refine r_if_eq X 112 dX8_isPlaced_105 (by decide) h (fun g47 h => ?_) (fun g47 h => ?_)
              · refine r_iconst X 0 dX8_isPlaced_112 (by decide) ?_
                refine r_iload_n X dX8_isPlaced_113 rfl 2 rfl ?_
                refine r_callS X lk_X8_147 (c_X8_suits (zl z) X.2.2.2.2.2.2.2.1 N (zD z) (zy z) (zA z) (zS z) v39 0 v3 σ46) ⟨Nat.le_trans (by decide) hR.1, Nat.le_trans (by decide) hR.2⟩ rfl rfl (Nat.le_of_ble_eq_true rfl) dX8_isPlaced_114 h (fun v48 σ49 h => ?_)
                refine r_if_eq X 124 dX8_isPlaced_117 (by decide) h (fun g50 h => ?_) (fun g50 h => ?_)
                · refine r_iconst X 0 dX8_isPlaced_124 (by decide) ?_
                  exact r_zretC Rt dX8_isPlaced_125 (by decide) h
                · refine r_iconst X 1 dX8_isPlaced_120 (by decide) ?_
                  refine r_goto X 125 dX8_isPlaced_121 (by decide) ?_
                  exact r_zretC Rt dX8_isPlaced_125 (by decide) h
              · refine r_iconst X 1 dX8_isPlaced_108 (by decide) ?_
                refine r_goto X 113 dX8_isPlaced_109 (by decide) ?_
                refine r_iload_n X dX8_isPlaced_113 rfl 2 rfl ?_
                refine r_callS X lk_X8_147 (c_X8_suits (zl z) X.2.2.2.2.2.2.2.1 N (zD z) (zy z) (zA z) (zS z) v39 1 v3 σ46) ⟨Nat.le_trans (by decide) hR.1, Nat.le_trans (by decide) hR.2⟩ rfl rfl (Nat.le_of_ble_eq_true rfl) dX8_isPlaced_114 h (fun v51 σ52 h => ?_)
                refine r_if_eq X 124 dX8_isPlaced_117 (by decide) h (fun g53 h => ?_) (fun g53 h => ?_)
                · refine r_iconst X 0 dX8_isPlaced_124 (by decide) ?_
                  exact r_zretC Rt dX8_isPlaced_125 (by decide) h
                · refine r_iconst X 1 dX8_isPlaced_120 (by decide) ?_
                  refine r_goto X 125 dX8_isPlaced_121 (by decide) ?_
                  exact r_zretC Rt dX8_isPlaced_125 (by decide) h
      · refine r_iconst X 1 dX8_isPlaced_67 (by decide) ?_
        refine r_goto X 72 dX8_isPlaced_68 (by decide) ?_
        refine r_iload_n X dX8_isPlaced_72 rfl 1 rfl ?_
        refine r_callS X lk_X8_147 (c_X8_suits (zl z) X.2.2.2.2.2.2.2.1 N (zD z) (zy z) (zA z) (zS z) v10 1 v3 σ33) ⟨Nat.le_trans (by decide) hR.1, Nat.le_trans (by decide) hR.2⟩ rfl rfl (Nat.le_of_ble_eq_true rfl) dX8_isPlaced_73 h (fun v54 σ55 h => ?_)
        refine r_istore X [(5, .int v54), (4, .int v8), (3, .int v3), (2, .int v1), (0, .ref (zA z 35)), (1, .int a1)] dX8_isPlaced_76 (by decide) rfl ?_
        refine r_iload X dX8_isPlaced_78 1 rfl ?_
        refine r_if_eq X 124 dX8_isPlaced_80 (by decide) h (fun g56 h => ?_) (fun g56 h => ?_)
        · refine r_iconst X 0 dX8_isPlaced_124 (by decide) ?_
          exact r_zretC Rt dX8_isPlaced_125 (by decide) h
        · refine r_iload X dX8_isPlaced_83 0 rfl ?_
          refine r_if_eq X 124 dX8_isPlaced_85 (by decide) h (fun g57 h => ?_) (fun g57 h => ?_)
          · refine r_iconst X 0 dX8_isPlaced_124 (by decide) ?_
            exact r_zretC Rt dX8_isPlaced_125 (by decide) h
          · refine r_aload_n X dX8_isPlaced_88 rfl 4 rfl ?_
            refine r_iload_n X dX8_isPlaced_89 rfl 5 rfl ?_
            refine r_callV X 35 8 (by decide) rfl rfl rfl lk_X8_151 (c_X8_isCell (zl z) X.2.2.2.2.2.2.2.1 N (zD z) (zy z) (zA z) (zS z) a1 σ55) ⟨Nat.le_trans (by decide) hR.1, Nat.le_trans (by decide) hR.2⟩ rfl rfl (Nat.le_of_ble_eq_true rfl) dX8_isPlaced_90 h (fun v58 σ59 h => ?_)
            refine r_iload_n X dX8_isPlaced_93 rfl 3 rfl ?_
            refine r_iconst X (-1) dX8_isPlaced_94 (by decide) ?_
            refine r_icmp_eq X 112 dX8_isPlaced_95 (by decide) h (fun g60 h => ?_) (fun g60 h => ?_)
            · refine r_iconst X 0 dX8_isPlaced_112 (by decide) ?_
              refine r_iload_n X dX8_isPlaced_113 rfl 2 rfl ?_
              refine r_callS X lk_X8_147 (c_X8_suits (zl z) X.2.2.2.2.2.2.2.1 N (zD z) (zy z) (zA z) (zS z) v58 0 v3 σ59) ⟨Nat.le_trans (by decide) hR.1, Nat.le_trans (by decide) hR.2⟩ rfl rfl (Nat.le_of_ble_eq_true rfl) dX8_isPlaced_114 h (fun v61 σ62 h => ?_)
              refine r_if_eq X 124 dX8_isPlaced_117 (by decide) h (fun g63 h => ?_) (fun g63 h => ?_)
              · refine r_iconst X 0 dX8_isPlaced_124 (by decide) ?_
                exact r_zretC Rt dX8_isPlaced_125 (by decide) h
              · refine r_iconst X 1 dX8_isPlaced_120 (by decide) ?_
                refine r_goto X 125 dX8_isPlaced_121 (by decide) ?_
                exact r_zretC Rt dX8_isPlaced_125 (by decide) h
            · refine r_aload_n X dX8_isPlaced_98 rfl 4 rfl ?_
              refine r_iload_n X dX8_isPlaced_99 rfl 3 rfl ?_
              refine r_bipush X 7 dX8_isPlaced_100 (by decide) ?_
              refine r_callV X 35 8 (by decide) rfl rfl rfl lk_X8_129 (c_X8_is (zl z) X.2.2.2.2.2.2.2.1 N (zD z) (zy z) (zA z) (zS z) v1 7 σ59) ⟨Nat.le_trans (by decide) hR.1, Nat.le_trans (by decide) hR.2⟩ rfl rfl (Nat.le_of_ble_eq_true rfl) dX8_isPlaced_102 h (fun v64 σ65 h => ?_)
              refine r_if_eq X 112 dX8_isPlaced_105 (by decide) h (fun g66 h => ?_) (fun g66 h => ?_)
              · refine r_iconst X 0 dX8_isPlaced_112 (by decide) ?_
                refine r_iload_n X dX8_isPlaced_113 rfl 2 rfl ?_
                refine r_callS X lk_X8_147 (c_X8_suits (zl z) X.2.2.2.2.2.2.2.1 N (zD z) (zy z) (zA z) (zS z) v58 0 v3 σ65) ⟨Nat.le_trans (by decide) hR.1, Nat.le_trans (by decide) hR.2⟩ rfl rfl (Nat.le_of_ble_eq_true rfl) dX8_isPlaced_114 h (fun v67 σ68 h => ?_)
                refine r_if_eq X 124 dX8_isPlaced_117 (by decide) h (fun g69 h => ?_) (fun g69 h => ?_)
                · refine r_iconst X 0 dX8_isPlaced_124 (by decide) ?_
                  exact r_zretC Rt dX8_isPlaced_125 (by decide) h
                · refine r_iconst X 1 dX8_isPlaced_120 (by decide) ?_
                  refine r_goto X 125 dX8_isPlaced_121 (by decide) ?_
                  exact r_zretC Rt dX8_isPlaced_125 (by decide) h
              · refine r_iconst X 1 dX8_isPlaced_108 (by decide) ?_
                refine r_goto X 113 dX8_isPlaced_109 (by decide) ?_
                refine r_iload_n X dX8_isPlaced_113 rfl 2 rfl ?_
                refine r_callS X lk_X8_147 (c_X8_suits (zl z) X.2.2.2.2.2.2.2.1 N (zD z) (zy z) (zA z) (zS z) v58 1 v3 σ65) ⟨Nat.le_trans (by decide) hR.1, Nat.le_trans (by decide) hR.2⟩ rfl rfl (Nat.le_of_ble_eq_true rfl) dX8_isPlaced_114 h (fun v70 σ71 h => ?_)
                refine r_if_eq X 124 dX8_isPlaced_117 (by decide) h (fun g72 h => ?_) (fun g72 h => ?_)
                · refine r_iconst X 0 dX8_isPlaced_124 (by decide) ?_
                  exact r_zretC Rt dX8_isPlaced_125 (by decide) h
                · refine r_iconst X 1 dX8_isPlaced_120 (by decide) ?_
                  refine r_goto X 125 dX8_isPlaced_121 (by decide) ?_
                  exact r_zretC Rt dX8_isPlaced_125 (by decide) h
  · refine r_aload_n X dX8_isPlaced_25 rfl 2 rfl ?_
    refine r_iload_n X dX8_isPlaced_26 rfl 1 rfl ?_
    refine r_iconst X 4 dX8_isPlaced_27 (by decide) ?_
    refine r_callV X 35 8 (by decide) rfl rfl rfl lk_X8_129 (c_X8_is (zl z) X.2.2.2.2.2.2.2.1 N (zD z) (zy z) (zA z) (zS z) v1 4 σ6) ⟨Nat.le_trans (by decide) hR.1, Nat.le_trans (by decide) hR.2⟩ rfl rfl (Nat.le_of_ble_eq_true rfl) dX8_isPlaced_28 h (fun v73 σ74 h => ?_)
    refine r_if_eq X 38 dX8_isPlaced_31 (by decide) h (fun g75 h => ?_) (fun g75 h => ?_)
    · refine r_iconst X 0 dX8_isPlaced_38 (by decide) ?_
      refine r_iload_n X dX8_isPlaced_39 rfl 0 rfl ?_
      refine r_callS X lk_X8_147 (c_X8_suits (zl z) X.2.2.2.2.2.2.2.1 N (zD z) (zy z) (zA z) (zS z) v5 0 v3 σ74) ⟨Nat.le_trans (by decide) hR.1, Nat.le_trans (by decide) hR.2⟩ rfl rfl (Nat.le_of_ble_eq_true rfl) dX8_isPlaced_40 h (fun v76 σ77 h => ?_)
      refine r_istore X [(4, .int v76), (3, .int v3), (2, .int v1), (0, .ref (zA z 35)), (1, .int a1)] dX8_isPlaced_43 (by decide) rfl ?_
      refine r_aload_n X dX8_isPlaced_45 rfl 3 rfl ?_
      refine r_iload_n X dX8_isPlaced_46 rfl 4 rfl ?_
      refine r_bipush X 7 dX8_isPlaced_47 (by decide) ?_
      refine r_callV X 35 8 (by decide) rfl rfl rfl lk_X8_129 (c_X8_is (zl z) X.2.2.2.2.2.2.2.1 N (zD z) (zy z) (zA z) (zS z) a1 7 σ77) ⟨Nat.le_trans (by decide) hR.1, Nat.le_trans (by decide) hR.2⟩ rfl rfl (Nat.le_of_ble_eq_true rfl) dX8_isPlaced_49 h (fun v78 σ79 h => ?_)
      refine r_iload_n X dX8_isPlaced_52 rfl 2 rfl ?_
      refine r_iconst X (-1) dX8_isPlaced_53 (by decide) ?_
      refine r_icmp_eq X 71 dX8_isPlaced_54 (by decide) h (fun g80 h => ?_) (fun g80 h => ?_)
      · refine r_iconst X 0 dX8_isPlaced_71 (by decide) ?_
        refine r_iload_n X dX8_isPlaced_72 rfl 1 rfl ?_
        refine r_callS X lk_X8_147 (c_X8_suits (zl z) X.2.2.2.2.2.2.2.1 N (zD z) (zy z) (zA z) (zS z) v78 0 v3 σ79) ⟨Nat.le_trans (by decide) hR.1, Nat.le_trans (by decide) hR.2⟩ rfl rfl (Nat.le_of_ble_eq_true rfl) dX8_isPlaced_73 h (fun v81 σ82 h => ?_)
        refine r_istore X [(5, .int v81), (4, .int v76), (3, .int v3), (2, .int v1), (0, .ref (zA z 35)), (1, .int a1)] dX8_isPlaced_76 (by decide) rfl ?_
        refine r_iload X dX8_isPlaced_78 1 rfl ?_
        refine r_if_eq X 124 dX8_isPlaced_80 (by decide) h (fun g83 h => ?_) (fun g83 h => ?_)
        · refine r_iconst X 0 dX8_isPlaced_124 (by decide) ?_
          exact r_zretC Rt dX8_isPlaced_125 (by decide) h
        · refine r_iload X dX8_isPlaced_83 0 rfl ?_
          refine r_if_eq X 124 dX8_isPlaced_85 (by decide) h (fun g84 h => ?_) (fun g84 h => ?_)
          · refine r_iconst X 0 dX8_isPlaced_124 (by decide) ?_
            exact r_zretC Rt dX8_isPlaced_125 (by decide) h
          · refine r_aload_n X dX8_isPlaced_88 rfl 4 rfl ?_
            refine r_iload_n X dX8_isPlaced_89 rfl 5 rfl ?_
            refine r_callV X 35 8 (by decide) rfl rfl rfl lk_X8_151 (c_X8_isCell (zl z) X.2.2.2.2.2.2.2.1 N (zD z) (zy z) (zA z) (zS z) a1 σ82) ⟨Nat.le_trans (by decide) hR.1, Nat.le_trans (by decide) hR.2⟩ rfl rfl (Nat.le_of_ble_eq_true rfl) dX8_isPlaced_90 h (fun v85 σ86 h => ?_)
            refine r_iload_n X dX8_isPlaced_93 rfl 3 rfl ?_
            refine r_iconst X (-1) dX8_isPlaced_94 (by decide) ?_
            refine r_icmp_eq X 112 dX8_isPlaced_95 (by decide) h (fun g87 h => ?_) (fun g87 h => ?_)
            · refine r_iconst X 0 dX8_isPlaced_112 (by decide) ?_
              refine r_iload_n X dX8_isPlaced_113 rfl 2 rfl ?_
              refine r_callS X lk_X8_147 (c_X8_suits (zl z) X.2.2.2.2.2.2.2.1 N (zD z) (zy z) (zA z) (zS z) v85 0 v3 σ86) ⟨Nat.le_trans (by decide) hR.1, Nat.le_trans (by decide) hR.2⟩ rfl rfl (Nat.le_of_ble_eq_true rfl) dX8_isPlaced_114 h (fun v88 σ89 h => ?_)
              refine r_if_eq X 124 dX8_isPlaced_117 (by decide) h (fun g90 h => ?_) (fun g90 h => ?_)
              · refine r_iconst X 0 dX8_isPlaced_124 (by decide) ?_
                exact r_zretC Rt dX8_isPlaced_125 (by decide) h
              · refine r_iconst X 1 dX8_isPlaced_120 (by decide) ?_
                refine r_goto X 125 dX8_isPlaced_121 (by decide) ?_
                exact r_zretC Rt dX8_isPlaced_125 (by decide) h
            · refine r_aload_n X dX8_isPlaced_98 rfl 4 rfl ?_
              refine r_iload_n X dX8_isPlaced_99 rfl 3 rfl ?_
              refine r_bipush X 7 dX8_isPlaced_100 (by decide) ?_
              refine r_callV X 35 8 (by decide) rfl rfl rfl lk_X8_129 (c_X8_is (zl z) X.2.2.2.2.2.2.2.1 N (zD z) (zy z) (zA z) (zS z) v1 7 σ86) ⟨Nat.le_trans (by decide) hR.1, Nat.le_trans (by decide) hR.2⟩ rfl rfl (Nat.le_of_ble_eq_true rfl) dX8_isPlaced_102 h (fun v91 σ92 h => ?_)
              refine r_if_eq X 112 dX8_isPlaced_105 (by decide) h (fun g93 h => ?_) (fun g93 h => ?_)
              · refine r_iconst X 0 dX8_isPlaced_112 (by decide) ?_
                refine r_iload_n X dX8_isPlaced_113 rfl 2 rfl ?_
                refine r_callS X lk_X8_147 (c_X8_suits (zl z) X.2.2.2.2.2.2.2.1 N (zD z) (zy z) (zA z) (zS z) v85 0 v3 σ92) ⟨Nat.le_trans (by decide) hR.1, Nat.le_trans (by decide) hR.2⟩ rfl rfl (Nat.le_of_ble_eq_true rfl) dX8_isPlaced_114 h (fun v94 σ95 h => ?_)
                refine r_if_eq X 124 dX8_isPlaced_117 (by decide) h (fun g96 h => ?_) (fun g96 h => ?_)
                · refine r_iconst X 0 dX8_isPlaced_124 (by decide) ?_
                  exact r_zretC Rt dX8_isPlaced_125 (by decide) h
                · refine r_iconst X 1 dX8_isPlaced_120 (by decide) ?_
                  refine r_goto X 125 dX8_isPlaced_121 (by decide) ?_
                  exact r_zretC Rt dX8_isPlaced_125 (by decide) h
              · refine r_iconst X 1 dX8_isPlaced_108 (by decide) ?_
                refine r_goto X 113 dX8_isPlaced_109 (by decide) ?_
                refine r_iload_n X dX8_isPlaced_113 rfl 2 rfl ?_
                refine r_callS X lk_X8_147 (c_X8_suits (zl z) X.2.2.2.2.2.2.2.1 N (zD z) (zy z) (zA z) (zS z) v85 1 v3 σ92) ⟨Nat.le_trans (by decide) hR.1, Nat.le_trans (by decide) hR.2⟩ rfl rfl (Nat.le_of_ble_eq_true rfl) dX8_isPlaced_114 h (fun v97 σ98 h => ?_)
                refine r_if_eq X 124 dX8_isPlaced_117 (by decide) h (fun g99 h => ?_) (fun g99 h => ?_)
                · refine r_iconst X 0 dX8_isPlaced_124 (by decide) ?_
                  exact r_zretC Rt dX8_isPlaced_125 (by decide) h
                · refine r_iconst X 1 dX8_isPlaced_120 (by decide) ?_
                  refine r_goto X 125 dX8_isPlaced_121 (by decide) ?_
                  exact r_zretC Rt dX8_isPlaced_125 (by decide) h
      · refine r_aload_n X dX8_isPlaced_57 rfl 3 rfl ?_
        refine r_iload_n X dX8_isPlaced_58 rfl 2 rfl ?_
        refine r_bipush X 6 dX8_isPlaced_59 (by decide) ?_
        refine r_callV X 35 8 (by decide) rfl rfl rfl lk_X8_129 (c_X8_is (zl z) X.2.2.2.2.2.2.2.1 N (zD z) (zy z) (zA z) (zS z) v1 6 σ79) ⟨Nat.le_trans (by decide) hR.1, Nat.le_trans (by decide) hR.2⟩ rfl rfl (Nat.le_of_ble_eq_true rfl) dX8_isPlaced_61 h (fun v100 σ101 h => ?_)
        refine r_if_eq X 71 dX8_isPlaced_64 (by decide) h (fun g102 h => ?_) (fun g102 h => ?_)
        · refine r_iconst X 0 dX8_isPlaced_71 (by decide) ?_
          refine r_iload_n X dX8_isPlaced_72 rfl 1 rfl ?_
          refine r_callS X lk_X8_147 (c_X8_suits (zl z) X.2.2.2.2.2.2.2.1 N (zD z) (zy z) (zA z) (zS z) v78 0 v3 σ101) ⟨Nat.le_trans (by decide) hR.1, Nat.le_trans (by decide) hR.2⟩ rfl rfl (Nat.le_of_ble_eq_true rfl) dX8_isPlaced_73 h (fun v103 σ104 h => ?_)
          refine r_istore X [(5, .int v103), (4, .int v76), (3, .int v3), (2, .int v1), (0, .ref (zA z 35)), (1, .int a1)] dX8_isPlaced_76 (by decide) rfl ?_
          refine r_iload X dX8_isPlaced_78 1 rfl ?_
          refine r_if_eq X 124 dX8_isPlaced_80 (by decide) h (fun g105 h => ?_) (fun g105 h => ?_)
          · refine r_iconst X 0 dX8_isPlaced_124 (by decide) ?_
            exact r_zretC Rt dX8_isPlaced_125 (by decide) h
          · refine r_iload X dX8_isPlaced_83 0 rfl ?_
            refine r_if_eq X 124 dX8_isPlaced_85 (by decide) h (fun g106 h => ?_) (fun g106 h => ?_)
            · refine r_iconst X 0 dX8_isPlaced_124 (by decide) ?_
              exact r_zretC Rt dX8_isPlaced_125 (by decide) h
            · refine r_aload_n X dX8_isPlaced_88 rfl 4 rfl ?_
              refine r_iload_n X dX8_isPlaced_89 rfl 5 rfl ?_
              refine r_callV X 35 8 (by decide) rfl rfl rfl lk_X8_151 (c_X8_isCell (zl z) X.2.2.2.2.2.2.2.1 N (zD z) (zy z) (zA z) (zS z) a1 σ104) ⟨Nat.le_trans (by decide) hR.1, Nat.le_trans (by decide) hR.2⟩ rfl rfl (Nat.le_of_ble_eq_true rfl) dX8_isPlaced_90 h (fun v107 σ108 h => ?_)
              refine r_iload_n X dX8_isPlaced_93 rfl 3 rfl ?_
              refine r_iconst X (-1) dX8_isPlaced_94 (by decide) ?_
              refine r_icmp_eq X 112 dX8_isPlaced_95 (by decide) h (fun g109 h => ?_) (fun g109 h => ?_)
              · refine r_iconst X 0 dX8_isPlaced_112 (by decide) ?_
                refine r_iload_n X dX8_isPlaced_113 rfl 2 rfl ?_
                refine r_callS X lk_X8_147 (c_X8_suits (zl z) X.2.2.2.2.2.2.2.1 N (zD z) (zy z) (zA z) (zS z) v107 0 v3 σ108) ⟨Nat.le_trans (by decide) hR.1, Nat.le_trans (by decide) hR.2⟩ rfl rfl (Nat.le_of_ble_eq_true rfl) dX8_isPlaced_114 h (fun v110 σ111 h => ?_)
                refine r_if_eq X 124 dX8_isPlaced_117 (by decide) h (fun g112 h => ?_) (fun g112 h => ?_)
                · refine r_iconst X 0 dX8_isPlaced_124 (by decide) ?_
                  exact r_zretC Rt dX8_isPlaced_125 (by decide) h
                · refine r_iconst X 1 dX8_isPlaced_120 (by decide) ?_
                  refine r_goto X 125 dX8_isPlaced_121 (by decide) ?_
                  exact r_zretC Rt dX8_isPlaced_125 (by decide) h
              · refine r_aload_n X dX8_isPlaced_98 rfl 4 rfl ?_
                refine r_iload_n X dX8_isPlaced_99 rfl 3 rfl ?_
                refine r_bipush X 7 dX8_isPlaced_100 (by decide) ?_
                refine r_callV X 35 8 (by decide) rfl rfl rfl lk_X8_129 (c_X8_is (zl z) X.2.2.2.2.2.2.2.1 N (zD z) (zy z) (zA z) (zS z) v1 7 σ108) ⟨Nat.le_trans (by decide) hR.1, Nat.le_trans (by decide) hR.2⟩ rfl rfl (Nat.le_of_ble_eq_true rfl) dX8_isPlaced_102 h (fun v113 σ114 h => ?_)
                refine r_if_eq X 112 dX8_isPlaced_105 (by decide) h (fun g115 h => ?_) (fun g115 h => ?_)
                · refine r_iconst X 0 dX8_isPlaced_112 (by decide) ?_
                  refine r_iload_n X dX8_isPlaced_113 rfl 2 rfl ?_
                  refine r_callS X lk_X8_147 (c_X8_suits (zl z) X.2.2.2.2.2.2.2.1 N (zD z) (zy z) (zA z) (zS z) v107 0 v3 σ114) ⟨Nat.le_trans (by decide) hR.1, Nat.le_trans (by decide) hR.2⟩ rfl rfl (Nat.le_of_ble_eq_true rfl) dX8_isPlaced_114 h (fun v116 σ117 h => ?_)
                  refine r_if_eq X 124 dX8_isPlaced_117 (by decide) h (fun g118 h => ?_) (fun g118 h => ?_)
                  · refine r_iconst X 0 dX8_isPlaced_124 (by decide) ?_
                    exact r_zretC Rt dX8_isPlaced_125 (by decide) h
                  · refine r_iconst X 1 dX8_isPlaced_120 (by decide) ?_
                    refine r_goto X 125 dX8_isPlaced_121 (by decide) ?_
                    exact r_zretC Rt dX8_isPlaced_125 (by decide) h
                · refine r_iconst X 1 dX8_isPlaced_108 (by decide) ?_
                  refine r_goto X 113 dX8_isPlaced_109 (by decide) ?_
                  refine r_iload_n X dX8_isPlaced_113 rfl 2 rfl ?_
                  refine r_callS X lk_X8_147 (c_X8_suits (zl z) X.2.2.2.2.2.2.2.1 N (zD z) (zy z) (zA z) (zS z) v107 1 v3 σ114) ⟨Nat.le_trans (by decide) hR.1, Nat.le_trans (by decide) hR.2⟩ rfl rfl (Nat.le_of_ble_eq_true rfl) dX8_isPlaced_114 h (fun v119 σ120 h => ?_)
                  refine r_if_eq X 124 dX8_isPlaced_117 (by decide) h (fun g121 h => ?_) (fun g121 h => ?_)
                  · refine r_iconst X 0 dX8_isPlaced_124 (by decide) ?_
                    exact r_zretC Rt dX8_isPlaced_125 (by decide) h
                  · refine r_iconst X 1 dX8_isPlaced_120 (by decide) ?_
                    refine r_goto X 125 dX8_isPlaced_121 (by decide) ?_
                    exact r_zretC Rt dX8_isPlaced_125 (by decide) h
        · refine r_iconst X 1 dX8_isPlaced_67 (by decide) ?_
          refine r_goto X 72 dX8_isPlaced_68 (by decide) ?_
          refine r_iload_n X dX8_isPlaced_72 rfl 1 rfl ?_
          refine r_callS X lk_X8_147 (c_X8_suits (zl z) X.2.2.2.2.2.2.2.1 N (zD z) (zy z) (zA z) (zS z) v78 1 v3 σ101) ⟨Nat.le_trans (by decide) hR.1, Nat.le_trans (by decide) hR.2⟩ rfl rfl (Nat.le_of_ble_eq_true rfl) dX8_isPlaced_73 h (fun v122 σ123 h => ?_)
          refine r_istore X [(5, .int v122), (4, .int v76), (3, .int v3), (2, .int v1), (0, .ref (zA z 35)), (1, .int a1)] dX8_isPlaced_76 (by decide) rfl ?_
          refine r_iload X dX8_isPlaced_78 1 rfl ?_
          refine r_if_eq X 124 dX8_isPlaced_80 (by decide) h (fun g124 h => ?_) (fun g124 h => ?_)
          · refine r_iconst X 0 dX8_isPlaced_124 (by decide) ?_
            exact r_zretC Rt dX8_isPlaced_125 (by decide) h
          · refine r_iload X dX8_isPlaced_83 0 rfl ?_
            refine r_if_eq X 124 dX8_isPlaced_85 (by decide) h (fun g125 h => ?_) (fun g125 h => ?_)
            · refine r_iconst X 0 dX8_isPlaced_124 (by decide) ?_
              exact r_zretC Rt dX8_isPlaced_125 (by decide) h
            · refine r_aload_n X dX8_isPlaced_88 rfl 4 rfl ?_
              refine r_iload_n X dX8_isPlaced_89 rfl 5 rfl ?_
              refine r_callV X 35 8 (by decide) rfl rfl rfl lk_X8_151 (c_X8_isCell (zl z) X.2.2.2.2.2.2.2.1 N (zD z) (zy z) (zA z) (zS z) a1 σ123) ⟨Nat.le_trans (by decide) hR.1, Nat.le_trans (by decide) hR.2⟩ rfl rfl (Nat.le_of_ble_eq_true rfl) dX8_isPlaced_90 h (fun v126 σ127 h => ?_)
              refine r_iload_n X dX8_isPlaced_93 rfl 3 rfl ?_
              refine r_iconst X (-1) dX8_isPlaced_94 (by decide) ?_
              refine r_icmp_eq X 112 dX8_isPlaced_95 (by decide) h (fun g128 h => ?_) (fun g128 h => ?_)
              · refine r_iconst X 0 dX8_isPlaced_112 (by decide) ?_
                refine r_iload_n X dX8_isPlaced_113 rfl 2 rfl ?_
                refine r_callS X lk_X8_147 (c_X8_suits (zl z) X.2.2.2.2.2.2.2.1 N (zD z) (zy z) (zA z) (zS z) v126 0 v3 σ127) ⟨Nat.le_trans (by decide) hR.1, Nat.le_trans (by decide) hR.2⟩ rfl rfl (Nat.le_of_ble_eq_true rfl) dX8_isPlaced_114 h (fun v129 σ130 h => ?_)
                refine r_if_eq X 124 dX8_isPlaced_117 (by decide) h (fun g131 h => ?_) (fun g131 h => ?_)
                · refine r_iconst X 0 dX8_isPlaced_124 (by decide) ?_
                  exact r_zretC Rt dX8_isPlaced_125 (by decide) h
                · refine r_iconst X 1 dX8_isPlaced_120 (by decide) ?_
                  refine r_goto X 125 dX8_isPlaced_121 (by decide) ?_
                  exact r_zretC Rt dX8_isPlaced_125 (by decide) h
              · refine r_aload_n X dX8_isPlaced_98 rfl 4 rfl ?_
                refine r_iload_n X dX8_isPlaced_99 rfl 3 rfl ?_
                refine r_bipush X 7 dX8_isPlaced_100 (by decide) ?_
                refine r_callV X 35 8 (by decide) rfl rfl rfl lk_X8_129 (c_X8_is (zl z) X.2.2.2.2.2.2.2.1 N (zD z) (zy z) (zA z) (zS z) v1 7 σ127) ⟨Nat.le_trans (by decide) hR.1, Nat.le_trans (by decide) hR.2⟩ rfl rfl (Nat.le_of_ble_eq_true rfl) dX8_isPlaced_102 h (fun v132 σ133 h => ?_)
                refine r_if_eq X 112 dX8_isPlaced_105 (by decide) h (fun g134 h => ?_) (fun g134 h => ?_)
                · refine r_iconst X 0 dX8_isPlaced_112 (by decide) ?_
                  refine r_iload_n X dX8_isPlaced_113 rfl 2 rfl ?_
                  refine r_callS X lk_X8_147 (c_X8_suits (zl z) X.2.2.2.2.2.2.2.1 N (zD z) (zy z) (zA z) (zS z) v126 0 v3 σ133) ⟨Nat.le_trans (by decide) hR.1, Nat.le_trans (by decide) hR.2⟩ rfl rfl (Nat.le_of_ble_eq_true rfl) dX8_isPlaced_114 h (fun v135 σ136 h => ?_)
                  refine r_if_eq X 124 dX8_isPlaced_117 (by decide) h (fun g137 h => ?_) (fun g137 h => ?_)
                  · refine r_iconst X 0 dX8_isPlaced_124 (by decide) ?_
                    exact r_zretC Rt dX8_isPlaced_125 (by decide) h
                  · refine r_iconst X 1 dX8_isPlaced_120 (by decide) ?_
                    refine r_goto X 125 dX8_isPlaced_121 (by decide) ?_
                    exact r_zretC Rt dX8_isPlaced_125 (by decide) h
                · refine r_iconst X 1 dX8_isPlaced_108 (by decide) ?_
                  refine r_goto X 113 dX8_isPlaced_109 (by decide) ?_
                  refine r_iload_n X dX8_isPlaced_113 rfl 2 rfl ?_
                  refine r_callS X lk_X8_147 (c_X8_suits (zl z) X.2.2.2.2.2.2.2.1 N (zD z) (zy z) (zA z) (zS z) v126 1 v3 σ133) ⟨Nat.le_trans (by decide) hR.1, Nat.le_trans (by decide) hR.2⟩ rfl rfl (Nat.le_of_ble_eq_true rfl) dX8_isPlaced_114 h (fun v138 σ139 h => ?_)
                  refine r_if_eq X 124 dX8_isPlaced_117 (by decide) h (fun g140 h => ?_) (fun g140 h => ?_)
                  · refine r_iconst X 0 dX8_isPlaced_124 (by decide) ?_
                    exact r_zretC Rt dX8_isPlaced_125 (by decide) h
                  · refine r_iconst X 1 dX8_isPlaced_120 (by decide) ?_
                    refine r_goto X 125 dX8_isPlaced_121 (by decide) ?_
                    exact r_zretC Rt dX8_isPlaced_125 (by decide) h
    · refine r_iconst X 1 dX8_isPlaced_34 (by decide) ?_
      refine r_goto X 39 dX8_isPlaced_35 (by decide) ?_
      refine r_iload_n X dX8_isPlaced_39 rfl 0 rfl ?_
      refine r_callS X lk_X8_147 (c_X8_suits (zl z) X.2.2.2.2.2.2.2.1 N (zD z) (zy z) (zA z) (zS z) v5 1 v3 σ74) ⟨Nat.le_trans (by decide) hR.1, Nat.le_trans (by decide) hR.2⟩ rfl rfl (Nat.le_of_ble_eq_true rfl) dX8_isPlaced_40 h (fun v141 σ142 h => ?_)
      refine r_istore X [(4, .int v141), (3, .int v3), (2, .int v1), (0, .ref (zA z 35)), (1, .int a1)] dX8_isPlaced_43 (by decide) rfl ?_
      refine r_aload_n X dX8_isPlaced_45 rfl 3 rfl ?_
      refine r_iload_n X dX8_isPlaced_46 rfl 4 rfl ?_
      refine r_bipush X 7 dX8_isPlaced_47 (by decide) ?_
      refine r_callV X 35 8 (by decide) rfl rfl rfl lk_X8_129 (c_X8_is (zl z) X.2.2.2.2.2.2.2.1 N (zD z) (zy z) (zA z) (zS z) a1 7 σ142) ⟨Nat.le_trans (by decide) hR.1, Nat.le_trans (by decide) hR.2⟩ rfl rfl (Nat.le_of_ble_eq_true rfl) dX8_isPlaced_49 h (fun v143 σ144 h => ?_)
      refine r_iload_n X dX8_isPlaced_52 rfl 2 rfl ?_
      refine r_iconst X (-1) dX8_isPlaced_53 (by decide) ?_
      refine r_icmp_eq X 71 dX8_isPlaced_54 (by decide) h (fun g145 h => ?_) (fun g145 h => ?_)
      · refine r_iconst X 0 dX8_isPlaced_71 (by decide) ?_
        refine r_iload_n X dX8_isPlaced_72 rfl 1 rfl ?_
        refine r_callS X lk_X8_147 (c_X8_suits (zl z) X.2.2.2.2.2.2.2.1 N (zD z) (zy z) (zA z) (zS z) v143 0 v3 σ144) ⟨Nat.le_trans (by decide) hR.1, Nat.le_trans (by decide) hR.2⟩ rfl rfl (Nat.le_of_ble_eq_true rfl) dX8_isPlaced_73 h (fun v146 σ147 h => ?_)
        refine r_istore X [(5, .int v146), (4, .int v141), (3, .int v3), (2, .int v1), (0, .ref (zA z 35)), (1, .int a1)] dX8_isPlaced_76 (by decide) rfl ?_
        refine r_iload X dX8_isPlaced_78 1 rfl ?_
        refine r_if_eq X 124 dX8_isPlaced_80 (by decide) h (fun g148 h => ?_) (fun g148 h => ?_)
        · refine r_iconst X 0 dX8_isPlaced_124 (by decide) ?_
          exact r_zretC Rt dX8_isPlaced_125 (by decide) h
        · refine r_iload X dX8_isPlaced_83 0 rfl ?_
          refine r_if_eq X 124 dX8_isPlaced_85 (by decide) h (fun g149 h => ?_) (fun g149 h => ?_)
          · refine r_iconst X 0 dX8_isPlaced_124 (by decide) ?_
            exact r_zretC Rt dX8_isPlaced_125 (by decide) h
          · refine r_aload_n X dX8_isPlaced_88 rfl 4 rfl ?_
            refine r_iload_n X dX8_isPlaced_89 rfl 5 rfl ?_
            refine r_callV X 35 8 (by decide) rfl rfl rfl lk_X8_151 (c_X8_isCell (zl z) X.2.2.2.2.2.2.2.1 N (zD z) (zy z) (zA z) (zS z) a1 σ147) ⟨Nat.le_trans (by decide) hR.1, Nat.le_trans (by decide) hR.2⟩ rfl rfl (Nat.le_of_ble_eq_true rfl) dX8_isPlaced_90 h (fun v150 σ151 h => ?_)
            refine r_iload_n X dX8_isPlaced_93 rfl 3 rfl ?_
            refine r_iconst X (-1) dX8_isPlaced_94 (by decide) ?_
            refine r_icmp_eq X 112 dX8_isPlaced_95 (by decide) h (fun g152 h => ?_) (fun g152 h => ?_)
            · refine r_iconst X 0 dX8_isPlaced_112 (by decide) ?_
              refine r_iload_n X dX8_isPlaced_113 rfl 2 rfl ?_
              refine r_callS X lk_X8_147 (c_X8_suits (zl z) X.2.2.2.2.2.2.2.1 N (zD z) (zy z) (zA z) (zS z) v150 0 v3 σ151) ⟨Nat.le_trans (by decide) hR.1, Nat.le_trans (by decide) hR.2⟩ rfl rfl (Nat.le_of_ble_eq_true rfl) dX8_isPlaced_114 h (fun v153 σ154 h => ?_)
              refine r_if_eq X 124 dX8_isPlaced_117 (by decide) h (fun g155 h => ?_) (fun g155 h => ?_)
              · refine r_iconst X 0 dX8_isPlaced_124 (by decide) ?_
                exact r_zretC Rt dX8_isPlaced_125 (by decide) h
              · refine r_iconst X 1 dX8_isPlaced_120 (by decide) ?_
                refine r_goto X 125 dX8_isPlaced_121 (by decide) ?_
                exact r_zretC Rt dX8_isPlaced_125 (by decide) h
            · refine r_aload_n X dX8_isPlaced_98 rfl 4 rfl ?_
              refine r_iload_n X dX8_isPlaced_99 rfl 3 rfl ?_
              refine r_bipush X 7 dX8_isPlaced_100 (by decide) ?_
              refine r_callV X 35 8 (by decide) rfl rfl rfl lk_X8_129 (c_X8_is (zl z) X.2.2.2.2.2.2.2.1 N (zD z) (zy z) (zA z) (zS z) v1 7 σ151) ⟨Nat.le_trans (by decide) hR.1, Nat.le_trans (by decide) hR.2⟩ rfl rfl (Nat.le_of_ble_eq_true rfl) dX8_isPlaced_102 h (fun v156 σ157 h => ?_)
              refine r_if_eq X 112 dX8_isPlaced_105 (by decide) h (fun g158 h => ?_) (fun g158 h => ?_)
              · refine r_iconst X 0 dX8_isPlaced_112 (by decide) ?_
                refine r_iload_n X dX8_isPlaced_113 rfl 2 rfl ?_
                refine r_callS X lk_X8_147 (c_X8_suits (zl z) X.2.2.2.2.2.2.2.1 N (zD z) (zy z) (zA z) (zS z) v150 0 v3 σ157) ⟨Nat.le_trans (by decide) hR.1, Nat.le_trans (by decide) hR.2⟩ rfl rfl (Nat.le_of_ble_eq_true rfl) dX8_isPlaced_114 h (fun v159 σ160 h => ?_)
                refine r_if_eq X 124 dX8_isPlaced_117 (by decide) h (fun g161 h => ?_) (fun g161 h => ?_)
                · refine r_iconst X 0 dX8_isPlaced_124 (by decide) ?_
                  exact r_zretC Rt dX8_isPlaced_125 (by decide) h
                · refine r_iconst X 1 dX8_isPlaced_120 (by decide) ?_
                  refine r_goto X 125 dX8_isPlaced_121 (by decide) ?_
                  exact r_zretC Rt dX8_isPlaced_125 (by decide) h
              · refine r_iconst X 1 dX8_isPlaced_108 (by decide) ?_
                refine r_goto X 113 dX8_isPlaced_109 (by decide) ?_
                refine r_iload_n X dX8_isPlaced_113 rfl 2 rfl ?_
                refine r_callS X lk_X8_147 (c_X8_suits (zl z) X.2.2.2.2.2.2.2.1 N (zD z) (zy z) (zA z) (zS z) v150 1 v3 σ157) ⟨Nat.le_trans (by decide) hR.1, Nat.le_trans (by decide) hR.2⟩ rfl rfl (Nat.le_of_ble_eq_true rfl) dX8_isPlaced_114 h (fun v162 σ163 h => ?_)
                refine r_if_eq X 124 dX8_isPlaced_117 (by decide) h (fun g164 h => ?_) (fun g164 h => ?_)
                · refine r_iconst X 0 dX8_isPlaced_124 (by decide) ?_
                  exact r_zretC Rt dX8_isPlaced_125 (by decide) h
                · refine r_iconst X 1 dX8_isPlaced_120 (by decide) ?_
                  refine r_goto X 125 dX8_isPlaced_121 (by decide) ?_
                  exact r_zretC Rt dX8_isPlaced_125 (by decide) h
      · refine r_aload_n X dX8_isPlaced_57 rfl 3 rfl ?_
        refine r_iload_n X dX8_isPlaced_58 rfl 2 rfl ?_
        refine r_bipush X 6 dX8_isPlaced_59 (by decide) ?_
        refine r_callV X 35 8 (by decide) rfl rfl rfl lk_X8_129 (c_X8_is (zl z) X.2.2.2.2.2.2.2.1 N (zD z) (zy z) (zA z) (zS z) v1 6 σ144) ⟨Nat.le_trans (by decide) hR.1, Nat.le_trans (by decide) hR.2⟩ rfl rfl (Nat.le_of_ble_eq_true rfl) dX8_isPlaced_61 h (fun v165 σ166 h => ?_)
        refine r_if_eq X 71 dX8_isPlaced_64 (by decide) h (fun g167 h => ?_) (fun g167 h => ?_)
        · refine r_iconst X 0 dX8_isPlaced_71 (by decide) ?_
          refine r_iload_n X dX8_isPlaced_72 rfl 1 rfl ?_
          refine r_callS X lk_X8_147 (c_X8_suits (zl z) X.2.2.2.2.2.2.2.1 N (zD z) (zy z) (zA z) (zS z) v143 0 v3 σ166) ⟨Nat.le_trans (by decide) hR.1, Nat.le_trans (by decide) hR.2⟩ rfl rfl (Nat.le_of_ble_eq_true rfl) dX8_isPlaced_73 h (fun v168 σ169 h => ?_)
          refine r_istore X [(5, .int v168), (4, .int v141), (3, .int v3), (2, .int v1), (0, .ref (zA z 35)), (1, .int a1)] dX8_isPlaced_76 (by decide) rfl ?_
          refine r_iload X dX8_isPlaced_78 1 rfl ?_
          refine r_if_eq X 124 dX8_isPlaced_80 (by decide) h (fun g170 h => ?_) (fun g170 h => ?_)
          · refine r_iconst X 0 dX8_isPlaced_124 (by decide) ?_
            exact r_zretC Rt dX8_isPlaced_125 (by decide) h
          · refine r_iload X dX8_isPlaced_83 0 rfl ?_
            refine r_if_eq X 124 dX8_isPlaced_85 (by decide) h (fun g171 h => ?_) (fun g171 h => ?_)
            · refine r_iconst X 0 dX8_isPlaced_124 (by decide) ?_
              exact r_zretC Rt dX8_isPlaced_125 (by decide) h
            · refine r_aload_n X dX8_isPlaced_88 rfl 4 rfl ?_
              refine r_iload_n X dX8_isPlaced_89 rfl 5 rfl ?_
              refine r_callV X 35 8 (by decide) rfl rfl rfl lk_X8_151 (c_X8_isCell (zl z) X.2.2.2.2.2.2.2.1 N (zD z) (zy z) (zA z) (zS z) a1 σ169) ⟨Nat.le_trans (by decide) hR.1, Nat.le_trans (by decide) hR.2⟩ rfl rfl (Nat.le_of_ble_eq_true rfl) dX8_isPlaced_90 h (fun v172 σ173 h => ?_)
              refine r_iload_n X dX8_isPlaced_93 rfl 3 rfl ?_
              refine r_iconst X (-1) dX8_isPlaced_94 (by decide) ?_
              refine r_icmp_eq X 112 dX8_isPlaced_95 (by decide) h (fun g174 h => ?_) (fun g174 h => ?_)
              · refine r_iconst X 0 dX8_isPlaced_112 (by decide) ?_
                refine r_iload_n X dX8_isPlaced_113 rfl 2 rfl ?_
                refine r_callS X lk_X8_147 (c_X8_suits (zl z) X.2.2.2.2.2.2.2.1 N (zD z) (zy z) (zA z) (zS z) v172 0 v3 σ173) ⟨Nat.le_trans (by decide) hR.1, Nat.le_trans (by decide) hR.2⟩ rfl rfl (Nat.le_of_ble_eq_true rfl) dX8_isPlaced_114 h (fun v175 σ176 h => ?_)
                refine r_if_eq X 124 dX8_isPlaced_117 (by decide) h (fun g177 h => ?_) (fun g177 h => ?_)
                · refine r_iconst X 0 dX8_isPlaced_124 (by decide) ?_
                  exact r_zretC Rt dX8_isPlaced_125 (by decide) h
                · refine r_iconst X 1 dX8_isPlaced_120 (by decide) ?_
                  refine r_goto X 125 dX8_isPlaced_121 (by decide) ?_
                  exact r_zretC Rt dX8_isPlaced_125 (by decide) h
              · refine r_aload_n X dX8_isPlaced_98 rfl 4 rfl ?_
                refine r_iload_n X dX8_isPlaced_99 rfl 3 rfl ?_
                refine r_bipush X 7 dX8_isPlaced_100 (by decide) ?_
                refine r_callV X 35 8 (by decide) rfl rfl rfl lk_X8_129 (c_X8_is (zl z) X.2.2.2.2.2.2.2.1 N (zD z) (zy z) (zA z) (zS z) v1 7 σ173) ⟨Nat.le_trans (by decide) hR.1, Nat.le_trans (by decide) hR.2⟩ rfl rfl (Nat.le_of_ble_eq_true rfl) dX8_isPlaced_102 h (fun v178 σ179 h => ?_)
                refine r_if_eq X 112 dX8_isPlaced_105 (by decide) h (fun g180 h => ?_) (fun g180 h => ?_)
                · refine r_iconst X 0 dX8_isPlaced_112 (by decide) ?_
                  refine r_iload_n X dX8_isPlaced_113 rfl 2 rfl ?_
                  refine r_callS X lk_X8_147 (c_X8_suits (zl z) X.2.2.2.2.2.2.2.1 N (zD z) (zy z) (zA z) (zS z) v172 0 v3 σ179) ⟨Nat.le_trans (by decide) hR.1, Nat.le_trans (by decide) hR.2⟩ rfl rfl (Nat.le_of_ble_eq_true rfl) dX8_isPlaced_114 h (fun v181 σ182 h => ?_)
                  refine r_if_eq X 124 dX8_isPlaced_117 (by decide) h (fun g183 h => ?_) (fun g183 h => ?_)
                  · refine r_iconst X 0 dX8_isPlaced_124 (by decide) ?_
                    exact r_zretC Rt dX8_isPlaced_125 (by decide) h
                  · refine r_iconst X 1 dX8_isPlaced_120 (by decide) ?_
                    refine r_goto X 125 dX8_isPlaced_121 (by decide) ?_
                    exact r_zretC Rt dX8_isPlaced_125 (by decide) h
                · refine r_iconst X 1 dX8_isPlaced_108 (by decide) ?_
                  refine r_goto X 113 dX8_isPlaced_109 (by decide) ?_
                  refine r_iload_n X dX8_isPlaced_113 rfl 2 rfl ?_
                  refine r_callS X lk_X8_147 (c_X8_suits (zl z) X.2.2.2.2.2.2.2.1 N (zD z) (zy z) (zA z) (zS z) v172 1 v3 σ179) ⟨Nat.le_trans (by decide) hR.1, Nat.le_trans (by decide) hR.2⟩ rfl rfl (Nat.le_of_ble_eq_true rfl) dX8_isPlaced_114 h (fun v184 σ185 h => ?_)
                  refine r_if_eq X 124 dX8_isPlaced_117 (by decide) h (fun g186 h => ?_) (fun g186 h => ?_)
                  · refine r_iconst X 0 dX8_isPlaced_124 (by decide) ?_
                    exact r_zretC Rt dX8_isPlaced_125 (by decide) h
                  · refine r_iconst X 1 dX8_isPlaced_120 (by decide) ?_
                    refine r_goto X 125 dX8_isPlaced_121 (by decide) ?_
                    exact r_zretC Rt dX8_isPlaced_125 (by decide) h
        · refine r_iconst X 1 dX8_isPlaced_67 (by decide) ?_
          refine r_goto X 72 dX8_isPlaced_68 (by decide) ?_
          refine r_iload_n X dX8_isPlaced_72 rfl 1 rfl ?_
          refine r_callS X lk_X8_147 (c_X8_suits (zl z) X.2.2.2.2.2.2.2.1 N (zD z) (zy z) (zA z) (zS z) v143 1 v3 σ166) ⟨Nat.le_trans (by decide) hR.1, Nat.le_trans (by decide) hR.2⟩ rfl rfl (Nat.le_of_ble_eq_true rfl) dX8_isPlaced_73 h (fun v187 σ188 h => ?_)
          refine r_istore X [(5, .int v187), (4, .int v141), (3, .int v3), (2, .int v1), (0, .ref (zA z 35)), (1, .int a1)] dX8_isPlaced_76 (by decide) rfl ?_
          refine r_iload X dX8_isPlaced_78 1 rfl ?_
          refine r_if_eq X 124 dX8_isPlaced_80 (by decide) h (fun g189 h => ?_) (fun g189 h => ?_)
          · refine r_iconst X 0 dX8_isPlaced_124 (by decide) ?_
            exact r_zretC Rt dX8_isPlaced_125 (by decide) h
          · refine r_iload X dX8_isPlaced_83 0 rfl ?_
            refine r_if_eq X 124 dX8_isPlaced_85 (by decide) h (fun g190 h => ?_) (fun g190 h => ?_)
            · refine r_iconst X 0 dX8_isPlaced_124 (by decide) ?_
              exact r_zretC Rt dX8_isPlaced_125 (by decide) h
            · refine r_aload_n X dX8_isPlaced_88 rfl 4 rfl ?_
              refine r_iload_n X dX8_isPlaced_89 rfl 5 rfl ?_
              refine r_callV X 35 8 (by decide) rfl rfl rfl lk_X8_151 (c_X8_isCell (zl z) X.2.2.2.2.2.2.2.1 N (zD z) (zy z) (zA z) (zS z) a1 σ188) ⟨Nat.le_trans (by decide) hR.1, Nat.le_trans (by decide) hR.2⟩ rfl rfl (Nat.le_of_ble_eq_true rfl) dX8_isPlaced_90 h (fun v191 σ192 h => ?_)
              refine r_iload_n X dX8_isPlaced_93 rfl 3 rfl ?_
              refine r_iconst X (-1) dX8_isPlaced_94 (by decide) ?_
              refine r_icmp_eq X 112 dX8_isPlaced_95 (by decide) h (fun g193 h => ?_) (fun g193 h => ?_)
              · refine r_iconst X 0 dX8_isPlaced_112 (by decide) ?_
                refine r_iload_n X dX8_isPlaced_113 rfl 2 rfl ?_
                refine r_callS X lk_X8_147 (c_X8_suits (zl z) X.2.2.2.2.2.2.2.1 N (zD z) (zy z) (zA z) (zS z) v191 0 v3 σ192) ⟨Nat.le_trans (by decide) hR.1, Nat.le_trans (by decide) hR.2⟩ rfl rfl (Nat.le_of_ble_eq_true rfl) dX8_isPlaced_114 h (fun v194 σ195 h => ?_)
                refine r_if_eq X 124 dX8_isPlaced_117 (by decide) h (fun g196 h => ?_) (fun g196 h => ?_)
                · refine r_iconst X 0 dX8_isPlaced_124 (by decide) ?_
                  exact r_zretC Rt dX8_isPlaced_125 (by decide) h
                · refine r_iconst X 1 dX8_isPlaced_120 (by decide) ?_
                  refine r_goto X 125 dX8_isPlaced_121 (by decide) ?_
                  exact r_zretC Rt dX8_isPlaced_125 (by decide) h
              · refine r_aload_n X dX8_isPlaced_98 rfl 4 rfl ?_
                refine r_iload_n X dX8_isPlaced_99 rfl 3 rfl ?_
                refine r_bipush X 7 dX8_isPlaced_100 (by decide) ?_
                refine r_callV X 35 8 (by decide) rfl rfl rfl lk_X8_129 (c_X8_is (zl z) X.2.2.2.2.2.2.2.1 N (zD z) (zy z) (zA z) (zS z) v1 7 σ192) ⟨Nat.le_trans (by decide) hR.1, Nat.le_trans (by decide) hR.2⟩ rfl rfl (Nat.le_of_ble_eq_true rfl) dX8_isPlaced_102 h (fun v197 σ198 h => ?_)
                refine r_if_eq X 112 dX8_isPlaced_105 (by decide) h (fun g199 h => ?_) (fun g199 h => ?_)
                · refine r_iconst X 0 dX8_isPlaced_112 (by decide) ?_
                  refine r_iload_n X dX8_isPlaced_113 rfl 2 rfl ?_
                  refine r_callS X lk_X8_147 (c_X8_suits (zl z) X.2.2.2.2.2.2.2.1 N (zD z) (zy z) (zA z) (zS z) v191 0 v3 σ198) ⟨Nat.le_trans (by decide) hR.1, Nat.le_trans (by decide) hR.2⟩ rfl rfl (Nat.le_of_ble_eq_true rfl) dX8_isPlaced_114 h (fun v200 σ201 h => ?_)
                  refine r_if_eq X 124 dX8_isPlaced_117 (by decide) h (fun g202 h => ?_) (fun g202 h => ?_)
                  · refine r_iconst X 0 dX8_isPlaced_124 (by decide) ?_
                    exact r_zretC Rt dX8_isPlaced_125 (by decide) h
                  · refine r_iconst X 1 dX8_isPlaced_120 (by decide) ?_
                    refine r_goto X 125 dX8_isPlaced_121 (by decide) ?_
                    exact r_zretC Rt dX8_isPlaced_125 (by decide) h
                · refine r_iconst X 1 dX8_isPlaced_108 (by decide) ?_
                  refine r_goto X 113 dX8_isPlaced_109 (by decide) ?_
                  refine r_iload_n X dX8_isPlaced_113 rfl 2 rfl ?_
                  refine r_callS X lk_X8_147 (c_X8_suits (zl z) X.2.2.2.2.2.2.2.1 N (zD z) (zy z) (zA z) (zS z) v191 1 v3 σ198) ⟨Nat.le_trans (by decide) hR.1, Nat.le_trans (by decide) hR.2⟩ rfl rfl (Nat.le_of_ble_eq_true rfl) dX8_isPlaced_114 h (fun v203 σ204 h => ?_)
                  refine r_if_eq X 124 dX8_isPlaced_117 (by decide) h (fun g205 h => ?_) (fun g205 h => ?_)
                  · refine r_iconst X 0 dX8_isPlaced_124 (by decide) ?_
                    exact r_zretC Rt dX8_isPlaced_125 (by decide) h
                  · refine r_iconst X 1 dX8_isPlaced_120 (by decide) ?_
                    refine r_goto X 125 dX8_isPlaced_121 (by decide) ?_
                    exact r_zretC Rt dX8_isPlaced_125 (by decide) h
theorem c_X8_isPlaced (l : Launch) (hl : l.stackTraces = false) (N : Nat) (D : va_G) (cy : Nat → ClassId) (ad sa : Nat → Nat) (a1 : Int32) (σ : Sg) : CtI l yX8_isPlaced cX8_isPlaced 6 (some .boolean) 3 65 D cy ad sa [.ref (ad 35), .int a1] σ (f_X8_isPlaced N a1 σ) :=
  ct_I hl (by decide +kernel) (Nat.le_of_ble_eq_true rfl) (fun z res e1 e2 e3 e4 e5 e6 X Rt h => by subst e1 e2 e3 e4 e5; exact w_X8_isPlaced X ⟨e6.1, e6.2⟩ Rt N a1 σ h)
def f_X8_lay_49 (N : Nat) (x1 : Int32) (x2 : Int32) (x3 : Int32) (x5 : Int32) (K : Int32 → Sg → Option (Int32 × Sg)) : Nat → Int32 → Sg → Option (Int32 × Sg)
  | 0, _, _ => none
  | n + 1, x4, σ => rdA 500 (σ 56) x4 (fun v15 => if v15 ≤ x2 then (K x4 σ) else (lt (x4 + 1) (fun v17 => f_X8_lay_49 N x1 x2 x3 x5 K n v17 σ)))
def f_X8_lay_69 (N : Nat) (x1 : Int32) (x2 : Int32) (x5 : Int32) (K : Int32 → Int32 → Sg → Option (Int32 × Sg)) : Nat → Int32 → Int32 → Int32 → Sg → Option (Int32 × Sg)
  | 0, _, _, _, _ => none
  | n + 1, x3, x4, x6, σ => rdA 160 (σ 43) x5 (fun v20 => rdA 60 (σ 40) v20 (fun v21 => if v21 ≤ x6 then (K x3 x4 σ) else (if x3 = 0 then (rdA 500 (σ 56) x4 (fun v36 => if v36 ≤ x2 then (rdA 160 (σ 43) x5 (fun v38 => rdA 60 (σ 39) v38 (fun v39 => lt (x2 + v39) (fun v40 => rdA 500 (σ 56) x4 (fun v41 => if v40 ≤ v41 then (rdA 500 (σ 56) x4 (fun v43 => wrA 500 σ 56 x4 v43 (fun σ44 => lt (x4 + 1) (fun v45 => lt (x6 + 1) (fun v46 => f_X8_lay_69 N x1 x2 x5 K n 0 v45 v46 σ44))))) else (wrA 500 σ 56 x4 v40 (fun σ47 => lt (x4 + 1) (fun v48 => lt (x6 + 1) (fun v49 => f_X8_lay_69 N x1 x2 x5 K n 0 v48 v49 σ47))))))))) else (rdA 160 (σ 43) x5 (fun v50 => rdA 60 (σ 39) v50 (fun v51 => lt (x2 + v51) (fun v52 => rdA 500 (σ 56) x4 (fun v53 => if v52 ≤ v53 then (rdA 500 (σ 56) x4 (fun v55 => wrA 500 σ 56 x4 v55 (fun σ56 => lt (x4 + 1) (fun v57 => lt (x6 + 1) (fun v58 => f_X8_lay_69 N x1 x2 x5 K n 1 v57 v58 σ56))))) else (wrA 500 σ 56 x4 v52 (fun σ59 => lt (x4 + 1) (fun v60 => lt (x6 + 1) (fun v61 => f_X8_lay_69 N x1 x2 x5 K n 1 v60 v61 σ59))))))))))) else (rdA 160 (σ 43) x5 (fun v24 => rdA 60 (σ 39) v24 (fun v25 => lt (x2 + v25) (fun v26 => rdA 500 (σ 56) x4 (fun v27 => if v26 ≤ v27 then (rdA 500 (σ 56) x4 (fun v29 => wrA 500 σ 56 x4 v29 (fun σ30 => lt (x4 + 1) (fun v31 => lt (x6 + 1) (fun v32 => f_X8_lay_69 N x1 x2 x5 K n 1 v31 v32 σ30))))) else (wrA 500 σ 56 x4 v26 (fun σ33 => lt (x4 + 1) (fun v34 => lt (x6 + 1) (fun v35 => f_X8_lay_69 N x1 x2 x5 K n 1 v34 v35 σ33))))))))))))
def f_X8_lay_13 (N : Nat) (x1 : Int32) (x2 : Int32) (K : Int32 → Sg → Option (Int32 × Sg)) : Nat → Int32 → Int32 → Int32 → Sg → Option (Int32 × Sg)
  | 0, _, _, _, _ => none
  | n + 1, x3, x4, x5, σ => lt (σ 35 8) (fun v3 => if v3 ≤ x5 then (K x3 σ) else (rdA 160 (σ 43) x5 (fun v5 => if 1000 ≤ v5 then (cI (f_X8_nextKid N x1 (x5 + 1) σ) (fun v7 σ8 => f_X8_lay_13 N x1 x2 K n x3 x4 v7 σ8)) else (rdA 160 (σ 43) x5 (fun v9 => cI (f_X8_isCell N v9 σ) (fun v10 σ11 => if v10 = 0 then (cI (f_X8_nextKid N x1 (x5 + 1) σ11) (fun v13 σ14 => f_X8_lay_13 N x1 x2 K n x3 x4 v13 σ14)) else (f_X8_lay_49 N x1 x2 x3 x5 (fun v18 σ19 => f_X8_lay_69 N x1 x2 x5 (fun v62 v63 σ64 => cI (f_X8_nextKid N x1 (x5 + 1) σ64) (fun v65 σ66 => f_X8_lay_13 N x1 x2 K n v62 v63 v65 σ66)) N x3 v18 0 σ19) N x4 σ11)))))))
def f_X8_lay (N : Nat) (a1 : Int32) (a2 : Int32) (σ : Sg) : Option (Int32 × Sg) := cI (f_X8_nextKid N a1 0 σ) (fun v1 σ2 => f_X8_lay_13 N a1 a2 (fun v67 σ68 => gd (v67 = 0 ∨ v67 = 1) (some (v67, σ68))) N 0 0 v1 σ2)
set_option maxHeartbeats 4000000 in
set_option maxRecDepth 100000 in
theorem w_X8_lay_49 {z : Cz} (X : Cx z cX8_lay 8 RX8) (hR : 3 ≤ (zR z).frames ∧ 65 ≤ (zR z).locals) {res : (Int32 × Sg)} (N : Nat) (x1 : Int32) (x2 : Int32) (x3 : Int32) (x5 : Int32) (K : Int32 → Sg → Option (Int32 × Sg)) (kx : ∀ (y4 : Int32) (σ : Sg), K y4 σ = some res → V z 0 8 66 [(0, .ref (zA z 35)), (1, .int x1), (2, .int x2), (3, .int x3), (5, .int x5), (4, .int y4)] [] σ) : ∀ (n : Nat) (x4 : Int32) (σ : Sg), f_X8_lay_49 N x1 x2 x3 x5 K n x4 σ = some res → V z 0 8 49 [(0, .ref (zA z 35)), (1, .int x1), (2, .int x2), (3, .int x3), (5, .int x5), (4, .int x4)] [] σ := by
  intro n
  induction n with
  | zero =>
    intro x4 σ h
    rw [f_X8_lay_49] at h
    cases h
  | succ n ih =>
    intro x4 σ h
    rw [f_X8_lay_49] at h
    refine r_aload_n X dX8_lay_49 rfl 0 rfl ?_
    refine gf_X8_75 X dX8_lay_50 ?_
    refine r_iload X dX8_lay_53 5 rfl ?_
    refine al_56 X dX8_lay_55 h (fun v15 h => ?_)
    refine r_iload_n X dX8_lay_56 rfl 2 rfl ?_
    refine r_icmp_le X 66 dX8_lay_57 (by decide) h (fun g16 h => ?_) (fun g16 h => ?_)
    · refine r_sub [0, 1, 2, 3, 4, 5] rfl ?_
      exact kx x4 σ h
    · refine r_iinc X 1 (fun v17 => [(4, .int v17), (0, .ref (zA z 35)), (1, .int x1), (2, .int x2), (3, .int x3), (5, .int x5)]) dX8_lay_60 5 rfl (by decide) (by decide) (fun _ => rfl) h (fun v17 h => ?_)
      refine r_goto X 49 dX8_lay_63 (by decide) ?_
      refine r_sub [1, 2, 3, 4, 5, 0] rfl ?_
      exact ih v17 σ h
set_option maxHeartbeats 4000000 in
set_option maxRecDepth 100000 in
theorem w_X8_lay_69 {z : Cz} (X : Cx z cX8_lay 8 RX8) (hR : 3 ≤ (zR z).frames ∧ 65 ≤ (zR z).locals) {res : (Int32 × Sg)} (N : Nat) (x1 : Int32) (x2 : Int32) (x5 : Int32) (K : Int32 → Int32 → Sg → Option (Int32 × Sg)) (kx : ∀ (y3 : Int32) (y4 : Int32) (σ : Sg), K y3 y4 σ = some res → V z 0 8 163 [(0, .ref (zA z 35)), (1, .int x1), (2, .int x2), (5, .int x5), (3, .int y3), (4, .int y4)] [] σ) : ∀ (n : Nat) (x3 : Int32) (x4 : Int32) (x6 : Int32) (σ : Sg), f_X8_lay_69 N x1 x2 x5 K n x3 x4 x6 σ = some res → V z 0 8 69 [(0, .ref (zA z 35)), (1, .int x1), (2, .int x2), (5, .int x5), (3, .int x3), (4, .int x4), (6, .int x6)] [] σ := by
  intro n
  induction n with
  | zero =>
    intro x3 x4 x6 σ h
    rw [f_X8_lay_69] at h
    cases h
  | succ n ih =>
    intro x3 x4 x6 σ h
    rw [f_X8_lay_69] at h
    refine r_iload X dX8_lay_69 6 rfl ?_
    refine r_aload_n X dX8_lay_71 rfl 0 rfl ?_
    refine gf_X8_27 X dX8_lay_72 ?_
    refine r_aload_n X dX8_lay_75 rfl 0 rfl ?_
    refine gf_X8_36 X dX8_lay_76 ?_
    refine r_iload X dX8_lay_79 3 rfl ?_
    refine al_43 X dX8_lay_81 h (fun v20 h => ?_)
    refine al_40 X dX8_lay_82 h (fun v21 h => ?_)
    refine r_icmp_ge X 163 dX8_lay_83 (by decide) h (fun g22 h => ?_) (fun g22 h => ?_)
    · refine r_sub [0, 1, 2, 3, 4, 5] rfl ?_
      exact kx x3 x4 σ h
    · refine r_iload_n X dX8_lay_86 rfl 4 rfl ?_
      refine r_if_ne X 101 dX8_lay_87 (by decide) h (fun g23 h => ?_) (fun g23 h => ?_)
      · refine r_aload_n X dX8_lay_90 rfl 0 rfl ?_
        refine gf_X8_75 X dX8_lay_91 ?_
        refine r_iload X dX8_lay_94 5 rfl ?_
        refine al_56 X dX8_lay_96 h (fun v36 h => ?_)
        refine r_iload_n X dX8_lay_97 rfl 2 rfl ?_
        refine r_icmp_le X 105 dX8_lay_98 (by decide) h (fun g37 h => ?_) (fun g37 h => ?_)
        · refine r_iconst X 0 dX8_lay_105 (by decide) ?_
          refine r_istore_n X [(3, .int 0), (0, .ref (zA z 35)), (1, .int x1), (2, .int x2), (5, .int x5), (4, .int x4), (6, .int x6)] dX8_lay_106 rfl (by decide) rfl ?_
          refine r_iload_n X dX8_lay_107 rfl 3 rfl ?_
          refine r_aload_n X dX8_lay_108 rfl 1 rfl ?_
          refine gf_X8_24 X dX8_lay_109 ?_
          refine r_aload_n X dX8_lay_112 rfl 1 rfl ?_
          refine gf_X8_36 X dX8_lay_113 ?_
          refine r_iload X dX8_lay_116 4 rfl ?_
          refine al_43 X dX8_lay_118 h (fun v38 h => ?_)
          refine al_39 X dX8_lay_119 h (fun v39 h => ?_)
          refine r_iadd X dX8_lay_120 ?_
          refine r_lt h (fun v40 h => ?_)
          refine r_istore X [(7, .int v40), (3, .int 0), (0, .ref (zA z 35)), (1, .int x1), (2, .int x2), (5, .int x5), (4, .int x4), (6, .int x6)] dX8_lay_121 (by decide) rfl ?_
          refine r_aload_n X dX8_lay_123 rfl 2 rfl ?_
          refine gf_X8_75 X dX8_lay_124 ?_
          refine r_iload X dX8_lay_127 6 rfl ?_
          refine r_iload X dX8_lay_129 0 rfl ?_
          refine r_aload_n X dX8_lay_131 rfl 2 rfl ?_
          refine gf_X8_75 X dX8_lay_132 ?_
          refine r_iload X dX8_lay_135 6 rfl ?_
          refine al_56 X dX8_lay_137 h (fun v41 h => ?_)
          refine r_icmp_le X 146 dX8_lay_138 (by decide) h (fun g42 h => ?_) (fun g42 h => ?_)
          · refine r_aload_n X dX8_lay_146 rfl 2 rfl ?_
            refine gf_X8_75 X dX8_lay_147 ?_
            refine r_iload X dX8_lay_150 6 rfl ?_
            refine al_56 X dX8_lay_152 h (fun v43 h => ?_)
            refine as_56 X dX8_lay_153 h (fun σ44 h => ?_)
            refine r_iinc X 1 (fun v45 => [(4, .int v45), (7, .int v40), (3, .int 0), (0, .ref (zA z 35)), (1, .int x1), (2, .int x2), (5, .int x5), (6, .int x6)]) dX8_lay_154 6 rfl (by decide) (by decide) (fun _ => rfl) h (fun v45 h => ?_)
            refine r_iinc X 1 (fun v46 => [(6, .int v46), (4, .int v45), (7, .int v40), (3, .int 0), (0, .ref (zA z 35)), (1, .int x1), (2, .int x2), (5, .int x5)]) dX8_lay_157 7 rfl (by decide) (by decide) (fun _ => rfl) h (fun v46 h => ?_)
            refine r_goto X 69 dX8_lay_160 (by decide) ?_
            refine r_sub [4, 5, 6, 7, 3, 1, 0] rfl ?_
            exact ih 0 v45 v46 σ44 h
          · refine r_iload X dX8_lay_141 0 rfl ?_
            refine r_goto X 153 dX8_lay_143 (by decide) ?_
            refine as_56 X dX8_lay_153 h (fun σ47 h => ?_)
            refine r_iinc X 1 (fun v48 => [(4, .int v48), (7, .int v40), (3, .int 0), (0, .ref (zA z 35)), (1, .int x1), (2, .int x2), (5, .int x5), (6, .int x6)]) dX8_lay_154 6 rfl (by decide) (by decide) (fun _ => rfl) h (fun v48 h => ?_)
            refine r_iinc X 1 (fun v49 => [(6, .int v49), (4, .int v48), (7, .int v40), (3, .int 0), (0, .ref (zA z 35)), (1, .int x1), (2, .int x2), (5, .int x5)]) dX8_lay_157 7 rfl (by decide) (by decide) (fun _ => rfl) h (fun v49 h => ?_)
            refine r_goto X 69 dX8_lay_160 (by decide) ?_
            refine r_sub [4, 5, 6, 7, 3, 1, 0] rfl ?_
            exact ih 0 v48 v49 σ47 h
        · refine r_iconst X 1 dX8_lay_101 (by decide) ?_
          refine r_goto X 106 dX8_lay_102 (by decide) ?_
          refine r_istore_n X [(3, .int 1), (0, .ref (zA z 35)), (1, .int x1), (2, .int x2), (5, .int x5), (4, .int x4), (6, .int x6)] dX8_lay_106 rfl (by decide) rfl ?_
          refine r_iload_n X dX8_lay_107 rfl 3 rfl ?_
          refine r_aload_n X dX8_lay_108 rfl 1 rfl ?_
          refine gf_X8_24 X dX8_lay_109 ?_
          refine r_aload_n X dX8_lay_112 rfl 1 rfl ?_
          refine gf_X8_36 X dX8_lay_113 ?_
          refine r_iload X dX8_lay_116 4 rfl ?_
          refine al_43 X dX8_lay_118 h (fun v50 h => ?_)
          refine al_39 X dX8_lay_119 h (fun v51 h => ?_)
          refine r_iadd X dX8_lay_120 ?_
          refine r_lt h (fun v52 h => ?_)
          refine r_istore X [(7, .int v52), (3, .int 1), (0, .ref (zA z 35)), (1, .int x1), (2, .int x2), (5, .int x5), (4, .int x4), (6, .int x6)] dX8_lay_121 (by decide) rfl ?_
          refine r_aload_n X dX8_lay_123 rfl 2 rfl ?_
          refine gf_X8_75 X dX8_lay_124 ?_
          refine r_iload X dX8_lay_127 6 rfl ?_
          refine r_iload X dX8_lay_129 0 rfl ?_
          refine r_aload_n X dX8_lay_131 rfl 2 rfl ?_
          refine gf_X8_75 X dX8_lay_132 ?_
          refine r_iload X dX8_lay_135 6 rfl ?_
          refine al_56 X dX8_lay_137 h (fun v53 h => ?_)
          refine r_icmp_le X 146 dX8_lay_138 (by decide) h (fun g54 h => ?_) (fun g54 h => ?_)
          · refine r_aload_n X dX8_lay_146 rfl 2 rfl ?_
            refine gf_X8_75 X dX8_lay_147 ?_
            refine r_iload X dX8_lay_150 6 rfl ?_
            refine al_56 X dX8_lay_152 h (fun v55 h => ?_)
            refine as_56 X dX8_lay_153 h (fun σ56 h => ?_)
            refine r_iinc X 1 (fun v57 => [(4, .int v57), (7, .int v52), (3, .int 1), (0, .ref (zA z 35)), (1, .int x1), (2, .int x2), (5, .int x5), (6, .int x6)]) dX8_lay_154 6 rfl (by decide) (by decide) (fun _ => rfl) h (fun v57 h => ?_)
            refine r_iinc X 1 (fun v58 => [(6, .int v58), (4, .int v57), (7, .int v52), (3, .int 1), (0, .ref (zA z 35)), (1, .int x1), (2, .int x2), (5, .int x5)]) dX8_lay_157 7 rfl (by decide) (by decide) (fun _ => rfl) h (fun v58 h => ?_)
            refine r_goto X 69 dX8_lay_160 (by decide) ?_
            refine r_sub [4, 5, 6, 7, 3, 1, 0] rfl ?_
            exact ih 1 v57 v58 σ56 h
          · refine r_iload X dX8_lay_141 0 rfl ?_
            refine r_goto X 153 dX8_lay_143 (by decide) ?_
            refine as_56 X dX8_lay_153 h (fun σ59 h => ?_)
            refine r_iinc X 1 (fun v60 => [(4, .int v60), (7, .int v52), (3, .int 1), (0, .ref (zA z 35)), (1, .int x1), (2, .int x2), (5, .int x5), (6, .int x6)]) dX8_lay_154 6 rfl (by decide) (by decide) (fun _ => rfl) h (fun v60 h => ?_)
            refine r_iinc X 1 (fun v61 => [(6, .int v61), (4, .int v60), (7, .int v52), (3, .int 1), (0, .ref (zA z 35)), (1, .int x1), (2, .int x2), (5, .int x5)]) dX8_lay_157 7 rfl (by decide) (by decide) (fun _ => rfl) h (fun v61 h => ?_)
            refine r_goto X 69 dX8_lay_160 (by decide) ?_
            refine r_sub [4, 5, 6, 7, 3, 1, 0] rfl ?_
            exact ih 1 v60 v61 σ59 h
      · refine r_iconst X 1 dX8_lay_101 (by decide) ?_
        refine r_goto X 106 dX8_lay_102 (by decide) ?_
        refine r_istore_n X [(3, .int 1), (0, .ref (zA z 35)), (1, .int x1), (2, .int x2), (5, .int x5), (4, .int x4), (6, .int x6)] dX8_lay_106 rfl (by decide) rfl ?_
        refine r_iload_n X dX8_lay_107 rfl 3 rfl ?_
        refine r_aload_n X dX8_lay_108 rfl 1 rfl ?_
        refine gf_X8_24 X dX8_lay_109 ?_
        refine r_aload_n X dX8_lay_112 rfl 1 rfl ?_
        refine gf_X8_36 X dX8_lay_113 ?_
        refine r_iload X dX8_lay_116 4 rfl ?_
        refine al_43 X dX8_lay_118 h (fun v24 h => ?_)
        refine al_39 X dX8_lay_119 h (fun v25 h => ?_)
        refine r_iadd X dX8_lay_120 ?_
        refine r_lt h (fun v26 h => ?_)
        refine r_istore X [(7, .int v26), (3, .int 1), (0, .ref (zA z 35)), (1, .int x1), (2, .int x2), (5, .int x5), (4, .int x4), (6, .int x6)] dX8_lay_121 (by decide) rfl ?_
        refine r_aload_n X dX8_lay_123 rfl 2 rfl ?_
        refine gf_X8_75 X dX8_lay_124 ?_
        refine r_iload X dX8_lay_127 6 rfl ?_
        refine r_iload X dX8_lay_129 0 rfl ?_
        refine r_aload_n X dX8_lay_131 rfl 2 rfl ?_
        refine gf_X8_75 X dX8_lay_132 ?_
        refine r_iload X dX8_lay_135 6 rfl ?_
        refine al_56 X dX8_lay_137 h (fun v27 h => ?_)
        refine r_icmp_le X 146 dX8_lay_138 (by decide) h (fun g28 h => ?_) (fun g28 h => ?_)
        · refine r_aload_n X dX8_lay_146 rfl 2 rfl ?_
          refine gf_X8_75 X dX8_lay_147 ?_
          refine r_iload X dX8_lay_150 6 rfl ?_
          refine al_56 X dX8_lay_152 h (fun v29 h => ?_)
          refine as_56 X dX8_lay_153 h (fun σ30 h => ?_)
          refine r_iinc X 1 (fun v31 => [(4, .int v31), (7, .int v26), (3, .int 1), (0, .ref (zA z 35)), (1, .int x1), (2, .int x2), (5, .int x5), (6, .int x6)]) dX8_lay_154 6 rfl (by decide) (by decide) (fun _ => rfl) h (fun v31 h => ?_)
          refine r_iinc X 1 (fun v32 => [(6, .int v32), (4, .int v31), (7, .int v26), (3, .int 1), (0, .ref (zA z 35)), (1, .int x1), (2, .int x2), (5, .int x5)]) dX8_lay_157 7 rfl (by decide) (by decide) (fun _ => rfl) h (fun v32 h => ?_)
          refine r_goto X 69 dX8_lay_160 (by decide) ?_
          refine r_sub [4, 5, 6, 7, 3, 1, 0] rfl ?_
          exact ih 1 v31 v32 σ30 h
        · refine r_iload X dX8_lay_141 0 rfl ?_
          refine r_goto X 153 dX8_lay_143 (by decide) ?_
          refine as_56 X dX8_lay_153 h (fun σ33 h => ?_)
          refine r_iinc X 1 (fun v34 => [(4, .int v34), (7, .int v26), (3, .int 1), (0, .ref (zA z 35)), (1, .int x1), (2, .int x2), (5, .int x5), (6, .int x6)]) dX8_lay_154 6 rfl (by decide) (by decide) (fun _ => rfl) h (fun v34 h => ?_)
          refine r_iinc X 1 (fun v35 => [(6, .int v35), (4, .int v34), (7, .int v26), (3, .int 1), (0, .ref (zA z 35)), (1, .int x1), (2, .int x2), (5, .int x5)]) dX8_lay_157 7 rfl (by decide) (by decide) (fun _ => rfl) h (fun v35 h => ?_)
          refine r_goto X 69 dX8_lay_160 (by decide) ?_
          refine r_sub [4, 5, 6, 7, 3, 1, 0] rfl ?_
          exact ih 1 v34 v35 σ33 h
set_option maxHeartbeats 4000000 in
set_option maxRecDepth 100000 in
theorem w_X8_lay_13 {z : Cz} (X : Cx z cX8_lay 8 RX8) (hR : 3 ≤ (zR z).frames ∧ 65 ≤ (zR z).locals) {res : (Int32 × Sg)} (N : Nat) (x1 : Int32) (x2 : Int32) (K : Int32 → Sg → Option (Int32 × Sg)) (kx : ∀ (y3 : Int32) (σ : Sg), K y3 σ = some res → V z 0 8 177 [(3, .int y3)] [] σ) : ∀ (n : Nat) (x3 : Int32) (x4 : Int32) (x5 : Int32) (σ : Sg), f_X8_lay_13 N x1 x2 K n x3 x4 x5 σ = some res → V z 0 8 13 [(0, .ref (zA z 35)), (1, .int x1), (2, .int x2), (3, .int x3), (4, .int x4), (5, .int x5)] [] σ := by
  intro n
  induction n with
  | zero =>
    intro x3 x4 x5 σ h
    rw [f_X8_lay_13] at h
    cases h
  | succ n ih =>
    intro x3 x4 x5 σ h
    rw [f_X8_lay_13] at h
    refine r_iload X dX8_lay_13 5 rfl ?_
    refine r_aload_n X dX8_lay_15 rfl 0 rfl ?_
    refine gf_X8_89 X dX8_lay_16 h (fun v3 h => ?_)
    refine r_icmp_ge X 177 dX8_lay_19 (by decide) h (fun g4 h => ?_) (fun g4 h => ?_)
    · refine r_sub [3] rfl ?_
      exact kx x3 σ h
    · refine r_aload_n X dX8_lay_22 rfl 0 rfl ?_
      refine gf_X8_36 X dX8_lay_23 ?_
      refine r_iload X dX8_lay_26 5 rfl ?_
      refine al_43 X dX8_lay_28 h (fun v5 h => ?_)
      refine r_sipush X 1000 dX8_lay_29 (by decide) ?_
      refine r_icmp_ge X 163 dX8_lay_32 (by decide) h (fun g6 h => ?_) (fun g6 h => ?_)
      · refine r_aload_n X dX8_lay_163 rfl 0 rfl ?_
        refine r_iload_n X dX8_lay_164 rfl 1 rfl ?_
        refine r_iload X dX8_lay_165 5 rfl ?_
        refine r_iconst X 1 dX8_lay_167 (by decide) ?_
        refine r_iadd X dX8_lay_168 ?_
        refine r_callV X 35 8 (by decide) rfl rfl rfl lk_X8_125 (c_X8_nextKid (zl z) X.2.2.2.2.2.2.2.1 N (zD z) (zy z) (zA z) (zS z) x1 (x5 + 1) σ) ⟨Nat.le_trans (by decide) hR.1, Nat.le_trans (by decide) hR.2⟩ rfl rfl (Nat.le_of_ble_eq_true rfl) dX8_lay_169 h (fun v7 σ8 h => ?_)
        refine r_istore X [(5, .int v7), (0, .ref (zA z 35)), (1, .int x1), (2, .int x2), (3, .int x3), (4, .int x4)] dX8_lay_172 (by decide) rfl ?_
        refine r_goto X 13 dX8_lay_174 (by decide) ?_
        refine r_sub [1, 2, 3, 4, 5, 0] rfl ?_
        exact ih x3 x4 v7 σ8 h
      · refine r_aload_n X dX8_lay_35 rfl 0 rfl ?_
        refine r_aload_n X dX8_lay_36 rfl 0 rfl ?_
        refine gf_X8_36 X dX8_lay_37 ?_
        refine r_iload X dX8_lay_40 5 rfl ?_
        refine al_43 X dX8_lay_42 h (fun v9 h => ?_)
        refine r_callV X 35 8 (by decide) rfl rfl rfl lk_X8_151 (c_X8_isCell (zl z) X.2.2.2.2.2.2.2.1 N (zD z) (zy z) (zA z) (zS z) v9 σ) ⟨Nat.le_trans (by decide) hR.1, Nat.le_trans (by decide) hR.2⟩ rfl rfl (Nat.le_of_ble_eq_true rfl) dX8_lay_43 h (fun v10 σ11 h => ?_)
        refine r_if_eq X 163 dX8_lay_46 (by decide) h (fun g12 h => ?_) (fun g12 h => ?_)
        · refine r_aload_n X dX8_lay_163 rfl 0 rfl ?_
          refine r_iload_n X dX8_lay_164 rfl 1 rfl ?_
          refine r_iload X dX8_lay_165 5 rfl ?_
          refine r_iconst X 1 dX8_lay_167 (by decide) ?_
          refine r_iadd X dX8_lay_168 ?_
          refine r_callV X 35 8 (by decide) rfl rfl rfl lk_X8_125 (c_X8_nextKid (zl z) X.2.2.2.2.2.2.2.1 N (zD z) (zy z) (zA z) (zS z) x1 (x5 + 1) σ11) ⟨Nat.le_trans (by decide) hR.1, Nat.le_trans (by decide) hR.2⟩ rfl rfl (Nat.le_of_ble_eq_true rfl) dX8_lay_169 h (fun v13 σ14 h => ?_)
          refine r_istore X [(5, .int v13), (0, .ref (zA z 35)), (1, .int x1), (2, .int x2), (3, .int x3), (4, .int x4)] dX8_lay_172 (by decide) rfl ?_
          refine r_goto X 13 dX8_lay_174 (by decide) ?_
          refine r_sub [1, 2, 3, 4, 5, 0] rfl ?_
          exact ih x3 x4 v13 σ14 h
        · refine r_sub [0, 1, 2, 3, 5, 4] rfl ?_
          refine w_X8_lay_49 X hR N x1 x2 x3 x5 _ (fun v18 σ19 h => ?_) N x4 σ11 h
          refine r_iconst X 0 dX8_lay_66 (by decide) ?_
          refine r_istore X [(6, .int 0), (0, .ref (zA z 35)), (1, .int x1), (2, .int x2), (3, .int x3), (5, .int x5), (4, .int v18)] dX8_lay_67 (by decide) rfl ?_
          refine r_sub [1, 2, 3, 5, 4, 6, 0] rfl ?_
          refine w_X8_lay_69 X hR N x1 x2 x5 _ (fun v62 v63 σ64 h => ?_) N x3 v18 0 σ19 h
          refine r_aload_n X dX8_lay_163 rfl 0 rfl ?_
          refine r_iload_n X dX8_lay_164 rfl 1 rfl ?_
          refine r_iload X dX8_lay_165 3 rfl ?_
          refine r_iconst X 1 dX8_lay_167 (by decide) ?_
          refine r_iadd X dX8_lay_168 ?_
          refine r_callV X 35 8 (by decide) rfl rfl rfl lk_X8_125 (c_X8_nextKid (zl z) X.2.2.2.2.2.2.2.1 N (zD z) (zy z) (zA z) (zS z) x1 (x5 + 1) σ64) ⟨Nat.le_trans (by decide) hR.1, Nat.le_trans (by decide) hR.2⟩ rfl rfl (Nat.le_of_ble_eq_true rfl) dX8_lay_169 h (fun v65 σ66 h => ?_)
          refine r_istore X [(5, .int v65), (0, .ref (zA z 35)), (1, .int x1), (2, .int x2), (3, .int v62), (4, .int v63)] dX8_lay_172 (by decide) rfl ?_
          refine r_goto X 13 dX8_lay_174 (by decide) ?_
          refine r_sub [1, 2, 3, 4, 5, 0] rfl ?_
          exact ih v62 v63 v65 σ66 h
set_option maxHeartbeats 4000000 in
set_option maxRecDepth 100000 in
theorem w_X8_lay {z : Cz} (X : Cx z cX8_lay 8 RX8) (hR : 3 ≤ (zR z).frames ∧ 65 ≤ (zR z).locals) {res : (Int32 × Sg)} (Rt : RtI z cX8_lay 8 .boolean res) (N : Nat) (a1 : Int32) (a2 : Int32) (σ : Sg) (h : f_X8_lay N a1 a2 σ = some res) : V z 0 8 0 [(0, .ref (zA z 35)), (1, .int a1), (2, .int a2)] [] σ := by
  rw [f_X8_lay] at h
  refine r_iconst X 0 dX8_lay_0 (by decide) ?_
  refine r_istore_n X [(3, .int 0), (0, .ref (zA z 35)), (1, .int a1), (2, .int a2)] dX8_lay_1 rfl (by decide) rfl ?_
  refine r_iconst X 0 dX8_lay_2 (by decide) ?_
  refine r_istore X [(4, .int 0), (3, .int 0), (0, .ref (zA z 35)), (1, .int a1), (2, .int a2)] dX8_lay_3 (by decide) rfl ?_
  refine r_aload_n X dX8_lay_5 rfl 2 rfl ?_
  refine r_iload_n X dX8_lay_6 rfl 3 rfl ?_
  refine r_iconst X 0 dX8_lay_7 (by decide) ?_
  refine r_callV X 35 8 (by decide) rfl rfl rfl lk_X8_125 (c_X8_nextKid (zl z) X.2.2.2.2.2.2.2.1 N (zD z) (zy z) (zA z) (zS z) a1 0 σ) ⟨Nat.le_trans (by decide) hR.1, Nat.le_trans (by decide) hR.2⟩ rfl rfl (Nat.le_of_ble_eq_true rfl) dX8_lay_8 h (fun v1 σ2 h => ?_)
  refine r_istore X [(5, .int v1), (4, .int 0), (3, .int 0), (0, .ref (zA z 35)), (1, .int a1), (2, .int a2)] dX8_lay_11 (by decide) rfl ?_
  refine r_sub [3, 4, 5, 2, 1, 0] rfl ?_
  refine w_X8_lay_13 X hR N a1 a2 _ (fun v67 σ68 h => ?_) N 0 0 v1 σ2 h
  refine r_iload_n X dX8_lay_177 rfl 0 rfl ?_
  exact r_zret Rt dX8_lay_178 h
theorem c_X8_lay (l : Launch) (hl : l.stackTraces = false) (N : Nat) (D : va_G) (cy : Nat → ClassId) (ad sa : Nat → Nat) (a1 : Int32) (a2 : Int32) (σ : Sg) : CtI l yX8_lay cX8_lay 8 (some .boolean) 3 65 D cy ad sa [.ref (ad 35), .int a1, .int a2] σ (f_X8_lay N a1 a2 σ) :=
  ct_I hl (by decide +kernel) (Nat.le_of_ble_eq_true rfl) (fun z res e1 e2 e3 e4 e5 e6 X Rt h => by subst e1 e2 e3 e4 e5; exact w_X8_lay X ⟨e6.1, e6.2⟩ Rt N a1 a2 σ h)
def f_X8_isUneven_2 (N : Nat) (x1 : Int32) (K : Sg → Option (Int32 × Sg)) : Nat → Int32 → Sg → Option (Int32 × Sg)
  | 0, _, _ => none
  | n + 1, x2, σ => if 500 ≤ x2 then (K σ) else (wrA 500 σ 56 x2 0 (fun σ2 => lt (x2 + 1) (fun v3 => f_X8_isUneven_2 N x1 K n v3 σ2)))
def f_X8_isUneven_95 (N : Nat) (x1 : Int32) (x2 : Int32) (x3 : Int32) (x4 : Int32) (x5 : Int32) (x6 : Int32) (K : Int32 → Sg → Option (Int32 × Sg)) : Nat → Int32 → Int32 → Sg → Option (Int32 × Sg)
  | 0, _, _, _ => none
  | n + 1, x7, x8, σ => if 500 ≤ x8 then (K x7 σ) else (rdA 500 (σ 56) x8 (fun v23 => if v23 ≤ x3 then (lt (x8 + 1) (fun v25 => f_X8_isUneven_95 N x1 x2 x3 x4 x5 x6 K n x7 v25 σ)) else (lt (x8 + 1) (fun v26 => lt (x8 + 1) (fun v27 => f_X8_isUneven_95 N x1 x2 x3 x4 x5 x6 K n v26 v27 σ)))))
def f_X8_isUneven_37 (N : Nat) (x1 : Int32) (K : Int32 → Sg → Option (Int32 × Sg)) : Nat → Int32 → Int32 → Int32 → Int32 → Sg → Option (Int32 × Sg)
  | 0, _, _, _, _, _ => none
  | n + 1, x2, x3, x4, x5, σ => lt (σ 35 8) (fun v7 => if v7 ≤ x5 then (K x2 σ) else (rdA 160 (σ 43) x5 (fun v9 => if 1000 ≤ v9 then (cI (f_X8_nextKid N x1 (x5 + 1) σ) (fun v11 σ12 => f_X8_isUneven_37 N x1 K n x2 x3 x4 v11 σ12)) else (rdA 160 (σ 43) x5 (fun v13 => cI (f_X8_is N v13 7 σ) (fun v14 σ15 => if v14 = 0 then (cI (f_X8_nextKid N x1 (x5 + 1) σ15) (fun v17 σ18 => f_X8_isUneven_37 N x1 K n x2 x3 x4 v17 σ18)) else (rdA 160 (σ15 43) x5 (fun v19 => cI (f_X8_lay N v19 x3 σ15) (fun v20 σ21 => f_X8_isUneven_95 N x1 x2 x3 x4 x5 v20 (fun v28 σ29 => if x2 = 0 then (if v20 = 0 then (if x3 ≤ 0 then (lt (x3 + 1) (fun v39 => cI (f_X8_nextKid N x1 (x5 + 1) σ29) (fun v40 σ41 => f_X8_isUneven_37 N x1 K n 0 v39 v28 v40 σ41))) else (if v28 = x4 then (lt (x3 + 1) (fun v43 => cI (f_X8_nextKid N x1 (x5 + 1) σ29) (fun v44 σ45 => f_X8_isUneven_37 N x1 K n 0 v43 v28 v44 σ45))) else (lt (x3 + 1) (fun v46 => cI (f_X8_nextKid N x1 (x5 + 1) σ29) (fun v47 σ48 => f_X8_isUneven_37 N x1 K n 1 v46 v28 v47 σ48))))) else (lt (x3 + 1) (fun v35 => cI (f_X8_nextKid N x1 (x5 + 1) σ29) (fun v36 σ37 => f_X8_isUneven_37 N x1 K n 1 v35 v28 v36 σ37)))) else (lt (x3 + 1) (fun v31 => cI (f_X8_nextKid N x1 (x5 + 1) σ29) (fun v32 σ33 => f_X8_isUneven_37 N x1 K n 1 v31 v28 v32 σ33)))) N 0 0 σ21)))))))))
def f_X8_isUneven (N : Nat) (a1 : Int32) (σ : Sg) : Option (Int32 × Sg) := f_X8_isUneven_2 N a1 (fun σ4 => cI (f_X8_nextKid N a1 0 σ4) (fun v5 σ6 => f_X8_isUneven_37 N a1 (fun v49 σ50 => gd (v49 = 0 ∨ v49 = 1) (some (v49, σ50))) N 0 0 0 v5 σ6)) N 0 σ
set_option maxHeartbeats 4000000 in
set_option maxRecDepth 100000 in
theorem w_X8_isUneven_2 {z : Cz} (X : Cx z cX8_isUneven 9 RX8) (hR : 4 ≤ (zR z).frames ∧ 92 ≤ (zR z).locals) {res : (Int32 × Sg)} (N : Nat) (x1 : Int32) (K : Sg → Option (Int32 × Sg)) (kx : ∀ (σ : Sg), K σ = some res → V z 0 9 22 [(0, .ref (zA z 35)), (1, .int x1)] [] σ) : ∀ (n : Nat) (x2 : Int32) (σ : Sg), f_X8_isUneven_2 N x1 K n x2 σ = some res → V z 0 9 2 [(0, .ref (zA z 35)), (1, .int x1), (2, .int x2)] [] σ := by
  intro n
  induction n with
  | zero =>
    intro x2 σ h
    rw [f_X8_isUneven_2] at h
    cases h
  | succ n ih =>
    intro x2 σ h
    rw [f_X8_isUneven_2] at h
    refine r_iload_n X dX8_isUneven_2 rfl 2 rfl ?_
    refine r_sipush X 500 dX8_isUneven_3 (by decide) ?_
    refine r_icmp_ge X 22 dX8_isUneven_6 (by decide) h (fun g1 h => ?_) (fun g1 h => ?_)
    · refine r_sub [0, 1] rfl ?_
      exact kx  σ h
    · refine r_aload_n X dX8_isUneven_9 rfl 0 rfl ?_
      refine gf_X8_75 X dX8_isUneven_10 ?_
      refine r_iload_n X dX8_isUneven_13 rfl 2 rfl ?_
      refine r_iconst X 0 dX8_isUneven_14 (by decide) ?_
      refine as_56 X dX8_isUneven_15 h (fun σ2 h => ?_)
      refine r_iinc X 1 (fun v3 => [(2, .int v3), (0, .ref (zA z 35)), (1, .int x1)]) dX8_isUneven_16 2 rfl (by decide) (by decide) (fun _ => rfl) h (fun v3 h => ?_)
      refine r_goto X 2 dX8_isUneven_19 (by decide) ?_
      refine r_sub [1, 2, 0] rfl ?_
      exact ih v3 σ2 h
set_option maxHeartbeats 4000000 in
set_option maxRecDepth 100000 in
theorem w_X8_isUneven_95 {z : Cz} (X : Cx z cX8_isUneven 9 RX8) (hR : 4 ≤ (zR z).frames ∧ 92 ≤ (zR z).locals) {res : (Int32 × Sg)} (N : Nat) (x1 : Int32) (x2 : Int32) (x3 : Int32) (x4 : Int32) (x5 : Int32) (x6 : Int32) (K : Int32 → Sg → Option (Int32 × Sg)) (kx : ∀ (y7 : Int32) (σ : Sg), K y7 σ = some res → V z 0 9 131 [(0, .ref (zA z 35)), (1, .int x1), (2, .int x2), (3, .int x3), (4, .int x4), (5, .int x5), (6, .int x6), (7, .int y7)] [] σ) : ∀ (n : Nat) (x7 : Int32) (x8 : Int32) (σ : Sg), f_X8_isUneven_95 N x1 x2 x3 x4 x5 x6 K n x7 x8 σ = some res → V z 0 9 95 [(0, .ref (zA z 35)), (1, .int x1), (2, .int x2), (3, .int x3), (4, .int x4), (5, .int x5), (6, .int x6), (7, .int x7), (8, .int x8)] [] σ := by
  intro n
  induction n with
  | zero =>
    intro x7 x8 σ h
    rw [f_X8_isUneven_95] at h
    cases h
  | succ n ih =>
    intro x7 x8 σ h
    rw [f_X8_isUneven_95] at h
    refine r_iload X dX8_isUneven_95 8 rfl ?_
    refine r_sipush X 500 dX8_isUneven_97 (by decide) ?_
    refine r_icmp_ge X 131 dX8_isUneven_100 (by decide) h (fun g22 h => ?_) (fun g22 h => ?_)
    · refine r_sub [0, 1, 2, 3, 4, 5, 6, 7] rfl ?_
      exact kx x7 σ h
    · refine r_aload_n X dX8_isUneven_103 rfl 0 rfl ?_
      refine gf_X8_75 X dX8_isUneven_104 ?_
      refine r_iload X dX8_isUneven_107 8 rfl ?_
      refine al_56 X dX8_isUneven_109 h (fun v23 h => ?_)
      refine r_iload_n X dX8_isUneven_110 rfl 3 rfl ?_
      refine r_icmp_le X 121 dX8_isUneven_111 (by decide) h (fun g24 h => ?_) (fun g24 h => ?_)
      · refine r_iload X dX8_isUneven_121 7 rfl ?_
        refine r_istore X [(7, .int x7), (0, .ref (zA z 35)), (1, .int x1), (2, .int x2), (3, .int x3), (4, .int x4), (5, .int x5), (6, .int x6), (8, .int x8)] dX8_isUneven_123 (by decide) rfl ?_
        refine r_iinc X 1 (fun v25 => [(8, .int v25), (7, .int x7), (0, .ref (zA z 35)), (1, .int x1), (2, .int x2), (3, .int x3), (4, .int x4), (5, .int x5), (6, .int x6)]) dX8_isUneven_125 8 rfl (by decide) (by decide) (fun _ => rfl) h (fun v25 h => ?_)
        refine r_goto X 95 dX8_isUneven_128 (by decide) ?_
        refine r_sub [2, 3, 4, 5, 6, 7, 8, 1, 0] rfl ?_
        exact ih x7 v25 σ h
      · refine r_iload X dX8_isUneven_114 8 rfl ?_
        refine r_iconst X 1 dX8_isUneven_116 (by decide) ?_
        refine r_iadd X dX8_isUneven_117 ?_
        refine r_goto X 123 dX8_isUneven_118 (by decide) ?_
        refine r_lt h (fun v26 h => ?_)
        refine r_istore X [(7, .int v26), (0, .ref (zA z 35)), (1, .int x1), (2, .int x2), (3, .int x3), (4, .int x4), (5, .int x5), (6, .int x6), (8, .int x8)] dX8_isUneven_123 (by decide) rfl ?_
        refine r_iinc X 1 (fun v27 => [(8, .int v27), (7, .int v26), (0, .ref (zA z 35)), (1, .int x1), (2, .int x2), (3, .int x3), (4, .int x4), (5, .int x5), (6, .int x6)]) dX8_isUneven_125 8 rfl (by decide) (by decide) (fun _ => rfl) h (fun v27 h => ?_)
        refine r_goto X 95 dX8_isUneven_128 (by decide) ?_
        refine r_sub [2, 3, 4, 5, 6, 7, 8, 1, 0] rfl ?_
        exact ih v26 v27 σ h
set_option maxHeartbeats 4000000 in
set_option maxRecDepth 100000 in
theorem w_X8_isUneven_37 {z : Cz} (X : Cx z cX8_isUneven 9 RX8) (hR : 4 ≤ (zR z).frames ∧ 92 ≤ (zR z).locals) {res : (Int32 × Sg)} (N : Nat) (x1 : Int32) (K : Int32 → Sg → Option (Int32 × Sg)) (kx : ∀ (y2 : Int32) (σ : Sg), K y2 σ = some res → V z 0 9 178 [(2, .int y2)] [] σ) : ∀ (n : Nat) (x2 : Int32) (x3 : Int32) (x4 : Int32) (x5 : Int32) (σ : Sg), f_X8_isUneven_37 N x1 K n x2 x3 x4 x5 σ = some res → V z 0 9 37 [(0, .ref (zA z 35)), (1, .int x1), (2, .int x2), (3, .int x3), (4, .int x4), (5, .int x5)] [] σ := by
  intro n
  induction n with
  | zero =>
    intro x2 x3 x4 x5 σ h
    rw [f_X8_isUneven_37] at h
    cases h
  | succ n ih =>
    intro x2 x3 x4 x5 σ h
    rw [f_X8_isUneven_37] at h
    refine r_iload X dX8_isUneven_37 5 rfl ?_
    refine r_aload_n X dX8_isUneven_39 rfl 0 rfl ?_
    refine gf_X8_89 X dX8_isUneven_40 h (fun v7 h => ?_)
    refine r_icmp_ge X 178 dX8_isUneven_43 (by decide) h (fun g8 h => ?_) (fun g8 h => ?_)
    · refine r_sub [2] rfl ?_
      exact kx x2 σ h
    · refine r_aload_n X dX8_isUneven_46 rfl 0 rfl ?_
      refine gf_X8_36 X dX8_isUneven_47 ?_
      refine r_iload X dX8_isUneven_50 5 rfl ?_
      refine al_43 X dX8_isUneven_52 h (fun v9 h => ?_)
      refine r_sipush X 1000 dX8_isUneven_53 (by decide) ?_
      refine r_icmp_ge X 164 dX8_isUneven_56 (by decide) h (fun g10 h => ?_) (fun g10 h => ?_)
      · refine r_aload_n X dX8_isUneven_164 rfl 0 rfl ?_
        refine r_iload_n X dX8_isUneven_165 rfl 1 rfl ?_
        refine r_iload X dX8_isUneven_166 5 rfl ?_
        refine r_iconst X 1 dX8_isUneven_168 (by decide) ?_
        refine r_iadd X dX8_isUneven_169 ?_
        refine r_callV X 35 8 (by decide) rfl rfl rfl lk_X8_125 (c_X8_nextKid (zl z) X.2.2.2.2.2.2.2.1 N (zD z) (zy z) (zA z) (zS z) x1 (x5 + 1) σ) ⟨Nat.le_trans (by decide) hR.1, Nat.le_trans (by decide) hR.2⟩ rfl rfl (Nat.le_of_ble_eq_true rfl) dX8_isUneven_170 h (fun v11 σ12 h => ?_)
        refine r_istore X [(5, .int v11), (0, .ref (zA z 35)), (1, .int x1), (2, .int x2), (3, .int x3), (4, .int x4)] dX8_isUneven_173 (by decide) rfl ?_
        refine r_goto X 37 dX8_isUneven_175 (by decide) ?_
        refine r_sub [1, 2, 3, 4, 5, 0] rfl ?_
        exact ih x2 x3 x4 v11 σ12 h
      · refine r_aload_n X dX8_isUneven_59 rfl 0 rfl ?_
        refine r_aload_n X dX8_isUneven_60 rfl 0 rfl ?_
        refine gf_X8_36 X dX8_isUneven_61 ?_
        refine r_iload X dX8_isUneven_64 5 rfl ?_
        refine al_43 X dX8_isUneven_66 h (fun v13 h => ?_)
        refine r_bipush X 7 dX8_isUneven_67 (by decide) ?_
        refine r_callV X 35 8 (by decide) rfl rfl rfl lk_X8_129 (c_X8_is (zl z) X.2.2.2.2.2.2.2.1 N (zD z) (zy z) (zA z) (zS z) v13 7 σ) ⟨Nat.le_trans (by decide) hR.1, Nat.le_trans (by decide) hR.2⟩ rfl rfl (Nat.le_of_ble_eq_true rfl) dX8_isUneven_69 h (fun v14 σ15 h => ?_)
        refine r_if_eq X 164 dX8_isUneven_72 (by decide) h (fun g16 h => ?_) (fun g16 h => ?_)
        · refine r_aload_n X dX8_isUneven_164 rfl 0 rfl ?_
          refine r_iload_n X dX8_isUneven_165 rfl 1 rfl ?_
          refine r_iload X dX8_isUneven_166 5 rfl ?_
          refine r_iconst X 1 dX8_isUneven_168 (by decide) ?_
          refine r_iadd X dX8_isUneven_169 ?_
          refine r_callV X 35 8 (by decide) rfl rfl rfl lk_X8_125 (c_X8_nextKid (zl z) X.2.2.2.2.2.2.2.1 N (zD z) (zy z) (zA z) (zS z) x1 (x5 + 1) σ15) ⟨Nat.le_trans (by decide) hR.1, Nat.le_trans (by decide) hR.2⟩ rfl rfl (Nat.le_of_ble_eq_true rfl) dX8_isUneven_170 h (fun v17 σ18 h => ?_)
          refine r_istore X [(5, .int v17), (0, .ref (zA z 35)), (1, .int x1), (2, .int x2), (3, .int x3), (4, .int x4)] dX8_isUneven_173 (by decide) rfl ?_
          refine r_goto X 37 dX8_isUneven_175 (by decide) ?_
          refine r_sub [1, 2, 3, 4, 5, 0] rfl ?_
          exact ih x2 x3 x4 v17 σ18 h
        · refine r_aload_n X dX8_isUneven_75 rfl 0 rfl ?_
          refine r_aload_n X dX8_isUneven_76 rfl 0 rfl ?_
          refine gf_X8_36 X dX8_isUneven_77 ?_
          refine r_iload X dX8_isUneven_80 5 rfl ?_
          refine al_43 X dX8_isUneven_82 h (fun v19 h => ?_)
          refine r_iload_n X dX8_isUneven_83 rfl 3 rfl ?_
          refine r_callV X 35 8 (by decide) rfl rfl rfl lk_X8_154 (c_X8_lay (zl z) X.2.2.2.2.2.2.2.1 N (zD z) (zy z) (zA z) (zS z) v19 x3 σ15) ⟨Nat.le_trans (by decide) hR.1, Nat.le_trans (by decide) hR.2⟩ rfl rfl (Nat.le_of_ble_eq_true rfl) dX8_isUneven_84 h (fun v20 σ21 h => ?_)
          refine r_istore X [(6, .int v20), (0, .ref (zA z 35)), (1, .int x1), (2, .int x2), (3, .int x3), (4, .int x4), (5, .int x5)] dX8_isUneven_87 (by decide) rfl ?_
          refine r_iconst X 0 dX8_isUneven_89 (by decide) ?_
          refine r_istore X [(7, .int 0), (6, .int v20), (0, .ref (zA z 35)), (1, .int x1), (2, .int x2), (3, .int x3), (4, .int x4), (5, .int x5)] dX8_isUneven_90 (by decide) rfl ?_
          refine r_iconst X 0 dX8_isUneven_92 (by decide) ?_
          refine r_istore X [(8, .int 0), (7, .int 0), (6, .int v20), (0, .ref (zA z 35)), (1, .int x1), (2, .int x2), (3, .int x3), (4, .int x4), (5, .int x5)] dX8_isUneven_93 (by decide) rfl ?_
          refine r_sub [3, 4, 5, 6, 7, 8, 2, 1, 0] rfl ?_
          refine w_X8_isUneven_95 X hR N x1 x2 x3 x4 x5 v20 _ (fun v28 σ29 h => ?_) N 0 0 σ21 h
          refine r_iload_n X dX8_isUneven_131 rfl 2 rfl ?_
          refine r_if_ne X 151 dX8_isUneven_132 (by decide) h (fun g30 h => ?_) (fun g30 h => ?_)
          · refine r_iload X dX8_isUneven_135 6 rfl ?_
            refine r_if_ne X 151 dX8_isUneven_137 (by decide) h (fun g34 h => ?_) (fun g34 h => ?_)
            · refine r_iload_n X dX8_isUneven_140 rfl 3 rfl ?_
              refine r_if_le X 155 dX8_isUneven_141 (by decide) h (fun g38 h => ?_) (fun g38 h => ?_)
              · refine r_iconst X 0 dX8_isUneven_155 (by decide) ?_
                refine r_istore_n X [(2, .int 0), (0, .ref (zA z 35)), (1, .int x1), (3, .int x3), (4, .int x4), (5, .int x5), (6, .int v20), (7, .int v28)] dX8_isUneven_156 rfl (by decide) rfl ?_
                refine r_iload X dX8_isUneven_157 7 rfl ?_
                refine r_istore X [(4, .int v28), (2, .int 0), (0, .ref (zA z 35)), (1, .int x1), (3, .int x3), (5, .int x5), (6, .int v20), (7, .int v28)] dX8_isUneven_159 (by decide) rfl ?_
                refine r_iinc X 1 (fun v39 => [(3, .int v39), (4, .int v28), (2, .int 0), (0, .ref (zA z 35)), (1, .int x1), (5, .int x5), (6, .int v20), (7, .int v28)]) dX8_isUneven_161 4 rfl (by decide) (by decide) (fun _ => rfl) h (fun v39 h => ?_)
                refine r_aload_n X dX8_isUneven_164 rfl 3 rfl ?_
                refine r_iload_n X dX8_isUneven_165 rfl 4 rfl ?_
                refine r_iload X dX8_isUneven_166 5 rfl ?_
                refine r_iconst X 1 dX8_isUneven_168 (by decide) ?_
                refine r_iadd X dX8_isUneven_169 ?_
                refine r_callV X 35 8 (by decide) rfl rfl rfl lk_X8_125 (c_X8_nextKid (zl z) X.2.2.2.2.2.2.2.1 N (zD z) (zy z) (zA z) (zS z) x1 (x5 + 1) σ29) ⟨Nat.le_trans (by decide) hR.1, Nat.le_trans (by decide) hR.2⟩ rfl rfl (Nat.le_of_ble_eq_true rfl) dX8_isUneven_170 h (fun v40 σ41 h => ?_)
                refine r_istore X [(5, .int v40), (3, .int v39), (4, .int v28), (2, .int 0), (0, .ref (zA z 35)), (1, .int x1), (6, .int v20), (7, .int v28)] dX8_isUneven_173 (by decide) rfl ?_
                refine r_goto X 37 dX8_isUneven_175 (by decide) ?_
                refine r_sub [4, 5, 3, 1, 2, 0] rfl ?_
                exact ih 0 v39 v28 v40 σ41 h
              · refine r_iload X dX8_isUneven_144 7 rfl ?_
                refine r_iload X dX8_isUneven_146 4 rfl ?_
                refine r_icmp_eq X 155 dX8_isUneven_148 (by decide) h (fun g42 h => ?_) (fun g42 h => ?_)
                · refine r_iconst X 0 dX8_isUneven_155 (by decide) ?_
                  refine r_istore_n X [(2, .int 0), (0, .ref (zA z 35)), (1, .int x1), (3, .int x3), (4, .int x4), (5, .int x5), (6, .int v20), (7, .int v28)] dX8_isUneven_156 rfl (by decide) rfl ?_
                  refine r_iload X dX8_isUneven_157 7 rfl ?_
                  refine r_istore X [(4, .int v28), (2, .int 0), (0, .ref (zA z 35)), (1, .int x1), (3, .int x3), (5, .int x5), (6, .int v20), (7, .int v28)] dX8_isUneven_159 (by decide) rfl ?_
                  refine r_iinc X 1 (fun v43 => [(3, .int v43), (4, .int v28), (2, .int 0), (0, .ref (zA z 35)), (1, .int x1), (5, .int x5), (6, .int v20), (7, .int v28)]) dX8_isUneven_161 4 rfl (by decide) (by decide) (fun _ => rfl) h (fun v43 h => ?_)
                  refine r_aload_n X dX8_isUneven_164 rfl 3 rfl ?_
                  refine r_iload_n X dX8_isUneven_165 rfl 4 rfl ?_
                  refine r_iload X dX8_isUneven_166 5 rfl ?_
                  refine r_iconst X 1 dX8_isUneven_168 (by decide) ?_
                  refine r_iadd X dX8_isUneven_169 ?_
                  refine r_callV X 35 8 (by decide) rfl rfl rfl lk_X8_125 (c_X8_nextKid (zl z) X.2.2.2.2.2.2.2.1 N (zD z) (zy z) (zA z) (zS z) x1 (x5 + 1) σ29) ⟨Nat.le_trans (by decide) hR.1, Nat.le_trans (by decide) hR.2⟩ rfl rfl (Nat.le_of_ble_eq_true rfl) dX8_isUneven_170 h (fun v44 σ45 h => ?_)
                  refine r_istore X [(5, .int v44), (3, .int v43), (4, .int v28), (2, .int 0), (0, .ref (zA z 35)), (1, .int x1), (6, .int v20), (7, .int v28)] dX8_isUneven_173 (by decide) rfl ?_
                  refine r_goto X 37 dX8_isUneven_175 (by decide) ?_
                  refine r_sub [4, 5, 3, 1, 2, 0] rfl ?_
                  exact ih 0 v43 v28 v44 σ45 h
                · refine r_iconst X 1 dX8_isUneven_151 (by decide) ?_
                  refine r_goto X 156 dX8_isUneven_152 (by decide) ?_
                  refine r_istore_n X [(2, .int 1), (0, .ref (zA z 35)), (1, .int x1), (3, .int x3), (4, .int x4), (5, .int x5), (6, .int v20), (7, .int v28)] dX8_isUneven_156 rfl (by decide) rfl ?_
                  refine r_iload X dX8_isUneven_157 7 rfl ?_
                  refine r_istore X [(4, .int v28), (2, .int 1), (0, .ref (zA z 35)), (1, .int x1), (3, .int x3), (5, .int x5), (6, .int v20), (7, .int v28)] dX8_isUneven_159 (by decide) rfl ?_
                  refine r_iinc X 1 (fun v46 => [(3, .int v46), (4, .int v28), (2, .int 1), (0, .ref (zA z 35)), (1, .int x1), (5, .int x5), (6, .int v20), (7, .int v28)]) dX8_isUneven_161 4 rfl (by decide) (by decide) (fun _ => rfl) h (fun v46 h => ?_)
                  refine r_aload_n X dX8_isUneven_164 rfl 3 rfl ?_
                  refine r_iload_n X dX8_isUneven_165 rfl 4 rfl ?_
                  refine r_iload X dX8_isUneven_166 5 rfl ?_
                  refine r_iconst X 1 dX8_isUneven_168 (by decide) ?_
                  refine r_iadd X dX8_isUneven_169 ?_
                  refine r_callV X 35 8 (by decide) rfl rfl rfl lk_X8_125 (c_X8_nextKid (zl z) X.2.2.2.2.2.2.2.1 N (zD z) (zy z) (zA z) (zS z) x1 (x5 + 1) σ29) ⟨Nat.le_trans (by decide) hR.1, Nat.le_trans (by decide) hR.2⟩ rfl rfl (Nat.le_of_ble_eq_true rfl) dX8_isUneven_170 h (fun v47 σ48 h => ?_)
                  refine r_istore X [(5, .int v47), (3, .int v46), (4, .int v28), (2, .int 1), (0, .ref (zA z 35)), (1, .int x1), (6, .int v20), (7, .int v28)] dX8_isUneven_173 (by decide) rfl ?_
                  refine r_goto X 37 dX8_isUneven_175 (by decide) ?_
                  refine r_sub [4, 5, 3, 1, 2, 0] rfl ?_
                  exact ih 1 v46 v28 v47 σ48 h
            · refine r_iconst X 1 dX8_isUneven_151 (by decide) ?_
              refine r_goto X 156 dX8_isUneven_152 (by decide) ?_
              refine r_istore_n X [(2, .int 1), (0, .ref (zA z 35)), (1, .int x1), (3, .int x3), (4, .int x4), (5, .int x5), (6, .int v20), (7, .int v28)] dX8_isUneven_156 rfl (by decide) rfl ?_
              refine r_iload X dX8_isUneven_157 7 rfl ?_
              refine r_istore X [(4, .int v28), (2, .int 1), (0, .ref (zA z 35)), (1, .int x1), (3, .int x3), (5, .int x5), (6, .int v20), (7, .int v28)] dX8_isUneven_159 (by decide) rfl ?_
              refine r_iinc X 1 (fun v35 => [(3, .int v35), (4, .int v28), (2, .int 1), (0, .ref (zA z 35)), (1, .int x1), (5, .int x5), (6, .int v20), (7, .int v28)]) dX8_isUneven_161 4 rfl (by decide) (by decide) (fun _ => rfl) h (fun v35 h => ?_)
              refine r_aload_n X dX8_isUneven_164 rfl 3 rfl ?_
              refine r_iload_n X dX8_isUneven_165 rfl 4 rfl ?_
              refine r_iload X dX8_isUneven_166 5 rfl ?_
              refine r_iconst X 1 dX8_isUneven_168 (by decide) ?_
              refine r_iadd X dX8_isUneven_169 ?_
              refine r_callV X 35 8 (by decide) rfl rfl rfl lk_X8_125 (c_X8_nextKid (zl z) X.2.2.2.2.2.2.2.1 N (zD z) (zy z) (zA z) (zS z) x1 (x5 + 1) σ29) ⟨Nat.le_trans (by decide) hR.1, Nat.le_trans (by decide) hR.2⟩ rfl rfl (Nat.le_of_ble_eq_true rfl) dX8_isUneven_170 h (fun v36 σ37 h => ?_)
              refine r_istore X [(5, .int v36), (3, .int v35), (4, .int v28), (2, .int 1), (0, .ref (zA z 35)), (1, .int x1), (6, .int v20), (7, .int v28)] dX8_isUneven_173 (by decide) rfl ?_
              refine r_goto X 37 dX8_isUneven_175 (by decide) ?_
              refine r_sub [4, 5, 3, 1, 2, 0] rfl ?_
              exact ih 1 v35 v28 v36 σ37 h
          · refine r_iconst X 1 dX8_isUneven_151 (by decide) ?_
            refine r_goto X 156 dX8_isUneven_152 (by decide) ?_
            refine r_istore_n X [(2, .int 1), (0, .ref (zA z 35)), (1, .int x1), (3, .int x3), (4, .int x4), (5, .int x5), (6, .int v20), (7, .int v28)] dX8_isUneven_156 rfl (by decide) rfl ?_
            refine r_iload X dX8_isUneven_157 7 rfl ?_
            refine r_istore X [(4, .int v28), (2, .int 1), (0, .ref (zA z 35)), (1, .int x1), (3, .int x3), (5, .int x5), (6, .int v20), (7, .int v28)] dX8_isUneven_159 (by decide) rfl ?_
            refine r_iinc X 1 (fun v31 => [(3, .int v31), (4, .int v28), (2, .int 1), (0, .ref (zA z 35)), (1, .int x1), (5, .int x5), (6, .int v20), (7, .int v28)]) dX8_isUneven_161 4 rfl (by decide) (by decide) (fun _ => rfl) h (fun v31 h => ?_)
            refine r_aload_n X dX8_isUneven_164 rfl 3 rfl ?_
            refine r_iload_n X dX8_isUneven_165 rfl 4 rfl ?_
            refine r_iload X dX8_isUneven_166 5 rfl ?_
            refine r_iconst X 1 dX8_isUneven_168 (by decide) ?_
            refine r_iadd X dX8_isUneven_169 ?_
            refine r_callV X 35 8 (by decide) rfl rfl rfl lk_X8_125 (c_X8_nextKid (zl z) X.2.2.2.2.2.2.2.1 N (zD z) (zy z) (zA z) (zS z) x1 (x5 + 1) σ29) ⟨Nat.le_trans (by decide) hR.1, Nat.le_trans (by decide) hR.2⟩ rfl rfl (Nat.le_of_ble_eq_true rfl) dX8_isUneven_170 h (fun v32 σ33 h => ?_)
            refine r_istore X [(5, .int v32), (3, .int v31), (4, .int v28), (2, .int 1), (0, .ref (zA z 35)), (1, .int x1), (6, .int v20), (7, .int v28)] dX8_isUneven_173 (by decide) rfl ?_
            refine r_goto X 37 dX8_isUneven_175 (by decide) ?_
            refine r_sub [4, 5, 3, 1, 2, 0] rfl ?_
            exact ih 1 v31 v28 v32 σ33 h
set_option maxHeartbeats 4000000 in
set_option maxRecDepth 100000 in
theorem w_X8_isUneven {z : Cz} (X : Cx z cX8_isUneven 9 RX8) (hR : 4 ≤ (zR z).frames ∧ 92 ≤ (zR z).locals) {res : (Int32 × Sg)} (Rt : RtI z cX8_isUneven 9 .boolean res) (N : Nat) (a1 : Int32) (σ : Sg) (h : f_X8_isUneven N a1 σ = some res) : V z 0 9 0 [(0, .ref (zA z 35)), (1, .int a1)] [] σ := by
  rw [f_X8_isUneven] at h
  refine r_iconst X 0 dX8_isUneven_0 (by decide) ?_
  refine r_istore_n X [(2, .int 0), (0, .ref (zA z 35)), (1, .int a1)] dX8_isUneven_1 rfl (by decide) rfl ?_
  refine r_sub [1, 2, 0] rfl ?_
  refine w_X8_isUneven_2 X hR N a1 _ (fun σ4 h => ?_) N 0 σ h
  refine r_iconst X 0 dX8_isUneven_22 (by decide) ?_
  refine r_istore_n X [(2, .int 0), (0, .ref (zA z 35)), (1, .int a1)] dX8_isUneven_23 rfl (by decide) rfl ?_
  refine r_iconst X 0 dX8_isUneven_24 (by decide) ?_
  refine r_istore_n X [(3, .int 0), (2, .int 0), (0, .ref (zA z 35)), (1, .int a1)] dX8_isUneven_25 rfl (by decide) rfl ?_
  refine r_iconst X 0 dX8_isUneven_26 (by decide) ?_
  refine r_istore X [(4, .int 0), (3, .int 0), (2, .int 0), (0, .ref (zA z 35)), (1, .int a1)] dX8_isUneven_27 (by decide) rfl ?_
  refine r_aload_n X dX8_isUneven_29 rfl 3 rfl ?_
  refine r_iload_n X dX8_isUneven_30 rfl 4 rfl ?_
  refine r_iconst X 0 dX8_isUneven_31 (by decide) ?_
  refine r_callV X 35 8 (by decide) rfl rfl rfl lk_X8_125 (c_X8_nextKid (zl z) X.2.2.2.2.2.2.2.1 N (zD z) (zy z) (zA z) (zS z) a1 0 σ4) ⟨Nat.le_trans (by decide) hR.1, Nat.le_trans (by decide) hR.2⟩ rfl rfl (Nat.le_of_ble_eq_true rfl) dX8_isUneven_32 h (fun v5 σ6 h => ?_)
  refine r_istore X [(5, .int v5), (4, .int 0), (3, .int 0), (2, .int 0), (0, .ref (zA z 35)), (1, .int a1)] dX8_isUneven_35 (by decide) rfl ?_
  refine r_sub [4, 5, 3, 2, 1, 0] rfl ?_
  refine w_X8_isUneven_37 X hR N a1 _ (fun v49 σ50 h => ?_) N 0 0 0 v5 σ6 h
  refine r_iload_n X dX8_isUneven_178 rfl 0 rfl ?_
  exact r_zret Rt dX8_isUneven_179 h
theorem c_X8_isUneven (l : Launch) (hl : l.stackTraces = false) (N : Nat) (D : va_G) (cy : Nat → ClassId) (ad sa : Nat → Nat) (a1 : Int32) (σ : Sg) : CtI l yX8_isUneven cX8_isUneven 9 (some .boolean) 4 92 D cy ad sa [.ref (ad 35), .int a1] σ (f_X8_isUneven N a1 σ) :=
  ct_I hl (by decide +kernel) (Nat.le_of_ble_eq_true rfl) (fun z res e1 e2 e3 e4 e5 e6 X Rt h => by subst e1 e2 e3 e4 e5; exact w_X8_isUneven X ⟨e6.1, e6.2⟩ Rt N a1 σ h)
def f_X8_hasFault (N : Nat) (a1 : Int32) (a2 : Int32) (σ : Sg) : Option (Int32 × Sg) := if a2 = 1 then (rdA 60 (σ 36) a1 (fun v33 => cI (f_X8_standardOf N v33 σ) (fun v34 σ35 => if v34 = (-1) then (some (1, σ35)) else (some (0, σ35))))) else (if a2 = 2 then (cI (f_X8_is N a1 2 σ) (fun v28 σ29 => if v28 = 0 then (some (0, σ29)) else (rdA 60 (σ29 37) a1 (fun v31 => if v31 = 0 then (some (1, σ29)) else (some (0, σ29)))))) else (if a2 = 4 then (cI (f_X8_isPlaced N a1 σ) (fun v25 σ26 => if v25 = 0 then (some (1, σ26)) else (some (0, σ26)))) else (if a2 = 5 then (cI (f_X8_is N a1 6 σ) (fun v19 σ20 => if v19 = 0 then (some (0, σ20)) else (cI (f_X8_isUneven N a1 σ20) (fun v22 σ23 => if v22 = 0 then (some (0, σ23)) else (some (1, σ23)))))) else (if a2 = 6 then (cI (f_X8_is N a1 10 σ) (fun v14 σ15 => if v14 = 0 then (some (0, σ15)) else (rdA 60 (σ15 38) a1 (fun v17 => if v17 = 0 then (some (1, σ15)) else (some (0, σ15)))))) else (if a1 ≤ 0 then (some (0, σ)) else (cI (f_X8_is N a1 10 σ) (fun v7 σ8 => if v7 = 0 then (cI (f_X8_nextKid N a1 0 σ8) (fun v10 σ11 => lt (σ11 35 8) (fun v12 => if v10 = v12 then (some (1, σ11)) else (some (0, σ11))))) else (some (0, σ8)))))))))
set_option maxHeartbeats 4000000 in
set_option maxRecDepth 100000 in
theorem w_X8_hasFault {z : Cz} (X : Cx z cX8_hasFault 3 RX8) (hR : 5 ≤ (zR z).frames ∧ 120 ≤ (zR z).locals) {res : (Int32 × Sg)} (Rt : RtI z cX8_hasFault 3 .boolean res) (N : Nat) (a1 : Int32) (a2 : Int32) (σ : Sg) (h : f_X8_hasFault N a1 a2 σ = some res) : V z 0 3 0 [(0, .ref (zA z 35)), (1, .int a1), (2, .int a2)] [] σ := by
  rw [f_X8_hasFault] at h
  refine r_iload_n X dX8_hasFault_0 rfl 2 rfl ?_
  refine r_iconst X 1 dX8_hasFault_1 (by decide) ?_
  refine r_icmp_ne X 25 dX8_hasFault_2 (by decide) h (fun g1 h => ?_) (fun g1 h => ?_)
  · refine r_aload_n X dX8_hasFault_5 rfl 0 rfl ?_
    refine r_aload_n X dX8_hasFault_6 rfl 0 rfl ?_
    refine gf_X8_13 X dX8_hasFault_7 ?_
    refine r_iload_n X dX8_hasFault_10 rfl 1 rfl ?_
    refine al_36 X dX8_hasFault_11 h (fun v33 h => ?_)
    refine r_callV X 35 8 (by decide) rfl rfl rfl lk_X8_115 (c_X8_standardOf (zl z) X.2.2.2.2.2.2.2.1 N (zD z) (zy z) (zA z) (zS z) v33 σ) ⟨Nat.le_trans (by decide) hR.1, Nat.le_trans (by decide) hR.2⟩ rfl rfl (Nat.le_of_ble_eq_true rfl) dX8_hasFault_12 h (fun v34 σ35 h => ?_)
    refine r_iconst X (-1) dX8_hasFault_15 (by decide) ?_
    refine r_icmp_ne X 23 dX8_hasFault_16 (by decide) h (fun g36 h => ?_) (fun g36 h => ?_)
    · refine r_iconst X 1 dX8_hasFault_19 (by decide) ?_
      refine r_goto X 24 dX8_hasFault_20 (by decide) ?_
      exact r_zretC Rt dX8_hasFault_24 (by decide) h
    · refine r_iconst X 0 dX8_hasFault_23 (by decide) ?_
      exact r_zretC Rt dX8_hasFault_24 (by decide) h
  · refine r_iload_n X dX8_hasFault_25 rfl 2 rfl ?_
    refine r_iconst X 2 dX8_hasFault_26 (by decide) ?_
    refine r_icmp_ne X 54 dX8_hasFault_27 (by decide) h (fun g2 h => ?_) (fun g2 h => ?_)
    · refine r_aload_n X dX8_hasFault_30 rfl 0 rfl ?_
      refine r_iload_n X dX8_hasFault_31 rfl 1 rfl ?_
      refine r_iconst X 2 dX8_hasFault_32 (by decide) ?_
      refine r_callV X 35 8 (by decide) rfl rfl rfl lk_X8_129 (c_X8_is (zl z) X.2.2.2.2.2.2.2.1 N (zD z) (zy z) (zA z) (zS z) a1 2 σ) ⟨Nat.le_trans (by decide) hR.1, Nat.le_trans (by decide) hR.2⟩ rfl rfl (Nat.le_of_ble_eq_true rfl) dX8_hasFault_33 h (fun v28 σ29 h => ?_)
      refine r_if_eq X 52 dX8_hasFault_36 (by decide) h (fun g30 h => ?_) (fun g30 h => ?_)
      · refine r_iconst X 0 dX8_hasFault_52 (by decide) ?_
        exact r_zretC Rt dX8_hasFault_53 (by decide) h
      · refine r_aload_n X dX8_hasFault_39 rfl 0 rfl ?_
        refine gf_X8_17 X dX8_hasFault_40 ?_
        refine r_iload_n X dX8_hasFault_43 rfl 1 rfl ?_
        refine al_37 X dX8_hasFault_44 h (fun v31 h => ?_)
        refine r_if_ne X 52 dX8_hasFault_45 (by decide) h (fun g32 h => ?_) (fun g32 h => ?_)
        · refine r_iconst X 1 dX8_hasFault_48 (by decide) ?_
          refine r_goto X 53 dX8_hasFault_49 (by decide) ?_
          exact r_zretC Rt dX8_hasFault_53 (by decide) h
        · refine r_iconst X 0 dX8_hasFault_52 (by decide) ?_
          exact r_zretC Rt dX8_hasFault_53 (by decide) h
    · refine r_iload_n X dX8_hasFault_54 rfl 2 rfl ?_
      refine r_iconst X 4 dX8_hasFault_55 (by decide) ?_
      refine r_icmp_ne X 73 dX8_hasFault_56 (by decide) h (fun g3 h => ?_) (fun g3 h => ?_)
      · refine r_aload_n X dX8_hasFault_59 rfl 0 rfl ?_
        refine r_iload_n X dX8_hasFault_60 rfl 1 rfl ?_
        refine r_callV X 35 8 (by decide) rfl rfl rfl lk_X8_157 (c_X8_isPlaced (zl z) X.2.2.2.2.2.2.2.1 N (zD z) (zy z) (zA z) (zS z) a1 σ) ⟨Nat.le_trans (by decide) hR.1, Nat.le_trans (by decide) hR.2⟩ rfl rfl (Nat.le_of_ble_eq_true rfl) dX8_hasFault_61 h (fun v25 σ26 h => ?_)
        refine r_if_ne X 71 dX8_hasFault_64 (by decide) h (fun g27 h => ?_) (fun g27 h => ?_)
        · refine r_iconst X 1 dX8_hasFault_67 (by decide) ?_
          refine r_goto X 72 dX8_hasFault_68 (by decide) ?_
          exact r_zretC Rt dX8_hasFault_72 (by decide) h
        · refine r_iconst X 0 dX8_hasFault_71 (by decide) ?_
          exact r_zretC Rt dX8_hasFault_72 (by decide) h
      · refine r_iload_n X dX8_hasFault_73 rfl 2 rfl ?_
        refine r_iconst X 5 dX8_hasFault_74 (by decide) ?_
        refine r_icmp_ne X 102 dX8_hasFault_75 (by decide) h (fun g4 h => ?_) (fun g4 h => ?_)
        · refine r_aload_n X dX8_hasFault_78 rfl 0 rfl ?_
          refine r_iload_n X dX8_hasFault_79 rfl 1 rfl ?_
          refine r_bipush X 6 dX8_hasFault_80 (by decide) ?_
          refine r_callV X 35 8 (by decide) rfl rfl rfl lk_X8_129 (c_X8_is (zl z) X.2.2.2.2.2.2.2.1 N (zD z) (zy z) (zA z) (zS z) a1 6 σ) ⟨Nat.le_trans (by decide) hR.1, Nat.le_trans (by decide) hR.2⟩ rfl rfl (Nat.le_of_ble_eq_true rfl) dX8_hasFault_82 h (fun v19 σ20 h => ?_)
          refine r_if_eq X 100 dX8_hasFault_85 (by decide) h (fun g21 h => ?_) (fun g21 h => ?_)
          · refine r_iconst X 0 dX8_hasFault_100 (by decide) ?_
            exact r_zretC Rt dX8_hasFault_101 (by decide) h
          · refine r_aload_n X dX8_hasFault_88 rfl 0 rfl ?_
            refine r_iload_n X dX8_hasFault_89 rfl 1 rfl ?_
            refine r_callV X 35 8 (by decide) rfl rfl rfl lk_X8_160 (c_X8_isUneven (zl z) X.2.2.2.2.2.2.2.1 N (zD z) (zy z) (zA z) (zS z) a1 σ20) ⟨Nat.le_trans (by decide) hR.1, Nat.le_trans (by decide) hR.2⟩ rfl rfl (Nat.le_of_ble_eq_true rfl) dX8_hasFault_90 h (fun v22 σ23 h => ?_)
            refine r_if_eq X 100 dX8_hasFault_93 (by decide) h (fun g24 h => ?_) (fun g24 h => ?_)
            · refine r_iconst X 0 dX8_hasFault_100 (by decide) ?_
              exact r_zretC Rt dX8_hasFault_101 (by decide) h
            · refine r_iconst X 1 dX8_hasFault_96 (by decide) ?_
              refine r_goto X 101 dX8_hasFault_97 (by decide) ?_
              exact r_zretC Rt dX8_hasFault_101 (by decide) h
        · refine r_iload_n X dX8_hasFault_102 rfl 2 rfl ?_
          refine r_bipush X 6 dX8_hasFault_103 (by decide) ?_
          refine r_icmp_ne X 133 dX8_hasFault_105 (by decide) h (fun g5 h => ?_) (fun g5 h => ?_)
          · refine r_aload_n X dX8_hasFault_108 rfl 0 rfl ?_
            refine r_iload_n X dX8_hasFault_109 rfl 1 rfl ?_
            refine r_bipush X 10 dX8_hasFault_110 (by decide) ?_
            refine r_callV X 35 8 (by decide) rfl rfl rfl lk_X8_129 (c_X8_is (zl z) X.2.2.2.2.2.2.2.1 N (zD z) (zy z) (zA z) (zS z) a1 10 σ) ⟨Nat.le_trans (by decide) hR.1, Nat.le_trans (by decide) hR.2⟩ rfl rfl (Nat.le_of_ble_eq_true rfl) dX8_hasFault_112 h (fun v14 σ15 h => ?_)
            refine r_if_eq X 131 dX8_hasFault_115 (by decide) h (fun g16 h => ?_) (fun g16 h => ?_)
            · refine r_iconst X 0 dX8_hasFault_131 (by decide) ?_
              exact r_zretC Rt dX8_hasFault_132 (by decide) h
            · refine r_aload_n X dX8_hasFault_118 rfl 0 rfl ?_
              refine gf_X8_20 X dX8_hasFault_119 ?_
              refine r_iload_n X dX8_hasFault_122 rfl 1 rfl ?_
              refine al_38 X dX8_hasFault_123 h (fun v17 h => ?_)
              refine r_if_ne X 131 dX8_hasFault_124 (by decide) h (fun g18 h => ?_) (fun g18 h => ?_)
              · refine r_iconst X 1 dX8_hasFault_127 (by decide) ?_
                refine r_goto X 132 dX8_hasFault_128 (by decide) ?_
                exact r_zretC Rt dX8_hasFault_132 (by decide) h
              · refine r_iconst X 0 dX8_hasFault_131 (by decide) ?_
                exact r_zretC Rt dX8_hasFault_132 (by decide) h
          · refine r_iload_n X dX8_hasFault_133 rfl 1 rfl ?_
            refine r_if_le X 164 dX8_hasFault_134 (by decide) h (fun g6 h => ?_) (fun g6 h => ?_)
            · refine r_iconst X 0 dX8_hasFault_164 (by decide) ?_
              exact r_zretC Rt dX8_hasFault_165 (by decide) h
            · refine r_aload_n X dX8_hasFault_137 rfl 0 rfl ?_
              refine r_iload_n X dX8_hasFault_138 rfl 1 rfl ?_
              refine r_bipush X 10 dX8_hasFault_139 (by decide) ?_
              refine r_callV X 35 8 (by decide) rfl rfl rfl lk_X8_129 (c_X8_is (zl z) X.2.2.2.2.2.2.2.1 N (zD z) (zy z) (zA z) (zS z) a1 10 σ) ⟨Nat.le_trans (by decide) hR.1, Nat.le_trans (by decide) hR.2⟩ rfl rfl (Nat.le_of_ble_eq_true rfl) dX8_hasFault_141 h (fun v7 σ8 h => ?_)
              refine r_if_ne X 164 dX8_hasFault_144 (by decide) h (fun g9 h => ?_) (fun g9 h => ?_)
              · refine r_aload_n X dX8_hasFault_147 rfl 0 rfl ?_
                refine r_iload_n X dX8_hasFault_148 rfl 1 rfl ?_
                refine r_iconst X 0 dX8_hasFault_149 (by decide) ?_
                refine r_callV X 35 8 (by decide) rfl rfl rfl lk_X8_125 (c_X8_nextKid (zl z) X.2.2.2.2.2.2.2.1 N (zD z) (zy z) (zA z) (zS z) a1 0 σ8) ⟨Nat.le_trans (by decide) hR.1, Nat.le_trans (by decide) hR.2⟩ rfl rfl (Nat.le_of_ble_eq_true rfl) dX8_hasFault_150 h (fun v10 σ11 h => ?_)
                refine r_aload_n X dX8_hasFault_153 rfl 0 rfl ?_
                refine gf_X8_89 X dX8_hasFault_154 h (fun v12 h => ?_)
                refine r_icmp_ne X 164 dX8_hasFault_157 (by decide) h (fun g13 h => ?_) (fun g13 h => ?_)
                · refine r_iconst X 1 dX8_hasFault_160 (by decide) ?_
                  refine r_goto X 165 dX8_hasFault_161 (by decide) ?_
                  exact r_zretC Rt dX8_hasFault_165 (by decide) h
                · refine r_iconst X 0 dX8_hasFault_164 (by decide) ?_
                  exact r_zretC Rt dX8_hasFault_165 (by decide) h
              · refine r_iconst X 0 dX8_hasFault_164 (by decide) ?_
                exact r_zretC Rt dX8_hasFault_165 (by decide) h
theorem c_X8_hasFault (l : Launch) (hl : l.stackTraces = false) (N : Nat) (D : va_G) (cy : Nat → ClassId) (ad sa : Nat → Nat) (a1 : Int32) (a2 : Int32) (σ : Sg) : CtI l yX8_hasFault cX8_hasFault 3 (some .boolean) 5 120 D cy ad sa [.ref (ad 35), .int a1, .int a2] σ (f_X8_hasFault N a1 a2 σ) :=
  ct_I hl (by decide +kernel) (Nat.le_of_ble_eq_true rfl) (fun z res e1 e2 e3 e4 e5 e6 X Rt h => by subst e1 e2 e3 e4 e5; exact w_X8_hasFault X ⟨e6.1, e6.2⟩ Rt N a1 a2 σ h)
def f_X8_addJumps_4 (N : Nat) (K : Sg → Option (Int32 × Sg)) : Nat → Int32 → Int32 → Sg → Option (Int32 × Sg)
  | 0, _, _, _ => none
  | n + 1, x1, x2, σ => lt (σ 35 22) (fun v1 => if v1 ≤ x2 then (K σ) else (rdA 60 (σ 51) x2 (fun v3 => rdA 60 (σ 37) v3 (fun v4 => if v4 ≤ (x1 + 1) then (lt (x2 + 1) (fun v6 => f_X8_addJumps_4 N K n v4 v6 σ)) else (rdA 60 (σ 51) x2 (fun v7 => cI (f_X8_add N 3 v7 v4 σ) (fun v8 σ9 => lt (x2 + 1) (fun v10 => f_X8_addJumps_4 N K n v4 v10 σ9))))))))
def f_X8_addJumps (N : Nat) (σ : Sg) : Option (Int32 × Sg) := f_X8_addJumps_4 N (fun σ11 => some (0, σ11)) N 0 0 σ
set_option maxHeartbeats 4000000 in
set_option maxRecDepth 100000 in
theorem w_X8_addJumps_4 {z : Cz} (X : Cx z cX8_addJumps 4 RX8) (hR : 1 ≤ (zR z).frames ∧ 23 ≤ (zR z).locals) {res : (Int32 × Sg)} (N : Nat) (K : Sg → Option (Int32 × Sg)) (kx : ∀ (σ : Sg), K σ = some res → V z 0 4 51 [] [] σ) : ∀ (n : Nat) (x1 : Int32) (x2 : Int32) (σ : Sg), f_X8_addJumps_4 N K n x1 x2 σ = some res → V z 0 4 4 [(0, .ref (zA z 35)), (1, .int x1), (2, .int x2)] [] σ := by
  intro n
  induction n with
  | zero =>
    intro x1 x2 σ h
    rw [f_X8_addJumps_4] at h
    cases h
  | succ n ih =>
    intro x1 x2 σ h
    rw [f_X8_addJumps_4] at h
    refine r_iload_n X dX8_addJumps_4 rfl 2 rfl ?_
    refine r_aload_n X dX8_addJumps_5 rfl 0 rfl ?_
    refine gf_X8_132 X dX8_addJumps_6 h (fun v1 h => ?_)
    refine r_icmp_ge X 51 dX8_addJumps_9 (by decide) h (fun g2 h => ?_) (fun g2 h => ?_)
    · refine r_sub [] rfl ?_
      exact kx  σ h
    · refine r_aload_n X dX8_addJumps_12 rfl 0 rfl ?_
      refine gf_X8_17 X dX8_addJumps_13 ?_
      refine r_aload_n X dX8_addJumps_16 rfl 0 rfl ?_
      refine gf_X8_60 X dX8_addJumps_17 ?_
      refine r_iload_n X dX8_addJumps_20 rfl 2 rfl ?_
      refine al_51 X dX8_addJumps_21 h (fun v3 h => ?_)
      refine al_37 X dX8_addJumps_22 h (fun v4 h => ?_)
      refine r_istore_n X [(3, .int v4), (0, .ref (zA z 35)), (1, .int x1), (2, .int x2)] dX8_addJumps_23 rfl (by decide) rfl ?_
      refine r_iload_n X dX8_addJumps_24 rfl 0 rfl ?_
      refine r_iload_n X dX8_addJumps_25 rfl 2 rfl ?_
      refine r_iconst X 1 dX8_addJumps_26 (by decide) ?_
      refine r_iadd X dX8_addJumps_27 ?_
      refine r_icmp_le X 43 dX8_addJumps_28 (by decide) h (fun g5 h => ?_) (fun g5 h => ?_)
      · refine r_iload_n X dX8_addJumps_43 rfl 0 rfl ?_
        refine r_istore_n X [(1, .int v4), (3, .int v4), (0, .ref (zA z 35)), (2, .int x2)] dX8_addJumps_44 rfl (by decide) rfl ?_
        refine r_iinc X 1 (fun v6 => [(2, .int v6), (1, .int v4), (3, .int v4), (0, .ref (zA z 35))]) dX8_addJumps_45 3 rfl (by decide) (by decide) (fun _ => rfl) h (fun v6 h => ?_)
        refine r_goto X 4 dX8_addJumps_48 (by decide) ?_
        refine r_sub [3, 1, 0] rfl ?_
        exact ih v4 v6 σ h
      · refine r_aload_n X dX8_addJumps_31 rfl 1 rfl ?_
        refine r_iconst X 3 dX8_addJumps_32 (by decide) ?_
        refine r_aload_n X dX8_addJumps_33 rfl 1 rfl ?_
        refine gf_X8_60 X dX8_addJumps_34 ?_
        refine r_iload_n X dX8_addJumps_37 rfl 3 rfl ?_
        refine al_51 X dX8_addJumps_38 h (fun v7 h => ?_)
        refine r_iload_n X dX8_addJumps_39 rfl 0 rfl ?_
        refine r_callVv X 35 8 (by decide) rfl rfl rfl lk_X8_163 (c_X8_add (zl z) X.2.2.2.2.2.2.2.1 N (zD z) (zy z) (zA z) (zS z) 3 v7 v4 σ) ⟨Nat.le_trans (by decide) hR.1, Nat.le_trans (by decide) hR.2⟩ rfl rfl (Nat.le_of_ble_eq_true rfl) dX8_addJumps_40 h (fun v8 σ9 h => ?_)
        refine r_iload_n X dX8_addJumps_43 rfl 0 rfl ?_
        refine r_istore_n X [(1, .int v4), (3, .int v4), (0, .ref (zA z 35)), (2, .int x2)] dX8_addJumps_44 rfl (by decide) rfl ?_
        refine r_iinc X 1 (fun v10 => [(2, .int v10), (1, .int v4), (3, .int v4), (0, .ref (zA z 35))]) dX8_addJumps_45 3 rfl (by decide) (by decide) (fun _ => rfl) h (fun v10 h => ?_)
        refine r_goto X 4 dX8_addJumps_48 (by decide) ?_
        refine r_sub [3, 1, 0] rfl ?_
        exact ih v4 v10 σ9 h
set_option maxHeartbeats 4000000 in
set_option maxRecDepth 100000 in
theorem w_X8_addJumps {z : Cz} (X : Cx z cX8_addJumps 4 RX8) (hR : 1 ≤ (zR z).frames ∧ 23 ≤ (zR z).locals) {res : (Int32 × Sg)} (Rt : RtV z cX8_addJumps 4 res) (N : Nat) (σ : Sg) (h : f_X8_addJumps N σ = some res) : V z 0 4 0 [(0, .ref (zA z 35))] [] σ := by
  rw [f_X8_addJumps] at h
  refine r_iconst X 0 dX8_addJumps_0 (by decide) ?_
  refine r_istore_n X [(1, .int 0), (0, .ref (zA z 35))] dX8_addJumps_1 rfl (by decide) rfl ?_
  refine r_iconst X 0 dX8_addJumps_2 (by decide) ?_
  refine r_istore_n X [(2, .int 0), (1, .int 0), (0, .ref (zA z 35))] dX8_addJumps_3 rfl (by decide) rfl ?_
  refine r_sub [2, 1, 0] rfl ?_
  refine w_X8_addJumps_4 X hR N _ (fun σ11 h => ?_) N 0 0 σ h
  exact r_vret Rt dX8_addJumps_51 h
theorem c_X8_addJumps (l : Launch) (hl : l.stackTraces = false) (N : Nat) (D : va_G) (cy : Nat → ClassId) (ad sa : Nat → Nat) (σ : Sg) : CtV l yX8_addJumps cX8_addJumps 4 1 23 D cy ad sa [.ref (ad 35)] σ (f_X8_addJumps N σ) :=
  ct_V hl (by decide +kernel) (Nat.le_of_ble_eq_true rfl) (fun z res e1 e2 e3 e4 e5 e6 X Rt h => by subst e1 e2 e3 e4 e5; exact w_X8_addJumps X ⟨e6.1, e6.2⟩ Rt N σ h)
def f_X8_addOrder_38 (N : Nat) (x1 : Int32) (x2 : Int32) (K : Int32 → Sg → Option (Int32 × Sg)) : Nat → Int32 → Int32 → Sg → Option (Int32 × Sg)
  | 0, _, _, _ => none
  | n + 1, x3, x4, σ => if x1 ≤ x4 then (K x3 σ) else (rdA 160 (σ 47) x4 (fun v12 => if v12 < 1000 then (lt (x4 + 1) (fun v14 => f_X8_addOrder_38 N x1 x2 K n x3 v14 σ)) else (rdA 160 (σ 47) x4 (fun v15 => if ((v15 - 1000) / 20) = (x2 / 20) then (rdA 160 (σ 47) x4 (fun v18 => cI (f_X8_placeOf N (v18 - 1000) σ) (fun v19 σ20 => if v19 ≤ 0 then (lt (x4 + 1) (fun v22 => f_X8_addOrder_38 N x1 x2 K n x3 v22 σ20)) else (rdA 160 (σ20 47) x4 (fun v23 => cI (f_X8_placeOf N (v23 - 1000) σ20) (fun v24 σ25 => lt (x4 + 1) (fun v26 => f_X8_addOrder_38 N x1 x2 K n v24 v26 σ25))))))) else (lt (x4 + 1) (fun v17 => f_X8_addOrder_38 N x1 x2 K n x3 v17 σ))))))
def f_X8_addOrder_2 (N : Nat) (K : Sg → Option (Int32 × Sg)) : Nat → Int32 → Sg → Option (Int32 × Sg)
  | 0, _, _ => none
  | n + 1, x1, σ => lt (σ 35 17) (fun v1 => if v1 ≤ x1 then (K σ) else (rdA 160 (σ 47) x1 (fun v3 => lt (v3 - 1000) (fun v4 => if v4 < 0 then (lt (x1 + 1) (fun v6 => f_X8_addOrder_2 N K n v6 σ)) else (cI (f_X8_placeOf N v4 σ) (fun v7 σ8 => if v7 ≤ 0 then (lt (x1 + 1) (fun v10 => f_X8_addOrder_2 N K n v10 σ8)) else (f_X8_addOrder_38 N x1 v4 (fun v27 σ28 => cI (f_X8_placeOf N v4 σ28) (fun v29 σ30 => if v27 ≤ v29 then (lt (x1 + 1) (fun v32 => f_X8_addOrder_2 N K n v32 σ30)) else (rdA 160 (σ30 48) x1 (fun v33 => cI (f_X8_add N 10 v33 v4 σ30) (fun v34 σ35 => lt (x1 + 1) (fun v36 => f_X8_addOrder_2 N K n v36 σ35)))))) N 0 0 σ8)))))))
def f_X8_addOrder (N : Nat) (σ : Sg) : Option (Int32 × Sg) := f_X8_addOrder_2 N (fun σ37 => some (0, σ37)) N 0 σ
set_option maxHeartbeats 4000000 in
set_option maxRecDepth 100000 in
theorem w_X8_addOrder_38 {z : Cz} (X : Cx z cX8_addOrder 6 RX8) (hR : 1 ≤ (zR z).frames ∧ 24 ≤ (zR z).locals) {res : (Int32 × Sg)} (N : Nat) (x1 : Int32) (x2 : Int32) (K : Int32 → Sg → Option (Int32 × Sg)) (kx : ∀ (y3 : Int32) (σ : Sg), K y3 σ = some res → V z 0 6 134 [(0, .ref (zA z 35)), (1, .int x1), (2, .int x2), (3, .int y3)] [] σ) : ∀ (n : Nat) (x3 : Int32) (x4 : Int32) (σ : Sg), f_X8_addOrder_38 N x1 x2 K n x3 x4 σ = some res → V z 0 6 38 [(0, .ref (zA z 35)), (1, .int x1), (2, .int x2), (3, .int x3), (4, .int x4)] [] σ := by
  intro n
  induction n with
  | zero =>
    intro x3 x4 σ h
    rw [f_X8_addOrder_38] at h
    cases h
  | succ n ih =>
    intro x3 x4 σ h
    rw [f_X8_addOrder_38] at h
    refine r_iload X dX8_addOrder_38 4 rfl ?_
    refine r_iload_n X dX8_addOrder_40 rfl 1 rfl ?_
    refine r_icmp_ge X 134 dX8_addOrder_41 (by decide) h (fun g11 h => ?_) (fun g11 h => ?_)
    · refine r_sub [0, 1, 2, 3] rfl ?_
      exact kx x3 σ h
    · refine r_aload_n X dX8_addOrder_44 rfl 0 rfl ?_
      refine gf_X8_48 X dX8_addOrder_45 ?_
      refine r_iload X dX8_addOrder_48 4 rfl ?_
      refine al_47 X dX8_addOrder_50 h (fun v12 h => ?_)
      refine r_sipush X 1000 dX8_addOrder_51 (by decide) ?_
      refine r_icmp_lt X 100 dX8_addOrder_54 (by decide) h (fun g13 h => ?_) (fun g13 h => ?_)
      · refine r_iconst X 0 dX8_addOrder_100 (by decide) ?_
        refine r_istore X [(5, .int 0), (0, .ref (zA z 35)), (1, .int x1), (2, .int x2), (3, .int x3), (4, .int x4)] dX8_addOrder_101 (by decide) rfl ?_
        refine r_iload X dX8_addOrder_103 0 rfl ?_
        refine r_if_eq_t X 126 dX8_addOrder_105 (by decide) (by decide) ?_
        refine r_iload_n X dX8_addOrder_126 rfl 4 rfl ?_
        refine r_istore_n X [(3, .int x3), (5, .int 0), (0, .ref (zA z 35)), (1, .int x1), (2, .int x2), (4, .int x4)] dX8_addOrder_127 rfl (by decide) rfl ?_
        refine r_iinc X 1 (fun v14 => [(4, .int v14), (3, .int x3), (5, .int 0), (0, .ref (zA z 35)), (1, .int x1), (2, .int x2)]) dX8_addOrder_128 5 rfl (by decide) (by decide) (fun _ => rfl) h (fun v14 h => ?_)
        refine r_goto X 38 dX8_addOrder_131 (by decide) ?_
        refine r_sub [3, 4, 5, 1, 0] rfl ?_
        exact ih x3 v14 σ h
      · refine r_aload_n X dX8_addOrder_57 rfl 0 rfl ?_
        refine gf_X8_48 X dX8_addOrder_58 ?_
        refine r_iload X dX8_addOrder_61 4 rfl ?_
        refine al_47 X dX8_addOrder_63 h (fun v15 h => ?_)
        refine r_sipush X 1000 dX8_addOrder_64 (by decide) ?_
        refine r_isub X dX8_addOrder_67 ?_
        refine r_bipush X 20 dX8_addOrder_68 (by decide) ?_
        refine r_idiv X dX8_addOrder_70 (by decide) ?_
        refine r_iload_n X dX8_addOrder_71 rfl 2 rfl ?_
        refine r_bipush X 20 dX8_addOrder_72 (by decide) ?_
        refine r_idiv X dX8_addOrder_74 (by decide) ?_
        refine r_icmp_ne X 100 dX8_addOrder_75 (by decide) h (fun g16 h => ?_) (fun g16 h => ?_)
        · refine r_aload_n X dX8_addOrder_78 rfl 0 rfl ?_
          refine r_aload_n X dX8_addOrder_79 rfl 0 rfl ?_
          refine gf_X8_48 X dX8_addOrder_80 ?_
          refine r_iload X dX8_addOrder_83 4 rfl ?_
          refine al_47 X dX8_addOrder_85 h (fun v18 h => ?_)
          refine r_sipush X 1000 dX8_addOrder_86 (by decide) ?_
          refine r_isub X dX8_addOrder_89 ?_
          refine r_callV X 35 8 (by decide) rfl rfl rfl lk_X8_112 (c_X8_placeOf (zl z) X.2.2.2.2.2.2.2.1 N (zD z) (zy z) (zA z) (zS z) (v18 - 1000) σ) ⟨Nat.le_trans (by decide) hR.1, Nat.le_trans (by decide) hR.2⟩ rfl rfl (Nat.le_of_ble_eq_true rfl) dX8_addOrder_90 h (fun v19 σ20 h => ?_)
          refine r_if_le X 100 dX8_addOrder_93 (by decide) h (fun g21 h => ?_) (fun g21 h => ?_)
          · refine r_iconst X 0 dX8_addOrder_100 (by decide) ?_
            refine r_istore X [(5, .int 0), (0, .ref (zA z 35)), (1, .int x1), (2, .int x2), (3, .int x3), (4, .int x4)] dX8_addOrder_101 (by decide) rfl ?_
            refine r_iload X dX8_addOrder_103 0 rfl ?_
            refine r_if_eq_t X 126 dX8_addOrder_105 (by decide) (by decide) ?_
            refine r_iload_n X dX8_addOrder_126 rfl 4 rfl ?_
            refine r_istore_n X [(3, .int x3), (5, .int 0), (0, .ref (zA z 35)), (1, .int x1), (2, .int x2), (4, .int x4)] dX8_addOrder_127 rfl (by decide) rfl ?_
            refine r_iinc X 1 (fun v22 => [(4, .int v22), (3, .int x3), (5, .int 0), (0, .ref (zA z 35)), (1, .int x1), (2, .int x2)]) dX8_addOrder_128 5 rfl (by decide) (by decide) (fun _ => rfl) h (fun v22 h => ?_)
            refine r_goto X 38 dX8_addOrder_131 (by decide) ?_
            refine r_sub [3, 4, 5, 1, 0] rfl ?_
            exact ih x3 v22 σ20 h
          · refine r_iconst X 1 dX8_addOrder_96 (by decide) ?_
            refine r_goto X 101 dX8_addOrder_97 (by decide) ?_
            refine r_istore X [(5, .int 1), (0, .ref (zA z 35)), (1, .int x1), (2, .int x2), (3, .int x3), (4, .int x4)] dX8_addOrder_101 (by decide) rfl ?_
            refine r_iload X dX8_addOrder_103 0 rfl ?_
            refine r_if_eq_f X 126 dX8_addOrder_105 (by decide) (by decide) ?_
            refine r_aload_n X dX8_addOrder_108 rfl 1 rfl ?_
            refine r_aload_n X dX8_addOrder_109 rfl 1 rfl ?_
            refine gf_X8_48 X dX8_addOrder_110 ?_
            refine r_iload X dX8_addOrder_113 5 rfl ?_
            refine al_47 X dX8_addOrder_115 h (fun v23 h => ?_)
            refine r_sipush X 1000 dX8_addOrder_116 (by decide) ?_
            refine r_isub X dX8_addOrder_119 ?_
            refine r_callV X 35 8 (by decide) rfl rfl rfl lk_X8_112 (c_X8_placeOf (zl z) X.2.2.2.2.2.2.2.1 N (zD z) (zy z) (zA z) (zS z) (v23 - 1000) σ20) ⟨Nat.le_trans (by decide) hR.1, Nat.le_trans (by decide) hR.2⟩ rfl rfl (Nat.le_of_ble_eq_true rfl) dX8_addOrder_120 h (fun v24 σ25 h => ?_)
            refine r_goto X 127 dX8_addOrder_123 (by decide) ?_
            refine r_istore_n X [(3, .int v24), (5, .int 1), (0, .ref (zA z 35)), (1, .int x1), (2, .int x2), (4, .int x4)] dX8_addOrder_127 rfl (by decide) rfl ?_
            refine r_iinc X 1 (fun v26 => [(4, .int v26), (3, .int v24), (5, .int 1), (0, .ref (zA z 35)), (1, .int x1), (2, .int x2)]) dX8_addOrder_128 5 rfl (by decide) (by decide) (fun _ => rfl) h (fun v26 h => ?_)
            refine r_goto X 38 dX8_addOrder_131 (by decide) ?_
            refine r_sub [3, 4, 5, 1, 0] rfl ?_
            exact ih v24 v26 σ25 h
        · refine r_iconst X 0 dX8_addOrder_100 (by decide) ?_
          refine r_istore X [(5, .int 0), (0, .ref (zA z 35)), (1, .int x1), (2, .int x2), (3, .int x3), (4, .int x4)] dX8_addOrder_101 (by decide) rfl ?_
          refine r_iload X dX8_addOrder_103 0 rfl ?_
          refine r_if_eq_t X 126 dX8_addOrder_105 (by decide) (by decide) ?_
          refine r_iload_n X dX8_addOrder_126 rfl 4 rfl ?_
          refine r_istore_n X [(3, .int x3), (5, .int 0), (0, .ref (zA z 35)), (1, .int x1), (2, .int x2), (4, .int x4)] dX8_addOrder_127 rfl (by decide) rfl ?_
          refine r_iinc X 1 (fun v17 => [(4, .int v17), (3, .int x3), (5, .int 0), (0, .ref (zA z 35)), (1, .int x1), (2, .int x2)]) dX8_addOrder_128 5 rfl (by decide) (by decide) (fun _ => rfl) h (fun v17 h => ?_)
          refine r_goto X 38 dX8_addOrder_131 (by decide) ?_
          refine r_sub [3, 4, 5, 1, 0] rfl ?_
          exact ih x3 v17 σ h
set_option maxHeartbeats 4000000 in
set_option maxRecDepth 100000 in
theorem w_X8_addOrder_2 {z : Cz} (X : Cx z cX8_addOrder 6 RX8) (hR : 1 ≤ (zR z).frames ∧ 24 ≤ (zR z).locals) {res : (Int32 × Sg)} (N : Nat) (K : Sg → Option (Int32 × Sg)) (kx : ∀ (σ : Sg), K σ = some res → V z 0 6 162 [] [] σ) : ∀ (n : Nat) (x1 : Int32) (σ : Sg), f_X8_addOrder_2 N K n x1 σ = some res → V z 0 6 2 [(0, .ref (zA z 35)), (1, .int x1)] [] σ := by
  intro n
  induction n with
  | zero =>
    intro x1 σ h
    rw [f_X8_addOrder_2] at h
    cases h
  | succ n ih =>
    intro x1 σ h
    rw [f_X8_addOrder_2] at h
    refine r_iload_n X dX8_addOrder_2 rfl 1 rfl ?_
    refine r_aload_n X dX8_addOrder_3 rfl 0 rfl ?_
    refine gf_X8_118 X dX8_addOrder_4 h (fun v1 h => ?_)
    refine r_icmp_ge X 162 dX8_addOrder_7 (by decide) h (fun g2 h => ?_) (fun g2 h => ?_)
    · refine r_sub [] rfl ?_
      exact kx  σ h
    · refine r_aload_n X dX8_addOrder_10 rfl 0 rfl ?_
      refine gf_X8_48 X dX8_addOrder_11 ?_
      refine r_iload_n X dX8_addOrder_14 rfl 1 rfl ?_
      refine al_47 X dX8_addOrder_15 h (fun v3 h => ?_)
      refine r_sipush X 1000 dX8_addOrder_16 (by decide) ?_
      refine r_isub X dX8_addOrder_19 ?_
      refine r_lt h (fun v4 h => ?_)
      refine r_istore_n X [(2, .int v4), (0, .ref (zA z 35)), (1, .int x1)] dX8_addOrder_20 rfl (by decide) rfl ?_
      refine r_iload_n X dX8_addOrder_21 rfl 0 rfl ?_
      refine r_if_lt X 156 dX8_addOrder_22 (by decide) h (fun g5 h => ?_) (fun g5 h => ?_)
      · refine r_iinc X 1 (fun v6 => [(1, .int v6), (2, .int v4), (0, .ref (zA z 35))]) dX8_addOrder_156 2 rfl (by decide) (by decide) (fun _ => rfl) h (fun v6 h => ?_)
        refine r_goto X 2 dX8_addOrder_159 (by decide) ?_
        refine r_sub [2, 0] rfl ?_
        exact ih v6 σ h
      · refine r_aload_n X dX8_addOrder_25 rfl 1 rfl ?_
        refine r_iload_n X dX8_addOrder_26 rfl 0 rfl ?_
        refine r_callV X 35 8 (by decide) rfl rfl rfl lk_X8_112 (c_X8_placeOf (zl z) X.2.2.2.2.2.2.2.1 N (zD z) (zy z) (zA z) (zS z) v4 σ) ⟨Nat.le_trans (by decide) hR.1, Nat.le_trans (by decide) hR.2⟩ rfl rfl (Nat.le_of_ble_eq_true rfl) dX8_addOrder_27 h (fun v7 σ8 h => ?_)
        refine r_if_le X 156 dX8_addOrder_30 (by decide) h (fun g9 h => ?_) (fun g9 h => ?_)
        · refine r_iinc X 1 (fun v10 => [(1, .int v10), (2, .int v4), (0, .ref (zA z 35))]) dX8_addOrder_156 2 rfl (by decide) (by decide) (fun _ => rfl) h (fun v10 h => ?_)
          refine r_goto X 2 dX8_addOrder_159 (by decide) ?_
          refine r_sub [2, 0] rfl ?_
          exact ih v10 σ8 h
        · refine r_iconst X 0 dX8_addOrder_33 (by decide) ?_
          refine r_istore_n X [(3, .int 0), (2, .int v4), (0, .ref (zA z 35)), (1, .int x1)] dX8_addOrder_34 rfl (by decide) rfl ?_
          refine r_iconst X 0 dX8_addOrder_35 (by decide) ?_
          refine r_istore X [(4, .int 0), (3, .int 0), (2, .int v4), (0, .ref (zA z 35)), (1, .int x1)] dX8_addOrder_36 (by decide) rfl ?_
          refine r_sub [3, 4, 2, 1, 0] rfl ?_
          refine w_X8_addOrder_38 X hR N x1 v4 _ (fun v27 σ28 h => ?_) N 0 0 σ8 h
          refine r_aload_n X dX8_addOrder_134 rfl 0 rfl ?_
          refine r_iload_n X dX8_addOrder_135 rfl 2 rfl ?_
          refine r_callV X 35 8 (by decide) rfl rfl rfl lk_X8_112 (c_X8_placeOf (zl z) X.2.2.2.2.2.2.2.1 N (zD z) (zy z) (zA z) (zS z) v4 σ28) ⟨Nat.le_trans (by decide) hR.1, Nat.le_trans (by decide) hR.2⟩ rfl rfl (Nat.le_of_ble_eq_true rfl) dX8_addOrder_136 h (fun v29 σ30 h => ?_)
          refine r_iload_n X dX8_addOrder_139 rfl 3 rfl ?_
          refine r_icmp_ge X 156 dX8_addOrder_140 (by decide) h (fun g31 h => ?_) (fun g31 h => ?_)
          · refine r_iinc X 1 (fun v32 => [(1, .int v32), (0, .ref (zA z 35)), (2, .int v4), (3, .int v27)]) dX8_addOrder_156 1 rfl (by decide) (by decide) (fun _ => rfl) h (fun v32 h => ?_)
            refine r_goto X 2 dX8_addOrder_159 (by decide) ?_
            refine r_sub [1, 0] rfl ?_
            exact ih v32 σ30 h
          · refine r_aload_n X dX8_addOrder_143 rfl 0 rfl ?_
            refine r_bipush X 10 dX8_addOrder_144 (by decide) ?_
            refine r_aload_n X dX8_addOrder_146 rfl 0 rfl ?_
            refine gf_X8_51 X dX8_addOrder_147 ?_
            refine r_iload_n X dX8_addOrder_150 rfl 1 rfl ?_
            refine al_48 X dX8_addOrder_151 h (fun v33 h => ?_)
            refine r_iload_n X dX8_addOrder_152 rfl 2 rfl ?_
            refine r_callVv X 35 8 (by decide) rfl rfl rfl lk_X8_163 (c_X8_add (zl z) X.2.2.2.2.2.2.2.1 N (zD z) (zy z) (zA z) (zS z) 10 v33 v4 σ30) ⟨Nat.le_trans (by decide) hR.1, Nat.le_trans (by decide) hR.2⟩ rfl rfl (Nat.le_of_ble_eq_true rfl) dX8_addOrder_153 h (fun v34 σ35 h => ?_)
            refine r_iinc X 1 (fun v36 => [(1, .int v36), (0, .ref (zA z 35)), (2, .int v4), (3, .int v27)]) dX8_addOrder_156 1 rfl (by decide) (by decide) (fun _ => rfl) h (fun v36 h => ?_)
            refine r_goto X 2 dX8_addOrder_159 (by decide) ?_
            refine r_sub [1, 0] rfl ?_
            exact ih v36 σ35 h
set_option maxHeartbeats 4000000 in
set_option maxRecDepth 100000 in
theorem w_X8_addOrder {z : Cz} (X : Cx z cX8_addOrder 6 RX8) (hR : 1 ≤ (zR z).frames ∧ 24 ≤ (zR z).locals) {res : (Int32 × Sg)} (Rt : RtV z cX8_addOrder 6 res) (N : Nat) (σ : Sg) (h : f_X8_addOrder N σ = some res) : V z 0 6 0 [(0, .ref (zA z 35))] [] σ := by
  rw [f_X8_addOrder] at h
  refine r_iconst X 0 dX8_addOrder_0 (by decide) ?_
  refine r_istore_n X [(1, .int 0), (0, .ref (zA z 35))] dX8_addOrder_1 rfl (by decide) rfl ?_
  refine r_sub [1, 0] rfl ?_
  refine w_X8_addOrder_2 X hR N _ (fun σ37 h => ?_) N 0 σ h
  exact r_vret Rt dX8_addOrder_162 h
theorem c_X8_addOrder (l : Launch) (hl : l.stackTraces = false) (N : Nat) (D : va_G) (cy : Nat → ClassId) (ad sa : Nat → Nat) (σ : Sg) : CtV l yX8_addOrder cX8_addOrder 6 1 24 D cy ad sa [.ref (ad 35)] σ (f_X8_addOrder N σ) :=
  ct_V hl (by decide +kernel) (Nat.le_of_ble_eq_true rfl) (fun z res e1 e2 e3 e4 e5 e6 X Rt h => by subst e1 e2 e3 e4 e5; exact w_X8_addOrder X ⟨e6.1, e6.2⟩ Rt N σ h)
def f_X8_countUntagged_4 (N : Nat) (K : Int32 → Sg → Option (Int32 × Sg)) : Nat → Int32 → Int32 → Sg → Option (Int32 × Sg)
  | 0, _, _, _ => none
  | n + 1, x1, x2, σ => lt (σ 35 15) (fun v1 => if v1 ≤ x2 then (K x1 σ) else (rdA 200 (σ 46) x2 (fun v3 => cI (f_X8_ownerOf N v3 σ) (fun v4 σ5 => if v4 = (-1) then (lt (x1 + 1) (fun v8 => lt (x2 + 1) (fun v9 => f_X8_countUntagged_4 N K n v8 v9 σ5))) else (lt (x2 + 1) (fun v7 => f_X8_countUntagged_4 N K n x1 v7 σ5))))))
def f_X8_countUntagged (N : Nat) (σ : Sg) : Option (Int32 × Sg) := f_X8_countUntagged_4 N (fun v10 σ11 => some (v10, σ11)) N 0 0 σ
set_option maxHeartbeats 4000000 in
set_option maxRecDepth 100000 in
theorem w_X8_countUntagged_4 {z : Cz} (X : Cx z cX8_countUntagged 3 RX8) (hR : 1 ≤ (zR z).frames ∧ 23 ≤ (zR z).locals) {res : (Int32 × Sg)} (N : Nat) (K : Int32 → Sg → Option (Int32 × Sg)) (kx : ∀ (y1 : Int32) (σ : Sg), K y1 σ = some res → V z 0 3 40 [(1, .int y1)] [] σ) : ∀ (n : Nat) (x1 : Int32) (x2 : Int32) (σ : Sg), f_X8_countUntagged_4 N K n x1 x2 σ = some res → V z 0 3 4 [(0, .ref (zA z 35)), (1, .int x1), (2, .int x2)] [] σ := by
  intro n
  induction n with
  | zero =>
    intro x1 x2 σ h
    rw [f_X8_countUntagged_4] at h
    cases h
  | succ n ih =>
    intro x1 x2 σ h
    rw [f_X8_countUntagged_4] at h
    refine r_iload_n X dX8_countUntagged_4 rfl 2 rfl ?_
    refine r_aload_n X dX8_countUntagged_5 rfl 0 rfl ?_
    refine gf_X8_109 X dX8_countUntagged_6 h (fun v1 h => ?_)
    refine r_icmp_ge X 40 dX8_countUntagged_9 (by decide) h (fun g2 h => ?_) (fun g2 h => ?_)
    · refine r_sub [1] rfl ?_
      exact kx x1 σ h
    · refine r_aload_n X dX8_countUntagged_12 rfl 0 rfl ?_
      refine r_aload_n X dX8_countUntagged_13 rfl 0 rfl ?_
      refine gf_X8_45 X dX8_countUntagged_14 ?_
      refine r_iload_n X dX8_countUntagged_17 rfl 2 rfl ?_
      refine al_46 X dX8_countUntagged_18 h (fun v3 h => ?_)
      refine r_callV X 35 8 (by decide) rfl rfl rfl lk_X8_99 (c_X8_ownerOf (zl z) X.2.2.2.2.2.2.2.1 N (zD z) (zy z) (zA z) (zS z) v3 σ) ⟨Nat.le_trans (by decide) hR.1, Nat.le_trans (by decide) hR.2⟩ rfl rfl (Nat.le_of_ble_eq_true rfl) dX8_countUntagged_19 h (fun v4 σ5 h => ?_)
      refine r_iconst X (-1) dX8_countUntagged_22 (by decide) ?_
      refine r_icmp_ne X 32 dX8_countUntagged_23 (by decide) h (fun g6 h => ?_) (fun g6 h => ?_)
      · refine r_iload_n X dX8_countUntagged_26 rfl 1 rfl ?_
        refine r_iconst X 1 dX8_countUntagged_27 (by decide) ?_
        refine r_iadd X dX8_countUntagged_28 ?_
        refine r_goto X 33 dX8_countUntagged_29 (by decide) ?_
        refine r_lt h (fun v8 h => ?_)
        refine r_istore_n X [(1, .int v8), (0, .ref (zA z 35)), (2, .int x2)] dX8_countUntagged_33 rfl (by decide) rfl ?_
        refine r_iinc X 1 (fun v9 => [(2, .int v9), (1, .int v8), (0, .ref (zA z 35))]) dX8_countUntagged_34 2 rfl (by decide) (by decide) (fun _ => rfl) h (fun v9 h => ?_)
        refine r_goto X 4 dX8_countUntagged_37 (by decide) ?_
        refine r_sub [2, 1, 0] rfl ?_
        exact ih v8 v9 σ5 h
      · refine r_iload_n X dX8_countUntagged_32 rfl 1 rfl ?_
        refine r_istore_n X [(1, .int x1), (0, .ref (zA z 35)), (2, .int x2)] dX8_countUntagged_33 rfl (by decide) rfl ?_
        refine r_iinc X 1 (fun v7 => [(2, .int v7), (1, .int x1), (0, .ref (zA z 35))]) dX8_countUntagged_34 2 rfl (by decide) (by decide) (fun _ => rfl) h (fun v7 h => ?_)
        refine r_goto X 4 dX8_countUntagged_37 (by decide) ?_
        refine r_sub [2, 1, 0] rfl ?_
        exact ih x1 v7 σ5 h
set_option maxHeartbeats 4000000 in
set_option maxRecDepth 100000 in
theorem w_X8_countUntagged {z : Cz} (X : Cx z cX8_countUntagged 3 RX8) (hR : 1 ≤ (zR z).frames ∧ 23 ≤ (zR z).locals) {res : (Int32 × Sg)} (Rt : RtI z cX8_countUntagged 3 .int res) (N : Nat) (σ : Sg) (h : f_X8_countUntagged N σ = some res) : V z 0 3 0 [(0, .ref (zA z 35))] [] σ := by
  rw [f_X8_countUntagged] at h
  refine r_iconst X 0 dX8_countUntagged_0 (by decide) ?_
  refine r_istore_n X [(1, .int 0), (0, .ref (zA z 35))] dX8_countUntagged_1 rfl (by decide) rfl ?_
  refine r_iconst X 0 dX8_countUntagged_2 (by decide) ?_
  refine r_istore_n X [(2, .int 0), (1, .int 0), (0, .ref (zA z 35))] dX8_countUntagged_3 rfl (by decide) rfl ?_
  refine r_sub [2, 1, 0] rfl ?_
  refine w_X8_countUntagged_4 X hR N _ (fun v10 σ11 h => ?_) N 0 0 σ h
  refine r_iload_n X dX8_countUntagged_40 rfl 0 rfl ?_
  exact r_iret Rt dX8_countUntagged_41 h
theorem c_X8_countUntagged (l : Launch) (hl : l.stackTraces = false) (N : Nat) (D : va_G) (cy : Nat → ClassId) (ad sa : Nat → Nat) (σ : Sg) : CtI l yX8_countUntagged cX8_countUntagged 3 (some .int) 1 23 D cy ad sa [.ref (ad 35)] σ (f_X8_countUntagged N σ) :=
  ct_I hl (by decide +kernel) (Nat.le_of_ble_eq_true rfl) (fun z res e1 e2 e3 e4 e5 e6 X Rt h => by subst e1 e2 e3 e4 e5; exact w_X8_countUntagged X ⟨e6.1, e6.2⟩ Rt N σ h)
def f_X8_untaggedAt_17 (N : Nat) (x1 : Int32) (x4 : Int32) (K : Int32 → Int32 → Sg → Option (Int32 × Sg)) : Nat → Int32 → Int32 → Int32 → Sg → Option (Int32 × Sg)
  | 0, _, _, _, _ => none
  | n + 1, x2, x3, x5, σ => lt (σ 35 15) (fun v2 => if v2 ≤ x5 then (K x2 x3 σ) else (rdA 200 (σ 46) x5 (fun v4 => if (v4 / 20) = x4 then (rdA 200 (σ 46) x5 (fun v7 => cI (f_X8_ownerOf N v7 σ) (fun v8 σ9 => if v8 = (-1) then (if x2 = x1 then (rdA 200 (σ9 46) x5 (fun v15 => lt (x2 + 1) (fun v16 => lt (x5 + 1) (fun v17 => f_X8_untaggedAt_17 N x1 x4 K n v16 v15 v17 σ9)))) else (lt (x2 + 1) (fun v13 => lt (x5 + 1) (fun v14 => f_X8_untaggedAt_17 N x1 x4 K n v13 x3 v14 σ9)))) else (lt (x5 + 1) (fun v11 => f_X8_untaggedAt_17 N x1 x4 K n x2 x3 v11 σ9))))) else (lt (x5 + 1) (fun v6 => f_X8_untaggedAt_17 N x1 x4 K n x2 x3 v6 σ)))))
def f_X8_untaggedAt_7 (N : Nat) (x1 : Int32) (K : Int32 → Sg → Option (Int32 × Sg)) : Nat → Int32 → Int32 → Int32 → Sg → Option (Int32 × Sg)
  | 0, _, _, _, _ => none
  | n + 1, x2, x3, x4, σ => if 10 ≤ x4 then (K x3 σ) else (f_X8_untaggedAt_17 N x1 x4 (fun v18 v19 σ20 => lt (x4 + 1) (fun v21 => f_X8_untaggedAt_7 N x1 K n v18 v19 v21 σ20)) N x2 x3 0 σ)
def f_X8_untaggedAt (N : Nat) (a1 : Int32) (σ : Sg) : Option (Int32 × Sg) := f_X8_untaggedAt_7 N a1 (fun v22 σ23 => some (v22, σ23)) N 0 (-1) 0 σ
set_option maxHeartbeats 4000000 in
set_option maxRecDepth 100000 in
theorem w_X8_untaggedAt_17 {z : Cz} (X : Cx z cX8_untaggedAt 6 RX8) (hR : 1 ≤ (zR z).frames ∧ 23 ≤ (zR z).locals) {res : (Int32 × Sg)} (N : Nat) (x1 : Int32) (x4 : Int32) (K : Int32 → Int32 → Sg → Option (Int32 × Sg)) (kx : ∀ (y2 : Int32) (y3 : Int32) (σ : Sg), K y2 y3 σ = some res → V z 0 6 82 [(0, .ref (zA z 35)), (1, .int x1), (4, .int x4), (2, .int y2), (3, .int y3)] [] σ) : ∀ (n : Nat) (x2 : Int32) (x3 : Int32) (x5 : Int32) (σ : Sg), f_X8_untaggedAt_17 N x1 x4 K n x2 x3 x5 σ = some res → V z 0 6 17 [(0, .ref (zA z 35)), (1, .int x1), (4, .int x4), (2, .int x2), (3, .int x3), (5, .int x5)] [] σ := by
  intro n
  induction n with
  | zero =>
    intro x2 x3 x5 σ h
    rw [f_X8_untaggedAt_17] at h
    cases h
  | succ n ih =>
    intro x2 x3 x5 σ h
    rw [f_X8_untaggedAt_17] at h
    refine r_iload X dX8_untaggedAt_17 5 rfl ?_
    refine r_aload_n X dX8_untaggedAt_19 rfl 0 rfl ?_
    refine gf_X8_109 X dX8_untaggedAt_20 h (fun v2 h => ?_)
    refine r_icmp_ge X 82 dX8_untaggedAt_23 (by decide) h (fun g3 h => ?_) (fun g3 h => ?_)
    · refine r_sub [0, 1, 2, 3, 4] rfl ?_
      exact kx x2 x3 σ h
    · refine r_aload_n X dX8_untaggedAt_26 rfl 0 rfl ?_
      refine gf_X8_45 X dX8_untaggedAt_27 ?_
      refine r_iload X dX8_untaggedAt_30 5 rfl ?_
      refine al_46 X dX8_untaggedAt_32 h (fun v4 h => ?_)
      refine r_bipush X 20 dX8_untaggedAt_33 (by decide) ?_
      refine r_idiv X dX8_untaggedAt_35 (by decide) ?_
      refine r_iload X dX8_untaggedAt_36 2 rfl ?_
      refine r_icmp_ne X 76 dX8_untaggedAt_38 (by decide) h (fun g5 h => ?_) (fun g5 h => ?_)
      · refine r_aload_n X dX8_untaggedAt_41 rfl 0 rfl ?_
        refine r_aload_n X dX8_untaggedAt_42 rfl 0 rfl ?_
        refine gf_X8_45 X dX8_untaggedAt_43 ?_
        refine r_iload X dX8_untaggedAt_46 5 rfl ?_
        refine al_46 X dX8_untaggedAt_48 h (fun v7 h => ?_)
        refine r_callV X 35 8 (by decide) rfl rfl rfl lk_X8_99 (c_X8_ownerOf (zl z) X.2.2.2.2.2.2.2.1 N (zD z) (zy z) (zA z) (zS z) v7 σ) ⟨Nat.le_trans (by decide) hR.1, Nat.le_trans (by decide) hR.2⟩ rfl rfl (Nat.le_of_ble_eq_true rfl) dX8_untaggedAt_49 h (fun v8 σ9 h => ?_)
        refine r_iconst X (-1) dX8_untaggedAt_52 (by decide) ?_
        refine r_icmp_ne X 76 dX8_untaggedAt_53 (by decide) h (fun g10 h => ?_) (fun g10 h => ?_)
        · refine r_iload_n X dX8_untaggedAt_56 rfl 3 rfl ?_
          refine r_iload_n X dX8_untaggedAt_57 rfl 1 rfl ?_
          refine r_icmp_ne X 71 dX8_untaggedAt_58 (by decide) h (fun g12 h => ?_) (fun g12 h => ?_)
          · refine r_aload_n X dX8_untaggedAt_61 rfl 0 rfl ?_
            refine gf_X8_45 X dX8_untaggedAt_62 ?_
            refine r_iload X dX8_untaggedAt_65 5 rfl ?_
            refine al_46 X dX8_untaggedAt_67 h (fun v15 h => ?_)
            refine r_goto X 72 dX8_untaggedAt_68 (by decide) ?_
            refine r_istore_n X [(3, .int v15), (0, .ref (zA z 35)), (1, .int x1), (4, .int x4), (2, .int x2), (5, .int x5)] dX8_untaggedAt_72 rfl (by decide) rfl ?_
            refine r_iinc X 1 (fun v16 => [(2, .int v16), (3, .int v15), (0, .ref (zA z 35)), (1, .int x1), (4, .int x4), (5, .int x5)]) dX8_untaggedAt_73 4 rfl (by decide) (by decide) (fun _ => rfl) h (fun v16 h => ?_)
            refine r_iinc X 1 (fun v17 => [(5, .int v17), (2, .int v16), (3, .int v15), (0, .ref (zA z 35)), (1, .int x1), (4, .int x4)]) dX8_untaggedAt_76 5 rfl (by decide) (by decide) (fun _ => rfl) h (fun v17 h => ?_)
            refine r_goto X 17 dX8_untaggedAt_79 (by decide) ?_
            refine r_sub [3, 4, 5, 1, 2, 0] rfl ?_
            exact ih v16 v15 v17 σ9 h
          · refine r_iload_n X dX8_untaggedAt_71 rfl 4 rfl ?_
            refine r_istore_n X [(3, .int x3), (0, .ref (zA z 35)), (1, .int x1), (4, .int x4), (2, .int x2), (5, .int x5)] dX8_untaggedAt_72 rfl (by decide) rfl ?_
            refine r_iinc X 1 (fun v13 => [(2, .int v13), (3, .int x3), (0, .ref (zA z 35)), (1, .int x1), (4, .int x4), (5, .int x5)]) dX8_untaggedAt_73 4 rfl (by decide) (by decide) (fun _ => rfl) h (fun v13 h => ?_)
            refine r_iinc X 1 (fun v14 => [(5, .int v14), (2, .int v13), (3, .int x3), (0, .ref (zA z 35)), (1, .int x1), (4, .int x4)]) dX8_untaggedAt_76 5 rfl (by decide) (by decide) (fun _ => rfl) h (fun v14 h => ?_)
            refine r_goto X 17 dX8_untaggedAt_79 (by decide) ?_
            refine r_sub [3, 4, 5, 1, 2, 0] rfl ?_
            exact ih v13 x3 v14 σ9 h
        · refine r_iinc X 1 (fun v11 => [(5, .int v11), (0, .ref (zA z 35)), (1, .int x1), (4, .int x4), (2, .int x2), (3, .int x3)]) dX8_untaggedAt_76 5 rfl (by decide) (by decide) (fun _ => rfl) h (fun v11 h => ?_)
          refine r_goto X 17 dX8_untaggedAt_79 (by decide) ?_
          refine r_sub [1, 2, 3, 4, 5, 0] rfl ?_
          exact ih x2 x3 v11 σ9 h
      · refine r_iinc X 1 (fun v6 => [(5, .int v6), (0, .ref (zA z 35)), (1, .int x1), (4, .int x4), (2, .int x2), (3, .int x3)]) dX8_untaggedAt_76 5 rfl (by decide) (by decide) (fun _ => rfl) h (fun v6 h => ?_)
        refine r_goto X 17 dX8_untaggedAt_79 (by decide) ?_
        refine r_sub [1, 2, 3, 4, 5, 0] rfl ?_
        exact ih x2 x3 v6 σ h
set_option maxHeartbeats 4000000 in
set_option maxRecDepth 100000 in
theorem w_X8_untaggedAt_7 {z : Cz} (X : Cx z cX8_untaggedAt 6 RX8) (hR : 1 ≤ (zR z).frames ∧ 23 ≤ (zR z).locals) {res : (Int32 × Sg)} (N : Nat) (x1 : Int32) (K : Int32 → Sg → Option (Int32 × Sg)) (kx : ∀ (y3 : Int32) (σ : Sg), K y3 σ = some res → V z 0 6 88 [(3, .int y3)] [] σ) : ∀ (n : Nat) (x2 : Int32) (x3 : Int32) (x4 : Int32) (σ : Sg), f_X8_untaggedAt_7 N x1 K n x2 x3 x4 σ = some res → V z 0 6 7 [(0, .ref (zA z 35)), (1, .int x1), (2, .int x2), (3, .int x3), (4, .int x4)] [] σ := by
  intro n
  induction n with
  | zero =>
    intro x2 x3 x4 σ h
    rw [f_X8_untaggedAt_7] at h
    cases h
  | succ n ih =>
    intro x2 x3 x4 σ h
    rw [f_X8_untaggedAt_7] at h
    refine r_iload X dX8_untaggedAt_7 4 rfl ?_
    refine r_bipush X 10 dX8_untaggedAt_9 (by decide) ?_
    refine r_icmp_ge X 88 dX8_untaggedAt_11 (by decide) h (fun g1 h => ?_) (fun g1 h => ?_)
    · refine r_sub [3] rfl ?_
      exact kx x3 σ h
    · refine r_iconst X 0 dX8_untaggedAt_14 (by decide) ?_
      refine r_istore X [(5, .int 0), (0, .ref (zA z 35)), (1, .int x1), (2, .int x2), (3, .int x3), (4, .int x4)] dX8_untaggedAt_15 (by decide) rfl ?_
      refine r_sub [1, 2, 5, 3, 4, 0] rfl ?_
      refine w_X8_untaggedAt_17 X hR N x1 x4 _ (fun v18 v19 σ20 h => ?_) N x2 x3 0 σ h
      refine r_iinc X 1 (fun v21 => [(4, .int v21), (0, .ref (zA z 35)), (1, .int x1), (2, .int v18), (3, .int v19)]) dX8_untaggedAt_82 2 rfl (by decide) (by decide) (fun _ => rfl) h (fun v21 h => ?_)
      refine r_goto X 7 dX8_untaggedAt_85 (by decide) ?_
      refine r_sub [1, 2, 3, 4, 0] rfl ?_
      exact ih v18 v19 v21 σ20 h
set_option maxHeartbeats 4000000 in
set_option maxRecDepth 100000 in
theorem w_X8_untaggedAt {z : Cz} (X : Cx z cX8_untaggedAt 6 RX8) (hR : 1 ≤ (zR z).frames ∧ 23 ≤ (zR z).locals) {res : (Int32 × Sg)} (Rt : RtI z cX8_untaggedAt 6 .int res) (N : Nat) (a1 : Int32) (σ : Sg) (h : f_X8_untaggedAt N a1 σ = some res) : V z 0 6 0 [(0, .ref (zA z 35)), (1, .int a1)] [] σ := by
  rw [f_X8_untaggedAt] at h
  refine r_iconst X 0 dX8_untaggedAt_0 (by decide) ?_
  refine r_istore_n X [(2, .int 0), (0, .ref (zA z 35)), (1, .int a1)] dX8_untaggedAt_1 rfl (by decide) rfl ?_
  refine r_iconst X (-1) dX8_untaggedAt_2 (by decide) ?_
  refine r_istore_n X [(3, .int (-1)), (2, .int 0), (0, .ref (zA z 35)), (1, .int a1)] dX8_untaggedAt_3 rfl (by decide) rfl ?_
  refine r_iconst X 0 dX8_untaggedAt_4 (by decide) ?_
  refine r_istore X [(4, .int 0), (3, .int (-1)), (2, .int 0), (0, .ref (zA z 35)), (1, .int a1)] dX8_untaggedAt_5 (by decide) rfl ?_
  refine r_sub [3, 4, 2, 1, 0] rfl ?_
  refine w_X8_untaggedAt_7 X hR N a1 _ (fun v22 σ23 h => ?_) N 0 (-1) 0 σ h
  refine r_iload_n X dX8_untaggedAt_88 rfl 0 rfl ?_
  exact r_iret Rt dX8_untaggedAt_89 h
theorem c_X8_untaggedAt (l : Launch) (hl : l.stackTraces = false) (N : Nat) (D : va_G) (cy : Nat → ClassId) (ad sa : Nat → Nat) (a1 : Int32) (σ : Sg) : CtI l yX8_untaggedAt cX8_untaggedAt 6 (some .int) 1 23 D cy ad sa [.ref (ad 35), .int a1] σ (f_X8_untaggedAt N a1 σ) :=
  ct_I hl (by decide +kernel) (Nat.le_of_ble_eq_true rfl) (fun z res e1 e2 e3 e4 e5 e6 X Rt h => by subst e1 e2 e3 e4 e5; exact w_X8_untaggedAt X ⟨e6.1, e6.2⟩ Rt N a1 σ h)
def f_X8_check_36 (N : Nat) (x1 : Int32) (K : Sg → Option (Int32 × Sg)) : Nat → Int32 → Sg → Option (Int32 × Sg)
  | 0, _, _ => none
  | n + 1, x2, σ => lt (σ 35 1) (fun v7 => if v7 ≤ x2 then (K σ) else (cI (f_X8_hasFault N x2 x1 σ) (fun v9 σ10 => if v9 = 0 then (lt (x2 + 1) (fun v12 => f_X8_check_36 N x1 K n v12 σ10)) else (cI (f_X8_add N x1 x2 0 σ10) (fun v13 σ14 => lt (x2 + 1) (fun v15 => f_X8_check_36 N x1 K n v15 σ14))))))
def f_X8_check_16 (N : Nat) (K : Sg → Option (Int32 × Sg)) : Nat → Int32 → Sg → Option (Int32 × Sg)
  | 0, _, _ => none
  | n + 1, x1, σ => if 8 ≤ x1 then (K σ) else (if x1 = 3 then (cI (f_X8_addJumps N σ) (fun v18 σ19 => lt (x1 + 1) (fun v20 => f_X8_check_16 N K n v20 σ19))) else (f_X8_check_36 N x1 (fun σ16 => lt (x1 + 1) (fun v17 => f_X8_check_16 N K n v17 σ16)) N 0 σ))
def f_X8_check_74 (N : Nat) (K : Sg → Option (Int32 × Sg)) : Nat → Int32 → Sg → Option (Int32 × Sg)
  | 0, _, _ => none
  | n + 1, x1, σ => lt (σ 35 12) (fun v22 => if v22 ≤ x1 then (K σ) else (rdA 40 (σ 45) x1 (fun v24 => rdA 40 (σ 44) x1 (fun v25 => cI (f_X8_add N 8 v24 v25 σ) (fun v26 σ27 => lt (x1 + 1) (fun v28 => f_X8_check_74 N K n v28 σ27))))))
def f_X8_check_108 (N : Nat) (K : Sg → Option (Int32 × Sg)) : Nat → Int32 → Sg → Option (Int32 × Sg)
  | 0, _, _ => none
  | n + 1, x1, σ => cI (f_X8_countUntagged N σ) (fun v30 σ31 => if v30 ≤ x1 then (K σ31) else (cI (f_X8_untaggedAt N x1 σ31) (fun v33 σ34 => cI (f_X8_add N 9 (-1) v33 σ34) (fun v35 σ36 => lt (x1 + 1) (fun v37 => f_X8_check_108 N K n v37 σ36)))))
def f_X8_check (N : Nat) (σ : Sg) : Option (Int32 × Sg) := st (ss σ 35 0 0) (fun σ1 => cI (f_X8_go N σ1) (fun v2 σ3 => st (ss σ3 35 25 0) (fun σ4 => f_X8_check_16 N (fun σ21 => f_X8_check_74 N (fun σ29 => f_X8_check_108 N (fun σ38 => cI (f_X8_addOrder N σ38) (fun v39 σ40 => lt (σ40 35 25) (fun v41 => some (v41, σ40)))) N 0 σ29) N 0 σ21) N 1 σ4)))
set_option maxHeartbeats 4000000 in
set_option maxRecDepth 100000 in
theorem w_X8_check_36 {z : Cz} (X : Cx z cX8_check 3 RX8) (hR : 6 ≤ (zR z).frames ∧ 142 ≤ (zR z).locals) {res : (Int32 × Sg)} (N : Nat) (x1 : Int32) (K : Sg → Option (Int32 × Sg)) (kx : ∀ (σ : Sg), K σ = some res → V z 0 3 66 [(0, .ref (zA z 35)), (1, .int x1)] [] σ) : ∀ (n : Nat) (x2 : Int32) (σ : Sg), f_X8_check_36 N x1 K n x2 σ = some res → V z 0 3 36 [(0, .ref (zA z 35)), (1, .int x1), (2, .int x2)] [] σ := by
  intro n
  induction n with
  | zero =>
    intro x2 σ h
    rw [f_X8_check_36] at h
    cases h
  | succ n ih =>
    intro x2 σ h
    rw [f_X8_check_36] at h
    refine r_iload_n X dX8_check_36 rfl 2 rfl ?_
    refine r_aload_n X dX8_check_37 rfl 0 rfl ?_
    refine gf_X8_7 X dX8_check_38 h (fun v7 h => ?_)
    refine r_icmp_ge X 66 dX8_check_41 (by decide) h (fun g8 h => ?_) (fun g8 h => ?_)
    · refine r_sub [0, 1] rfl ?_
      exact kx  σ h
    · refine r_aload_n X dX8_check_44 rfl 0 rfl ?_
      refine r_iload_n X dX8_check_45 rfl 2 rfl ?_
      refine r_iload_n X dX8_check_46 rfl 1 rfl ?_
      refine r_callV X 35 8 (by decide) rfl rfl rfl lk_X8_170 (c_X8_hasFault (zl z) X.2.2.2.2.2.2.2.1 N (zD z) (zy z) (zA z) (zS z) x2 x1 σ) ⟨Nat.le_trans (by decide) hR.1, Nat.le_trans (by decide) hR.2⟩ rfl rfl (Nat.le_of_ble_eq_true rfl) dX8_check_47 h (fun v9 σ10 h => ?_)
      refine r_if_eq X 60 dX8_check_50 (by decide) h (fun g11 h => ?_) (fun g11 h => ?_)
      · refine r_iinc X 1 (fun v12 => [(2, .int v12), (0, .ref (zA z 35)), (1, .int x1)]) dX8_check_60 2 rfl (by decide) (by decide) (fun _ => rfl) h (fun v12 h => ?_)
        refine r_goto X 36 dX8_check_63 (by decide) ?_
        refine r_sub [1, 2, 0] rfl ?_
        exact ih v12 σ10 h
      · refine r_aload_n X dX8_check_53 rfl 0 rfl ?_
        refine r_iload_n X dX8_check_54 rfl 1 rfl ?_
        refine r_iload_n X dX8_check_55 rfl 2 rfl ?_
        refine r_iconst X 0 dX8_check_56 (by decide) ?_
        refine r_callVv X 35 8 (by decide) rfl rfl rfl lk_X8_163 (c_X8_add (zl z) X.2.2.2.2.2.2.2.1 N (zD z) (zy z) (zA z) (zS z) x1 x2 0 σ10) ⟨Nat.le_trans (by decide) hR.1, Nat.le_trans (by decide) hR.2⟩ rfl rfl (Nat.le_of_ble_eq_true rfl) dX8_check_57 h (fun v13 σ14 h => ?_)
        refine r_iinc X 1 (fun v15 => [(2, .int v15), (0, .ref (zA z 35)), (1, .int x1)]) dX8_check_60 2 rfl (by decide) (by decide) (fun _ => rfl) h (fun v15 h => ?_)
        refine r_goto X 36 dX8_check_63 (by decide) ?_
        refine r_sub [1, 2, 0] rfl ?_
        exact ih v15 σ14 h
set_option maxHeartbeats 4000000 in
set_option maxRecDepth 100000 in
theorem w_X8_check_16 {z : Cz} (X : Cx z cX8_check 3 RX8) (hR : 6 ≤ (zR z).frames ∧ 142 ≤ (zR z).locals) {res : (Int32 × Sg)} (N : Nat) (K : Sg → Option (Int32 × Sg)) (kx : ∀ (σ : Sg), K σ = some res → V z 0 3 72 [(0, .ref (zA z 35))] [] σ) : ∀ (n : Nat) (x1 : Int32) (σ : Sg), f_X8_check_16 N K n x1 σ = some res → V z 0 3 16 [(0, .ref (zA z 35)), (1, .int x1)] [] σ := by
  intro n
  induction n with
  | zero =>
    intro x1 σ h
    rw [f_X8_check_16] at h
    cases h
  | succ n ih =>
    intro x1 σ h
    rw [f_X8_check_16] at h
    refine r_iload_n X dX8_check_16 rfl 1 rfl ?_
    refine r_bipush X 8 dX8_check_17 (by decide) ?_
    refine r_icmp_ge X 72 dX8_check_19 (by decide) h (fun g5 h => ?_) (fun g5 h => ?_)
    · refine r_sub [0] rfl ?_
      exact kx  σ h
    · refine r_iload_n X dX8_check_22 rfl 1 rfl ?_
      refine r_iconst X 3 dX8_check_23 (by decide) ?_
      refine r_icmp_ne X 34 dX8_check_24 (by decide) h (fun g6 h => ?_) (fun g6 h => ?_)
      · refine r_aload_n X dX8_check_27 rfl 0 rfl ?_
        refine r_callVv X 35 8 (by decide) rfl rfl rfl lk_X8_167 (c_X8_addJumps (zl z) X.2.2.2.2.2.2.2.1 N (zD z) (zy z) (zA z) (zS z) σ) ⟨Nat.le_trans (by decide) hR.1, Nat.le_trans (by decide) hR.2⟩ rfl rfl (Nat.le_of_ble_eq_true rfl) dX8_check_28 h (fun v18 σ19 h => ?_)
        refine r_goto X 66 dX8_check_31 (by decide) ?_
        refine r_iinc X 1 (fun v20 => [(1, .int v20), (0, .ref (zA z 35))]) dX8_check_66 1 rfl (by decide) (by decide) (fun _ => rfl) h (fun v20 h => ?_)
        refine r_goto X 16 dX8_check_69 (by decide) ?_
        refine r_sub [1, 0] rfl ?_
        exact ih v20 σ19 h
      · refine r_iconst X 0 dX8_check_34 (by decide) ?_
        refine r_istore_n X [(2, .int 0), (0, .ref (zA z 35)), (1, .int x1)] dX8_check_35 rfl (by decide) rfl ?_
        refine r_sub [1, 2, 0] rfl ?_
        refine w_X8_check_36 X hR N x1 _ (fun σ16 h => ?_) N 0 σ h
        refine r_iinc X 1 (fun v17 => [(1, .int v17), (0, .ref (zA z 35))]) dX8_check_66 1 rfl (by decide) (by decide) (fun _ => rfl) h (fun v17 h => ?_)
        refine r_goto X 16 dX8_check_69 (by decide) ?_
        refine r_sub [1, 0] rfl ?_
        exact ih v17 σ16 h
set_option maxHeartbeats 4000000 in
set_option maxRecDepth 100000 in
theorem w_X8_check_74 {z : Cz} (X : Cx z cX8_check 3 RX8) (hR : 6 ≤ (zR z).frames ∧ 142 ≤ (zR z).locals) {res : (Int32 × Sg)} (N : Nat) (K : Sg → Option (Int32 × Sg)) (kx : ∀ (σ : Sg), K σ = some res → V z 0 3 106 [(0, .ref (zA z 35))] [] σ) : ∀ (n : Nat) (x1 : Int32) (σ : Sg), f_X8_check_74 N K n x1 σ = some res → V z 0 3 74 [(0, .ref (zA z 35)), (1, .int x1)] [] σ := by
  intro n
  induction n with
  | zero =>
    intro x1 σ h
    rw [f_X8_check_74] at h
    cases h
  | succ n ih =>
    intro x1 σ h
    rw [f_X8_check_74] at h
    refine r_iload_n X dX8_check_74 rfl 1 rfl ?_
    refine r_aload_n X dX8_check_75 rfl 0 rfl ?_
    refine gf_X8_103 X dX8_check_76 h (fun v22 h => ?_)
    refine r_icmp_ge X 106 dX8_check_79 (by decide) h (fun g23 h => ?_) (fun g23 h => ?_)
    · refine r_sub [0] rfl ?_
      exact kx  σ h
    · refine r_aload_n X dX8_check_82 rfl 0 rfl ?_
      refine r_bipush X 8 dX8_check_83 (by decide) ?_
      refine r_aload_n X dX8_check_85 rfl 0 rfl ?_
      refine gf_X8_42 X dX8_check_86 ?_
      refine r_iload_n X dX8_check_89 rfl 1 rfl ?_
      refine al_45 X dX8_check_90 h (fun v24 h => ?_)
      refine r_aload_n X dX8_check_91 rfl 0 rfl ?_
      refine gf_X8_39 X dX8_check_92 ?_
      refine r_iload_n X dX8_check_95 rfl 1 rfl ?_
      refine al_44 X dX8_check_96 h (fun v25 h => ?_)
      refine r_callVv X 35 8 (by decide) rfl rfl rfl lk_X8_163 (c_X8_add (zl z) X.2.2.2.2.2.2.2.1 N (zD z) (zy z) (zA z) (zS z) 8 v24 v25 σ) ⟨Nat.le_trans (by decide) hR.1, Nat.le_trans (by decide) hR.2⟩ rfl rfl (Nat.le_of_ble_eq_true rfl) dX8_check_97 h (fun v26 σ27 h => ?_)
      refine r_iinc X 1 (fun v28 => [(1, .int v28), (0, .ref (zA z 35))]) dX8_check_100 1 rfl (by decide) (by decide) (fun _ => rfl) h (fun v28 h => ?_)
      refine r_goto X 74 dX8_check_103 (by decide) ?_
      refine r_sub [1, 0] rfl ?_
      exact ih v28 σ27 h
set_option maxHeartbeats 4000000 in
set_option maxRecDepth 100000 in
theorem w_X8_check_108 {z : Cz} (X : Cx z cX8_check 3 RX8) (hR : 6 ≤ (zR z).frames ∧ 142 ≤ (zR z).locals) {res : (Int32 × Sg)} (N : Nat) (K : Sg → Option (Int32 × Sg)) (kx : ∀ (σ : Sg), K σ = some res → V z 0 3 134 [(0, .ref (zA z 35))] [] σ) : ∀ (n : Nat) (x1 : Int32) (σ : Sg), f_X8_check_108 N K n x1 σ = some res → V z 0 3 108 [(0, .ref (zA z 35)), (1, .int x1)] [] σ := by
  intro n
  induction n with
  | zero =>
    intro x1 σ h
    rw [f_X8_check_108] at h
    cases h
  | succ n ih =>
    intro x1 σ h
    rw [f_X8_check_108] at h
    refine r_iload_n X dX8_check_108 rfl 1 rfl ?_
    refine r_aload_n X dX8_check_109 rfl 0 rfl ?_
    refine r_callV X 35 8 (by decide) rfl rfl rfl lk_X8_173 (c_X8_countUntagged (zl z) X.2.2.2.2.2.2.2.1 N (zD z) (zy z) (zA z) (zS z) σ) ⟨Nat.le_trans (by decide) hR.1, Nat.le_trans (by decide) hR.2⟩ rfl rfl (Nat.le_of_ble_eq_true rfl) dX8_check_110 h (fun v30 σ31 h => ?_)
    refine r_icmp_ge X 134 dX8_check_113 (by decide) h (fun g32 h => ?_) (fun g32 h => ?_)
    · refine r_sub [0] rfl ?_
      exact kx  σ31 h
    · refine r_aload_n X dX8_check_116 rfl 0 rfl ?_
      refine r_bipush X 9 dX8_check_117 (by decide) ?_
      refine r_iconst X (-1) dX8_check_119 (by decide) ?_
      refine r_aload_n X dX8_check_120 rfl 0 rfl ?_
      refine r_iload_n X dX8_check_121 rfl 1 rfl ?_
      refine r_callV X 35 8 (by decide) rfl rfl rfl lk_X8_177 (c_X8_untaggedAt (zl z) X.2.2.2.2.2.2.2.1 N (zD z) (zy z) (zA z) (zS z) x1 σ31) ⟨Nat.le_trans (by decide) hR.1, Nat.le_trans (by decide) hR.2⟩ rfl rfl (Nat.le_of_ble_eq_true rfl) dX8_check_122 h (fun v33 σ34 h => ?_)
      refine r_callVv X 35 8 (by decide) rfl rfl rfl lk_X8_163 (c_X8_add (zl z) X.2.2.2.2.2.2.2.1 N (zD z) (zy z) (zA z) (zS z) 9 (-1) v33 σ34) ⟨Nat.le_trans (by decide) hR.1, Nat.le_trans (by decide) hR.2⟩ rfl rfl (Nat.le_of_ble_eq_true rfl) dX8_check_125 h (fun v35 σ36 h => ?_)
      refine r_iinc X 1 (fun v37 => [(1, .int v37), (0, .ref (zA z 35))]) dX8_check_128 1 rfl (by decide) (by decide) (fun _ => rfl) h (fun v37 h => ?_)
      refine r_goto X 108 dX8_check_131 (by decide) ?_
      refine r_sub [1, 0] rfl ?_
      exact ih v37 σ36 h
set_option maxHeartbeats 4000000 in
set_option maxRecDepth 100000 in
theorem w_X8_check {z : Cz} (X : Cx z cX8_check 3 RX8) (hR : 6 ≤ (zR z).frames ∧ 142 ≤ (zR z).locals) {res : (Int32 × Sg)} (Rt : RtI z cX8_check 3 .int res) (N : Nat) (σ : Sg) (h : f_X8_check N σ = some res) : V z 0 3 0 [(0, .ref (zA z 35))] [] σ := by
  rw [f_X8_check] at h
  refine r_aload_n X dX8_check_0 rfl 0 rfl ?_
  refine r_iconst X 0 dX8_check_1 (by decide) ?_
  refine pf_X8_78 X dX8_check_2 h (fun σ1 h => ?_)
  refine r_aload_n X dX8_check_5 rfl 0 rfl ?_
  refine r_callVv X 35 8 (by decide) rfl rfl rfl lk_X8_135 (c_X8_go (zl z) X.2.2.2.2.2.2.2.1 N (zD z) (zy z) (zA z) (zS z) σ1) ⟨Nat.le_trans (by decide) hR.1, Nat.le_trans (by decide) hR.2⟩ rfl rfl (Nat.le_of_ble_eq_true rfl) dX8_check_6 h (fun v2 σ3 h => ?_)
  refine r_aload_n X dX8_check_9 rfl 0 rfl ?_
  refine r_iconst X 0 dX8_check_10 (by decide) ?_
  refine pf_X8_141 X dX8_check_11 h (fun σ4 h => ?_)
  refine r_iconst X 1 dX8_check_14 (by decide) ?_
  refine r_istore_n X [(1, .int 1), (0, .ref (zA z 35))] dX8_check_15 rfl (by decide) rfl ?_
  refine r_sub [1, 0] rfl ?_
  refine w_X8_check_16 X hR N _ (fun σ21 h => ?_) N 1 σ4 h
  refine r_iconst X 0 dX8_check_72 (by decide) ?_
  refine r_istore_n X [(1, .int 0), (0, .ref (zA z 35))] dX8_check_73 rfl (by decide) rfl ?_
  refine r_sub [1, 0] rfl ?_
  refine w_X8_check_74 X hR N _ (fun σ29 h => ?_) N 0 σ21 h
  refine r_iconst X 0 dX8_check_106 (by decide) ?_
  refine r_istore_n X [(1, .int 0), (0, .ref (zA z 35))] dX8_check_107 rfl (by decide) rfl ?_
  refine r_sub [1, 0] rfl ?_
  refine w_X8_check_108 X hR N _ (fun σ38 h => ?_) N 0 σ29 h
  refine r_aload_n X dX8_check_134 rfl 0 rfl ?_
  refine r_callVv X 35 8 (by decide) rfl rfl rfl lk_X8_180 (c_X8_addOrder (zl z) X.2.2.2.2.2.2.2.1 N (zD z) (zy z) (zA z) (zS z) σ38) ⟨Nat.le_trans (by decide) hR.1, Nat.le_trans (by decide) hR.2⟩ rfl rfl (Nat.le_of_ble_eq_true rfl) dX8_check_135 h (fun v39 σ40 h => ?_)
  refine r_aload_n X dX8_check_138 rfl 0 rfl ?_
  refine gf_X8_141 X dX8_check_139 h (fun v41 h => ?_)
  exact r_iret Rt dX8_check_142 h
theorem c_X8_check (l : Launch) (hl : l.stackTraces = false) (N : Nat) (D : va_G) (cy : Nat → ClassId) (ad sa : Nat → Nat) (σ : Sg) : CtI l yX8_check cX8_check 3 (some .int) 6 142 D cy ad sa [.ref (ad 35)] σ (f_X8_check N σ) :=
  ct_I hl (by decide +kernel) (Nat.le_of_ble_eq_true rfl) (fun z res e1 e2 e3 e4 e5 e6 X Rt h => by subst e1 e2 e3 e4 e5; exact w_X8_check X ⟨e6.1, e6.2⟩ Rt N σ h)
def f_X8_fault (N : Nat) (a1 : Int32) (a2 : Int32) (σ : Sg) : Option (Int32 × Sg) := lt (σ 35 25) (fun v1 => cI (f_X8_in N a1 0 (v1 - 1) σ) (fun v2 σ3 => if v2 = 0 then (st (ss σ3 35 0 1) (fun σ5 => lt (σ5 35 0) (fun v6 => if v6 ≤ 0 then (if a2 = 0 then (rdA 700 (σ5 53) a1 (fun v12 => some (v12, σ5))) else (if a2 = 1 then (rdA 700 (σ5 54) a1 (fun v11 => some (v11, σ5))) else (rdA 700 (σ5 55) a1 (fun v10 => some (v10, σ5))))) else (some (0, σ5))))) else (cI (f_X8_in N a2 0 2 σ3) (fun v13 σ14 => if v13 = 0 then (st (ss σ14 35 0 1) (fun σ16 => lt (σ16 35 0) (fun v17 => if v17 ≤ 0 then (if a2 = 0 then (rdA 700 (σ16 53) a1 (fun v23 => some (v23, σ16))) else (if a2 = 1 then (rdA 700 (σ16 54) a1 (fun v22 => some (v22, σ16))) else (rdA 700 (σ16 55) a1 (fun v21 => some (v21, σ16))))) else (some (0, σ16))))) else (st (ss σ14 35 0 0) (fun σ24 => lt (σ24 35 0) (fun v25 => if v25 ≤ 0 then (if a2 = 0 then (rdA 700 (σ24 53) a1 (fun v31 => some (v31, σ24))) else (if a2 = 1 then (rdA 700 (σ24 54) a1 (fun v30 => some (v30, σ24))) else (rdA 700 (σ24 55) a1 (fun v29 => some (v29, σ24))))) else (some (0, σ24)))))))))
set_option maxHeartbeats 4000000 in
set_option maxRecDepth 100000 in
theorem w_X8_fault {z : Cz} (X : Cx z cX8_fault 3 RX8) (hR : 1 ≤ (zR z).frames ∧ 22 ≤ (zR z).locals) {res : (Int32 × Sg)} (Rt : RtI z cX8_fault 3 .int res) (N : Nat) (a1 : Int32) (a2 : Int32) (σ : Sg) (h : f_X8_fault N a1 a2 σ = some res) : V z 0 3 0 [(0, .ref (zA z 35)), (1, .int a1), (2, .int a2)] [] σ := by
  rw [f_X8_fault] at h
  refine r_aload_n X dX8_fault_0 rfl 0 rfl ?_
  refine r_iload_n X dX8_fault_1 rfl 1 rfl ?_
  refine r_iconst X 0 dX8_fault_2 (by decide) ?_
  refine r_aload_n X dX8_fault_3 rfl 0 rfl ?_
  refine gf_X8_141 X dX8_fault_4 h (fun v1 h => ?_)
  refine r_iconst X 1 dX8_fault_7 (by decide) ?_
  refine r_isub X dX8_fault_8 ?_
  refine r_callS X lk_X8_85 (c_X8_in (zl z) X.2.2.2.2.2.2.2.1 N (zD z) (zy z) (zA z) (zS z) a1 0 (v1 - 1) σ) ⟨Nat.le_trans (by decide) hR.1, Nat.le_trans (by decide) hR.2⟩ rfl rfl (Nat.le_of_ble_eq_true rfl) dX8_fault_9 h (fun v2 σ3 h => ?_)
  refine r_if_eq X 28 dX8_fault_12 (by decide) h (fun g4 h => ?_) (fun g4 h => ?_)
  · refine r_iconst X 1 dX8_fault_28 (by decide) ?_
    refine pf_X8_78 X dX8_fault_29 h (fun σ5 h => ?_)
    refine r_aload_n X dX8_fault_32 rfl 0 rfl ?_
    refine gf_X8_78 X dX8_fault_33 h (fun v6 h => ?_)
    refine r_if_le X 41 dX8_fault_36 (by decide) h (fun g7 h => ?_) (fun g7 h => ?_)
    · refine r_iload_n X dX8_fault_41 rfl 2 rfl ?_
      refine r_if_ne X 54 dX8_fault_42 (by decide) h (fun g8 h => ?_) (fun g8 h => ?_)
      · refine r_aload_n X dX8_fault_45 rfl 0 rfl ?_
        refine gf_X8_66 X dX8_fault_46 ?_
        refine r_iload_n X dX8_fault_49 rfl 1 rfl ?_
        refine al_53 X dX8_fault_50 h (fun v12 h => ?_)
        refine r_goto X 74 dX8_fault_51 (by decide) ?_
        exact r_iret Rt dX8_fault_74 h
      · refine r_iload_n X dX8_fault_54 rfl 2 rfl ?_
        refine r_iconst X 1 dX8_fault_55 (by decide) ?_
        refine r_icmp_ne X 68 dX8_fault_56 (by decide) h (fun g9 h => ?_) (fun g9 h => ?_)
        · refine r_aload_n X dX8_fault_59 rfl 0 rfl ?_
          refine gf_X8_69 X dX8_fault_60 ?_
          refine r_iload_n X dX8_fault_63 rfl 1 rfl ?_
          refine al_54 X dX8_fault_64 h (fun v11 h => ?_)
          refine r_goto X 74 dX8_fault_65 (by decide) ?_
          exact r_iret Rt dX8_fault_74 h
        · refine r_aload_n X dX8_fault_68 rfl 0 rfl ?_
          refine gf_X8_72 X dX8_fault_69 ?_
          refine r_iload_n X dX8_fault_72 rfl 1 rfl ?_
          refine al_55 X dX8_fault_73 h (fun v10 h => ?_)
          exact r_iret Rt dX8_fault_74 h
    · refine r_iconst X 0 dX8_fault_39 (by decide) ?_
      exact r_iret Rt dX8_fault_40 h
  · refine r_iload_n X dX8_fault_15 rfl 2 rfl ?_
    refine r_iconst X 0 dX8_fault_16 (by decide) ?_
    refine r_iconst X 2 dX8_fault_17 (by decide) ?_
    refine r_callS X lk_X8_85 (c_X8_in (zl z) X.2.2.2.2.2.2.2.1 N (zD z) (zy z) (zA z) (zS z) a2 0 2 σ3) ⟨Nat.le_trans (by decide) hR.1, Nat.le_trans (by decide) hR.2⟩ rfl rfl (Nat.le_of_ble_eq_true rfl) dX8_fault_18 h (fun v13 σ14 h => ?_)
    refine r_if_eq X 28 dX8_fault_21 (by decide) h (fun g15 h => ?_) (fun g15 h => ?_)
    · refine r_iconst X 1 dX8_fault_28 (by decide) ?_
      refine pf_X8_78 X dX8_fault_29 h (fun σ16 h => ?_)
      refine r_aload_n X dX8_fault_32 rfl 0 rfl ?_
      refine gf_X8_78 X dX8_fault_33 h (fun v17 h => ?_)
      refine r_if_le X 41 dX8_fault_36 (by decide) h (fun g18 h => ?_) (fun g18 h => ?_)
      · refine r_iload_n X dX8_fault_41 rfl 2 rfl ?_
        refine r_if_ne X 54 dX8_fault_42 (by decide) h (fun g19 h => ?_) (fun g19 h => ?_)
        · refine r_aload_n X dX8_fault_45 rfl 0 rfl ?_
          refine gf_X8_66 X dX8_fault_46 ?_
          refine r_iload_n X dX8_fault_49 rfl 1 rfl ?_
          refine al_53 X dX8_fault_50 h (fun v23 h => ?_)
          refine r_goto X 74 dX8_fault_51 (by decide) ?_
          exact r_iret Rt dX8_fault_74 h
        · refine r_iload_n X dX8_fault_54 rfl 2 rfl ?_
          refine r_iconst X 1 dX8_fault_55 (by decide) ?_
          refine r_icmp_ne X 68 dX8_fault_56 (by decide) h (fun g20 h => ?_) (fun g20 h => ?_)
          · refine r_aload_n X dX8_fault_59 rfl 0 rfl ?_
            refine gf_X8_69 X dX8_fault_60 ?_
            refine r_iload_n X dX8_fault_63 rfl 1 rfl ?_
            refine al_54 X dX8_fault_64 h (fun v22 h => ?_)
            refine r_goto X 74 dX8_fault_65 (by decide) ?_
            exact r_iret Rt dX8_fault_74 h
          · refine r_aload_n X dX8_fault_68 rfl 0 rfl ?_
            refine gf_X8_72 X dX8_fault_69 ?_
            refine r_iload_n X dX8_fault_72 rfl 1 rfl ?_
            refine al_55 X dX8_fault_73 h (fun v21 h => ?_)
            exact r_iret Rt dX8_fault_74 h
      · refine r_iconst X 0 dX8_fault_39 (by decide) ?_
        exact r_iret Rt dX8_fault_40 h
    · refine r_iconst X 0 dX8_fault_24 (by decide) ?_
      refine r_goto X 29 dX8_fault_25 (by decide) ?_
      refine pf_X8_78 X dX8_fault_29 h (fun σ24 h => ?_)
      refine r_aload_n X dX8_fault_32 rfl 0 rfl ?_
      refine gf_X8_78 X dX8_fault_33 h (fun v25 h => ?_)
      refine r_if_le X 41 dX8_fault_36 (by decide) h (fun g26 h => ?_) (fun g26 h => ?_)
      · refine r_iload_n X dX8_fault_41 rfl 2 rfl ?_
        refine r_if_ne X 54 dX8_fault_42 (by decide) h (fun g27 h => ?_) (fun g27 h => ?_)
        · refine r_aload_n X dX8_fault_45 rfl 0 rfl ?_
          refine gf_X8_66 X dX8_fault_46 ?_
          refine r_iload_n X dX8_fault_49 rfl 1 rfl ?_
          refine al_53 X dX8_fault_50 h (fun v31 h => ?_)
          refine r_goto X 74 dX8_fault_51 (by decide) ?_
          exact r_iret Rt dX8_fault_74 h
        · refine r_iload_n X dX8_fault_54 rfl 2 rfl ?_
          refine r_iconst X 1 dX8_fault_55 (by decide) ?_
          refine r_icmp_ne X 68 dX8_fault_56 (by decide) h (fun g28 h => ?_) (fun g28 h => ?_)
          · refine r_aload_n X dX8_fault_59 rfl 0 rfl ?_
            refine gf_X8_69 X dX8_fault_60 ?_
            refine r_iload_n X dX8_fault_63 rfl 1 rfl ?_
            refine al_54 X dX8_fault_64 h (fun v30 h => ?_)
            refine r_goto X 74 dX8_fault_65 (by decide) ?_
            exact r_iret Rt dX8_fault_74 h
          · refine r_aload_n X dX8_fault_68 rfl 0 rfl ?_
            refine gf_X8_72 X dX8_fault_69 ?_
            refine r_iload_n X dX8_fault_72 rfl 1 rfl ?_
            refine al_55 X dX8_fault_73 h (fun v29 h => ?_)
            exact r_iret Rt dX8_fault_74 h
      · refine r_iconst X 0 dX8_fault_39 (by decide) ?_
        exact r_iret Rt dX8_fault_40 h
theorem c_X8_fault (l : Launch) (hl : l.stackTraces = false) (N : Nat) (D : va_G) (cy : Nat → ClassId) (ad sa : Nat → Nat) (a1 : Int32) (a2 : Int32) (σ : Sg) : CtI l yX8_fault cX8_fault 3 (some .int) 1 22 D cy ad sa [.ref (ad 35), .int a1, .int a2] σ (f_X8_fault N a1 a2 σ) :=
  ct_I hl (by decide +kernel) (Nat.le_of_ble_eq_true rfl) (fun z res e1 e2 e3 e4 e5 e6 X Rt h => by subst e1 e2 e3 e4 e5; exact w_X8_fault X ⟨e6.1, e6.2⟩ Rt N a1 a2 σ h)
def f_X8_heading (N : Nat) (a1 : Int32) (a2 : Int32) (σ : Sg) : Option (Int32 × Sg) := cI (f_X8_isElement N a1 σ) (fun v1 σ2 => if v1 = 0 then (st (ss σ2 35 0 1) (fun σ17 => lt (σ17 35 0) (fun v18 => if v18 ≤ 0 then (rdA 60 (σ17 37) a1 (fun v20 => wrA 60 σ17 37 a1 a2 (fun σ21 => some (v20, σ21)))) else (some (0, σ17))))) else (cI (f_X8_in N a2 1 6 σ2) (fun v4 σ5 => if v4 = 0 then (st (ss σ5 35 0 2) (fun σ12 => lt (σ12 35 0) (fun v13 => if v13 ≤ 0 then (rdA 60 (σ12 37) a1 (fun v15 => wrA 60 σ12 37 a1 a2 (fun σ16 => some (v15, σ16)))) else (some (0, σ12))))) else (st (ss σ5 35 0 0) (fun σ7 => lt (σ7 35 0) (fun v8 => if v8 ≤ 0 then (rdA 60 (σ7 37) a1 (fun v10 => wrA 60 σ7 37 a1 a2 (fun σ11 => some (v10, σ11)))) else (some (0, σ7))))))))
set_option maxHeartbeats 4000000 in
set_option maxRecDepth 100000 in
theorem w_X8_heading {z : Cz} (X : Cx z cX8_heading 4 RX8) (hR : 1 ≤ (zR z).frames ∧ 22 ≤ (zR z).locals) {res : (Int32 × Sg)} (Rt : RtI z cX8_heading 4 .int res) (N : Nat) (a1 : Int32) (a2 : Int32) (σ : Sg) (h : f_X8_heading N a1 a2 σ = some res) : V z 0 4 0 [(0, .ref (zA z 35)), (1, .int a1), (2, .int a2)] [] σ := by
  rw [f_X8_heading] at h
  refine r_aload_n X dX8_heading_0 rfl 0 rfl ?_
  refine r_aload_n X dX8_heading_1 rfl 0 rfl ?_
  refine r_iload_n X dX8_heading_2 rfl 1 rfl ?_
  refine r_callV X 35 8 (by decide) rfl rfl rfl lk_X8_81 (c_X8_isElement (zl z) X.2.2.2.2.2.2.2.1 N (zD z) (zy z) (zA z) (zS z) a1 σ) ⟨Nat.le_trans (by decide) hR.1, Nat.le_trans (by decide) hR.2⟩ rfl rfl (Nat.le_of_ble_eq_true rfl) dX8_heading_3 h (fun v1 σ2 h => ?_)
  refine r_if_ne X 13 dX8_heading_6 (by decide) h (fun g3 h => ?_) (fun g3 h => ?_)
  · refine r_iconst X 1 dX8_heading_9 (by decide) ?_
    refine r_goto X 28 dX8_heading_10 (by decide) ?_
    refine pf_X8_78 X dX8_heading_28 h (fun σ17 h => ?_)
    refine r_aload_n X dX8_heading_31 rfl 0 rfl ?_
    refine gf_X8_78 X dX8_heading_32 h (fun v18 h => ?_)
    refine r_if_le X 40 dX8_heading_35 (by decide) h (fun g19 h => ?_) (fun g19 h => ?_)
    · refine r_aload_n X dX8_heading_40 rfl 0 rfl ?_
      refine gf_X8_17 X dX8_heading_41 ?_
      refine r_iload_n X dX8_heading_44 rfl 1 rfl ?_
      refine al_37 X dX8_heading_45 h (fun v20 h => ?_)
      refine r_istore_n X [(3, .int v20), (0, .ref (zA z 35)), (1, .int a1), (2, .int a2)] dX8_heading_46 rfl (by decide) rfl ?_
      refine r_aload_n X dX8_heading_47 rfl 1 rfl ?_
      refine gf_X8_17 X dX8_heading_48 ?_
      refine r_iload_n X dX8_heading_51 rfl 2 rfl ?_
      refine r_iload_n X dX8_heading_52 rfl 3 rfl ?_
      refine as_37 X dX8_heading_53 h (fun σ21 h => ?_)
      refine r_iload_n X dX8_heading_54 rfl 0 rfl ?_
      exact r_iret Rt dX8_heading_55 h
    · refine r_iconst X 0 dX8_heading_38 (by decide) ?_
      exact r_iret Rt dX8_heading_39 h
  · refine r_iload_n X dX8_heading_13 rfl 2 rfl ?_
    refine r_iconst X 1 dX8_heading_14 (by decide) ?_
    refine r_bipush X 6 dX8_heading_15 (by decide) ?_
    refine r_callS X lk_X8_85 (c_X8_in (zl z) X.2.2.2.2.2.2.2.1 N (zD z) (zy z) (zA z) (zS z) a2 1 6 σ2) ⟨Nat.le_trans (by decide) hR.1, Nat.le_trans (by decide) hR.2⟩ rfl rfl (Nat.le_of_ble_eq_true rfl) dX8_heading_17 h (fun v4 σ5 h => ?_)
    refine r_if_ne X 27 dX8_heading_20 (by decide) h (fun g6 h => ?_) (fun g6 h => ?_)
    · refine r_iconst X 2 dX8_heading_23 (by decide) ?_
      refine r_goto X 28 dX8_heading_24 (by decide) ?_
      refine pf_X8_78 X dX8_heading_28 h (fun σ12 h => ?_)
      refine r_aload_n X dX8_heading_31 rfl 0 rfl ?_
      refine gf_X8_78 X dX8_heading_32 h (fun v13 h => ?_)
      refine r_if_le X 40 dX8_heading_35 (by decide) h (fun g14 h => ?_) (fun g14 h => ?_)
      · refine r_aload_n X dX8_heading_40 rfl 0 rfl ?_
        refine gf_X8_17 X dX8_heading_41 ?_
        refine r_iload_n X dX8_heading_44 rfl 1 rfl ?_
        refine al_37 X dX8_heading_45 h (fun v15 h => ?_)
        refine r_istore_n X [(3, .int v15), (0, .ref (zA z 35)), (1, .int a1), (2, .int a2)] dX8_heading_46 rfl (by decide) rfl ?_
        refine r_aload_n X dX8_heading_47 rfl 1 rfl ?_
        refine gf_X8_17 X dX8_heading_48 ?_
        refine r_iload_n X dX8_heading_51 rfl 2 rfl ?_
        refine r_iload_n X dX8_heading_52 rfl 3 rfl ?_
        refine as_37 X dX8_heading_53 h (fun σ16 h => ?_)
        refine r_iload_n X dX8_heading_54 rfl 0 rfl ?_
        exact r_iret Rt dX8_heading_55 h
      · refine r_iconst X 0 dX8_heading_38 (by decide) ?_
        exact r_iret Rt dX8_heading_39 h
    · refine r_iconst X 0 dX8_heading_27 (by decide) ?_
      refine pf_X8_78 X dX8_heading_28 h (fun σ7 h => ?_)
      refine r_aload_n X dX8_heading_31 rfl 0 rfl ?_
      refine gf_X8_78 X dX8_heading_32 h (fun v8 h => ?_)
      refine r_if_le X 40 dX8_heading_35 (by decide) h (fun g9 h => ?_) (fun g9 h => ?_)
      · refine r_aload_n X dX8_heading_40 rfl 0 rfl ?_
        refine gf_X8_17 X dX8_heading_41 ?_
        refine r_iload_n X dX8_heading_44 rfl 1 rfl ?_
        refine al_37 X dX8_heading_45 h (fun v10 h => ?_)
        refine r_istore_n X [(3, .int v10), (0, .ref (zA z 35)), (1, .int a1), (2, .int a2)] dX8_heading_46 rfl (by decide) rfl ?_
        refine r_aload_n X dX8_heading_47 rfl 1 rfl ?_
        refine gf_X8_17 X dX8_heading_48 ?_
        refine r_iload_n X dX8_heading_51 rfl 2 rfl ?_
        refine r_iload_n X dX8_heading_52 rfl 3 rfl ?_
        refine as_37 X dX8_heading_53 h (fun σ11 h => ?_)
        refine r_iload_n X dX8_heading_54 rfl 0 rfl ?_
        exact r_iret Rt dX8_heading_55 h
      · refine r_iconst X 0 dX8_heading_38 (by decide) ?_
        exact r_iret Rt dX8_heading_39 h
theorem c_X8_heading (l : Launch) (hl : l.stackTraces = false) (N : Nat) (D : va_G) (cy : Nat → ClassId) (ad sa : Nat → Nat) (a1 : Int32) (a2 : Int32) (σ : Sg) : CtI l yX8_heading cX8_heading 4 (some .int) 1 22 D cy ad sa [.ref (ad 35), .int a1, .int a2] σ (f_X8_heading N a1 a2 σ) :=
  ct_I hl (by decide +kernel) (Nat.le_of_ble_eq_true rfl) (fun z res e1 e2 e3 e4 e5 e6 X Rt h => by subst e1 e2 e3 e4 e5; exact w_X8_heading X ⟨e6.1, e6.2⟩ Rt N a1 a2 σ h)
def f_X8_words (N : Nat) (a1 : Int32) (a2 : Int32) (σ : Sg) : Option (Int32 × Sg) := cI (f_X8_isElement N a1 σ) (fun v1 σ2 => if v1 = 0 then (st (ss σ2 35 0 1) (fun σ4 => lt (σ4 35 0) (fun v5 => if v5 ≤ 0 then (rdA 60 (σ4 38) a1 (fun v7 => if v7 = 0 then (wrA 60 σ4 38 a1 (vp_nar .boolean a2) (fun σ9 => some (0, σ9))) else (wrA 60 σ4 38 a1 (vp_nar .boolean a2) (fun σ10 => some (1, σ10))))) else (some (0, σ4))))) else (st (ss σ2 35 0 0) (fun σ11 => lt (σ11 35 0) (fun v12 => if v12 ≤ 0 then (rdA 60 (σ11 38) a1 (fun v14 => if v14 = 0 then (wrA 60 σ11 38 a1 (vp_nar .boolean a2) (fun σ16 => some (0, σ16))) else (wrA 60 σ11 38 a1 (vp_nar .boolean a2) (fun σ17 => some (1, σ17))))) else (some (0, σ11))))))
set_option maxHeartbeats 4000000 in
set_option maxRecDepth 100000 in
theorem w_X8_words {z : Cz} (X : Cx z cX8_words 4 RX8) (hR : 1 ≤ (zR z).frames ∧ 21 ≤ (zR z).locals) {res : (Int32 × Sg)} (Rt : RtI z cX8_words 4 .int res) (N : Nat) (a1 : Int32) (a2 : Int32) (σ : Sg) (h : f_X8_words N a1 a2 σ = some res) : V z 0 4 0 [(0, .ref (zA z 35)), (1, .int a1), (2, .int a2)] [] σ := by
  rw [f_X8_words] at h
  refine r_aload_n X dX8_words_0 rfl 0 rfl ?_
  refine r_aload_n X dX8_words_1 rfl 0 rfl ?_
  refine r_iload_n X dX8_words_2 rfl 1 rfl ?_
  refine r_callV X 35 8 (by decide) rfl rfl rfl lk_X8_81 (c_X8_isElement (zl z) X.2.2.2.2.2.2.2.1 N (zD z) (zy z) (zA z) (zS z) a1 σ) ⟨Nat.le_trans (by decide) hR.1, Nat.le_trans (by decide) hR.2⟩ rfl rfl (Nat.le_of_ble_eq_true rfl) dX8_words_3 h (fun v1 σ2 h => ?_)
  refine r_if_eq X 13 dX8_words_6 (by decide) h (fun g3 h => ?_) (fun g3 h => ?_)
  · refine r_iconst X 1 dX8_words_13 (by decide) ?_
    refine pf_X8_78 X dX8_words_14 h (fun σ4 h => ?_)
    refine r_aload_n X dX8_words_17 rfl 0 rfl ?_
    refine gf_X8_78 X dX8_words_18 h (fun v5 h => ?_)
    refine r_if_le X 26 dX8_words_21 (by decide) h (fun g6 h => ?_) (fun g6 h => ?_)
    · refine r_aload_n X dX8_words_26 rfl 0 rfl ?_
      refine gf_X8_20 X dX8_words_27 ?_
      refine r_iload_n X dX8_words_30 rfl 1 rfl ?_
      refine al_38 X dX8_words_31 h (fun v7 h => ?_)
      refine r_if_eq X 39 dX8_words_32 (by decide) h (fun g8 h => ?_) (fun g8 h => ?_)
      · refine r_iconst X 0 dX8_words_39 (by decide) ?_
        refine r_istore_n X [(3, .int 0), (0, .ref (zA z 35)), (1, .int a1), (2, .int a2)] dX8_words_40 rfl (by decide) rfl ?_
        refine r_aload_n X dX8_words_41 rfl 1 rfl ?_
        refine gf_X8_20 X dX8_words_42 ?_
        refine r_iload_n X dX8_words_45 rfl 2 rfl ?_
        refine r_iload_n X dX8_words_46 rfl 3 rfl ?_
        refine as_38 X dX8_words_47 h (fun σ9 h => ?_)
        refine r_iload_n X dX8_words_48 rfl 0 rfl ?_
        exact r_iret Rt dX8_words_49 h
      · refine r_iconst X 1 dX8_words_35 (by decide) ?_
        refine r_goto X 40 dX8_words_36 (by decide) ?_
        refine r_istore_n X [(3, .int 1), (0, .ref (zA z 35)), (1, .int a1), (2, .int a2)] dX8_words_40 rfl (by decide) rfl ?_
        refine r_aload_n X dX8_words_41 rfl 1 rfl ?_
        refine gf_X8_20 X dX8_words_42 ?_
        refine r_iload_n X dX8_words_45 rfl 2 rfl ?_
        refine r_iload_n X dX8_words_46 rfl 3 rfl ?_
        refine as_38 X dX8_words_47 h (fun σ10 h => ?_)
        refine r_iload_n X dX8_words_48 rfl 0 rfl ?_
        exact r_iret Rt dX8_words_49 h
    · refine r_iconst X 0 dX8_words_24 (by decide) ?_
      exact r_iret Rt dX8_words_25 h
  · refine r_iconst X 0 dX8_words_9 (by decide) ?_
    refine r_goto X 14 dX8_words_10 (by decide) ?_
    refine pf_X8_78 X dX8_words_14 h (fun σ11 h => ?_)
    refine r_aload_n X dX8_words_17 rfl 0 rfl ?_
    refine gf_X8_78 X dX8_words_18 h (fun v12 h => ?_)
    refine r_if_le X 26 dX8_words_21 (by decide) h (fun g13 h => ?_) (fun g13 h => ?_)
    · refine r_aload_n X dX8_words_26 rfl 0 rfl ?_
      refine gf_X8_20 X dX8_words_27 ?_
      refine r_iload_n X dX8_words_30 rfl 1 rfl ?_
      refine al_38 X dX8_words_31 h (fun v14 h => ?_)
      refine r_if_eq X 39 dX8_words_32 (by decide) h (fun g15 h => ?_) (fun g15 h => ?_)
      · refine r_iconst X 0 dX8_words_39 (by decide) ?_
        refine r_istore_n X [(3, .int 0), (0, .ref (zA z 35)), (1, .int a1), (2, .int a2)] dX8_words_40 rfl (by decide) rfl ?_
        refine r_aload_n X dX8_words_41 rfl 1 rfl ?_
        refine gf_X8_20 X dX8_words_42 ?_
        refine r_iload_n X dX8_words_45 rfl 2 rfl ?_
        refine r_iload_n X dX8_words_46 rfl 3 rfl ?_
        refine as_38 X dX8_words_47 h (fun σ16 h => ?_)
        refine r_iload_n X dX8_words_48 rfl 0 rfl ?_
        exact r_iret Rt dX8_words_49 h
      · refine r_iconst X 1 dX8_words_35 (by decide) ?_
        refine r_goto X 40 dX8_words_36 (by decide) ?_
        refine r_istore_n X [(3, .int 1), (0, .ref (zA z 35)), (1, .int a1), (2, .int a2)] dX8_words_40 rfl (by decide) rfl ?_
        refine r_aload_n X dX8_words_41 rfl 1 rfl ?_
        refine gf_X8_20 X dX8_words_42 ?_
        refine r_iload_n X dX8_words_45 rfl 2 rfl ?_
        refine r_iload_n X dX8_words_46 rfl 3 rfl ?_
        refine as_38 X dX8_words_47 h (fun σ17 h => ?_)
        refine r_iload_n X dX8_words_48 rfl 0 rfl ?_
        exact r_iret Rt dX8_words_49 h
    · refine r_iconst X 0 dX8_words_24 (by decide) ?_
      exact r_iret Rt dX8_words_25 h
theorem c_X8_words (l : Launch) (hl : l.stackTraces = false) (N : Nat) (D : va_G) (cy : Nat → ClassId) (ad sa : Nat → Nat) (a1 : Int32) (a2 : Int32) (σ : Sg) : CtI l yX8_words cX8_words 4 (some .int) 1 21 D cy ad sa [.ref (ad 35), .int a1, .int a2] σ (f_X8_words N a1 a2 σ) :=
  ct_I hl (by decide +kernel) (Nat.le_of_ble_eq_true rfl) (fun z res e1 e2 e3 e4 e5 e6 X Rt h => by subst e1 e2 e3 e4 e5; exact w_X8_words X ⟨e6.1, e6.2⟩ Rt N a1 a2 σ h)
def f_X8_span (N : Nat) (a1 : Int32) (a2 : Int32) (a3 : Int32) (σ : Sg) : Option (Int32 × Sg) := cI (f_X8_isElement N a1 σ) (fun v1 σ2 => if v1 = 0 then (st (ss σ2 35 0 1) (fun σ34 => lt (σ34 35 0) (fun v35 => if v35 ≤ 0 then (rdA 60 (σ34 39) a1 (fun v37 => rdA 60 (σ34 40) a1 (fun v38 => lt ((10 * v37) + v38) (fun v39 => wrA 60 σ34 39 a1 a2 (fun σ40 => wrA 60 σ40 40 a1 a3 (fun σ41 => some (v39, σ41))))))) else (some (0, σ34))))) else (cI (f_X8_in N a2 1 8 σ2) (fun v4 σ5 => if v4 = 0 then (st (ss σ5 35 0 2) (fun σ7 => lt (σ7 35 0) (fun v8 => if v8 ≤ 0 then (rdA 60 (σ7 39) a1 (fun v10 => rdA 60 (σ7 40) a1 (fun v11 => lt ((10 * v10) + v11) (fun v12 => wrA 60 σ7 39 a1 a2 (fun σ13 => wrA 60 σ13 40 a1 a3 (fun σ14 => some (v12, σ14))))))) else (some (0, σ7))))) else (cI (f_X8_in N a3 1 8 σ5) (fun v15 σ16 => if v15 = 0 then (st (ss σ16 35 0 2) (fun σ26 => lt (σ26 35 0) (fun v27 => if v27 ≤ 0 then (rdA 60 (σ26 39) a1 (fun v29 => rdA 60 (σ26 40) a1 (fun v30 => lt ((10 * v29) + v30) (fun v31 => wrA 60 σ26 39 a1 a2 (fun σ32 => wrA 60 σ32 40 a1 a3 (fun σ33 => some (v31, σ33))))))) else (some (0, σ26))))) else (st (ss σ16 35 0 0) (fun σ18 => lt (σ18 35 0) (fun v19 => if v19 ≤ 0 then (rdA 60 (σ18 39) a1 (fun v21 => rdA 60 (σ18 40) a1 (fun v22 => lt ((10 * v21) + v22) (fun v23 => wrA 60 σ18 39 a1 a2 (fun σ24 => wrA 60 σ24 40 a1 a3 (fun σ25 => some (v23, σ25))))))) else (some (0, σ18))))))))))
set_option maxHeartbeats 4000000 in
set_option maxRecDepth 100000 in
theorem w_X8_span {z : Cz} (X : Cx z cX8_span 5 RX8) (hR : 1 ≤ (zR z).frames ∧ 22 ≤ (zR z).locals) {res : (Int32 × Sg)} (Rt : RtI z cX8_span 5 .int res) (N : Nat) (a1 : Int32) (a2 : Int32) (a3 : Int32) (σ : Sg) (h : f_X8_span N a1 a2 a3 σ = some res) : V z 0 5 0 [(0, .ref (zA z 35)), (1, .int a1), (2, .int a2), (3, .int a3)] [] σ := by
  rw [f_X8_span] at h
  refine r_aload_n X dX8_span_0 rfl 0 rfl ?_
  refine r_aload_n X dX8_span_1 rfl 0 rfl ?_
  refine r_iload_n X dX8_span_2 rfl 1 rfl ?_
  refine r_callV X 35 8 (by decide) rfl rfl rfl lk_X8_81 (c_X8_isElement (zl z) X.2.2.2.2.2.2.2.1 N (zD z) (zy z) (zA z) (zS z) a1 σ) ⟨Nat.le_trans (by decide) hR.1, Nat.le_trans (by decide) hR.2⟩ rfl rfl (Nat.le_of_ble_eq_true rfl) dX8_span_3 h (fun v1 σ2 h => ?_)
  refine r_if_ne X 13 dX8_span_6 (by decide) h (fun g3 h => ?_) (fun g3 h => ?_)
  · refine r_iconst X 1 dX8_span_9 (by decide) ?_
    refine r_goto X 38 dX8_span_10 (by decide) ?_
    refine pf_X8_78 X dX8_span_38 h (fun σ34 h => ?_)
    refine r_aload_n X dX8_span_41 rfl 0 rfl ?_
    refine gf_X8_78 X dX8_span_42 h (fun v35 h => ?_)
    refine r_if_le X 50 dX8_span_45 (by decide) h (fun g36 h => ?_) (fun g36 h => ?_)
    · refine r_bipush X 10 dX8_span_50 (by decide) ?_
      refine r_aload_n X dX8_span_52 rfl 0 rfl ?_
      refine gf_X8_24 X dX8_span_53 ?_
      refine r_iload_n X dX8_span_56 rfl 1 rfl ?_
      refine al_39 X dX8_span_57 h (fun v37 h => ?_)
      refine r_imul X dX8_span_58 ?_
      refine r_aload_n X dX8_span_59 rfl 0 rfl ?_
      refine gf_X8_27 X dX8_span_60 ?_
      refine r_iload_n X dX8_span_63 rfl 1 rfl ?_
      refine al_40 X dX8_span_64 h (fun v38 h => ?_)
      refine r_iadd X dX8_span_65 ?_
      refine r_lt h (fun v39 h => ?_)
      refine r_istore X [(4, .int v39), (0, .ref (zA z 35)), (1, .int a1), (2, .int a2), (3, .int a3)] dX8_span_66 (by decide) rfl ?_
      refine r_aload_n X dX8_span_68 rfl 1 rfl ?_
      refine gf_X8_24 X dX8_span_69 ?_
      refine r_iload_n X dX8_span_72 rfl 2 rfl ?_
      refine r_iload_n X dX8_span_73 rfl 3 rfl ?_
      refine as_39 X dX8_span_74 h (fun σ40 h => ?_)
      refine r_aload_n X dX8_span_75 rfl 1 rfl ?_
      refine gf_X8_27 X dX8_span_76 ?_
      refine r_iload_n X dX8_span_79 rfl 2 rfl ?_
      refine r_iload_n X dX8_span_80 rfl 4 rfl ?_
      refine as_40 X dX8_span_81 h (fun σ41 h => ?_)
      refine r_iload X dX8_span_82 0 rfl ?_
      exact r_iret Rt dX8_span_84 h
    · refine r_iconst X 0 dX8_span_48 (by decide) ?_
      exact r_iret Rt dX8_span_49 h
  · refine r_iload_n X dX8_span_13 rfl 2 rfl ?_
    refine r_iconst X 1 dX8_span_14 (by decide) ?_
    refine r_bipush X 8 dX8_span_15 (by decide) ?_
    refine r_callS X lk_X8_85 (c_X8_in (zl z) X.2.2.2.2.2.2.2.1 N (zD z) (zy z) (zA z) (zS z) a2 1 8 σ2) ⟨Nat.le_trans (by decide) hR.1, Nat.le_trans (by decide) hR.2⟩ rfl rfl (Nat.le_of_ble_eq_true rfl) dX8_span_17 h (fun v4 σ5 h => ?_)
    refine r_if_eq X 33 dX8_span_20 (by decide) h (fun g6 h => ?_) (fun g6 h => ?_)
    · refine r_iconst X 2 dX8_span_33 (by decide) ?_
      refine r_goto X 38 dX8_span_34 (by decide) ?_
      refine pf_X8_78 X dX8_span_38 h (fun σ7 h => ?_)
      refine r_aload_n X dX8_span_41 rfl 0 rfl ?_
      refine gf_X8_78 X dX8_span_42 h (fun v8 h => ?_)
      refine r_if_le X 50 dX8_span_45 (by decide) h (fun g9 h => ?_) (fun g9 h => ?_)
      · refine r_bipush X 10 dX8_span_50 (by decide) ?_
        refine r_aload_n X dX8_span_52 rfl 0 rfl ?_
        refine gf_X8_24 X dX8_span_53 ?_
        refine r_iload_n X dX8_span_56 rfl 1 rfl ?_
        refine al_39 X dX8_span_57 h (fun v10 h => ?_)
        refine r_imul X dX8_span_58 ?_
        refine r_aload_n X dX8_span_59 rfl 0 rfl ?_
        refine gf_X8_27 X dX8_span_60 ?_
        refine r_iload_n X dX8_span_63 rfl 1 rfl ?_
        refine al_40 X dX8_span_64 h (fun v11 h => ?_)
        refine r_iadd X dX8_span_65 ?_
        refine r_lt h (fun v12 h => ?_)
        refine r_istore X [(4, .int v12), (0, .ref (zA z 35)), (1, .int a1), (2, .int a2), (3, .int a3)] dX8_span_66 (by decide) rfl ?_
        refine r_aload_n X dX8_span_68 rfl 1 rfl ?_
        refine gf_X8_24 X dX8_span_69 ?_
        refine r_iload_n X dX8_span_72 rfl 2 rfl ?_
        refine r_iload_n X dX8_span_73 rfl 3 rfl ?_
        refine as_39 X dX8_span_74 h (fun σ13 h => ?_)
        refine r_aload_n X dX8_span_75 rfl 1 rfl ?_
        refine gf_X8_27 X dX8_span_76 ?_
        refine r_iload_n X dX8_span_79 rfl 2 rfl ?_
        refine r_iload_n X dX8_span_80 rfl 4 rfl ?_
        refine as_40 X dX8_span_81 h (fun σ14 h => ?_)
        refine r_iload X dX8_span_82 0 rfl ?_
        exact r_iret Rt dX8_span_84 h
      · refine r_iconst X 0 dX8_span_48 (by decide) ?_
        exact r_iret Rt dX8_span_49 h
    · refine r_iload_n X dX8_span_23 rfl 3 rfl ?_
      refine r_iconst X 1 dX8_span_24 (by decide) ?_
      refine r_bipush X 8 dX8_span_25 (by decide) ?_
      refine r_callS X lk_X8_85 (c_X8_in (zl z) X.2.2.2.2.2.2.2.1 N (zD z) (zy z) (zA z) (zS z) a3 1 8 σ5) ⟨Nat.le_trans (by decide) hR.1, Nat.le_trans (by decide) hR.2⟩ rfl rfl (Nat.le_of_ble_eq_true rfl) dX8_span_27 h (fun v15 σ16 h => ?_)
      refine r_if_ne X 37 dX8_span_30 (by decide) h (fun g17 h => ?_) (fun g17 h => ?_)
      · refine r_iconst X 2 dX8_span_33 (by decide) ?_
        refine r_goto X 38 dX8_span_34 (by decide) ?_
        refine pf_X8_78 X dX8_span_38 h (fun σ26 h => ?_)
        refine r_aload_n X dX8_span_41 rfl 0 rfl ?_
        refine gf_X8_78 X dX8_span_42 h (fun v27 h => ?_)
        refine r_if_le X 50 dX8_span_45 (by decide) h (fun g28 h => ?_) (fun g28 h => ?_)
        · refine r_bipush X 10 dX8_span_50 (by decide) ?_
          refine r_aload_n X dX8_span_52 rfl 0 rfl ?_
          refine gf_X8_24 X dX8_span_53 ?_
          refine r_iload_n X dX8_span_56 rfl 1 rfl ?_
          refine al_39 X dX8_span_57 h (fun v29 h => ?_)
          refine r_imul X dX8_span_58 ?_
          refine r_aload_n X dX8_span_59 rfl 0 rfl ?_
          refine gf_X8_27 X dX8_span_60 ?_
          refine r_iload_n X dX8_span_63 rfl 1 rfl ?_
          refine al_40 X dX8_span_64 h (fun v30 h => ?_)
          refine r_iadd X dX8_span_65 ?_
          refine r_lt h (fun v31 h => ?_)
          refine r_istore X [(4, .int v31), (0, .ref (zA z 35)), (1, .int a1), (2, .int a2), (3, .int a3)] dX8_span_66 (by decide) rfl ?_
          refine r_aload_n X dX8_span_68 rfl 1 rfl ?_
          refine gf_X8_24 X dX8_span_69 ?_
          refine r_iload_n X dX8_span_72 rfl 2 rfl ?_
          refine r_iload_n X dX8_span_73 rfl 3 rfl ?_
          refine as_39 X dX8_span_74 h (fun σ32 h => ?_)
          refine r_aload_n X dX8_span_75 rfl 1 rfl ?_
          refine gf_X8_27 X dX8_span_76 ?_
          refine r_iload_n X dX8_span_79 rfl 2 rfl ?_
          refine r_iload_n X dX8_span_80 rfl 4 rfl ?_
          refine as_40 X dX8_span_81 h (fun σ33 h => ?_)
          refine r_iload X dX8_span_82 0 rfl ?_
          exact r_iret Rt dX8_span_84 h
        · refine r_iconst X 0 dX8_span_48 (by decide) ?_
          exact r_iret Rt dX8_span_49 h
      · refine r_iconst X 0 dX8_span_37 (by decide) ?_
        refine pf_X8_78 X dX8_span_38 h (fun σ18 h => ?_)
        refine r_aload_n X dX8_span_41 rfl 0 rfl ?_
        refine gf_X8_78 X dX8_span_42 h (fun v19 h => ?_)
        refine r_if_le X 50 dX8_span_45 (by decide) h (fun g20 h => ?_) (fun g20 h => ?_)
        · refine r_bipush X 10 dX8_span_50 (by decide) ?_
          refine r_aload_n X dX8_span_52 rfl 0 rfl ?_
          refine gf_X8_24 X dX8_span_53 ?_
          refine r_iload_n X dX8_span_56 rfl 1 rfl ?_
          refine al_39 X dX8_span_57 h (fun v21 h => ?_)
          refine r_imul X dX8_span_58 ?_
          refine r_aload_n X dX8_span_59 rfl 0 rfl ?_
          refine gf_X8_27 X dX8_span_60 ?_
          refine r_iload_n X dX8_span_63 rfl 1 rfl ?_
          refine al_40 X dX8_span_64 h (fun v22 h => ?_)
          refine r_iadd X dX8_span_65 ?_
          refine r_lt h (fun v23 h => ?_)
          refine r_istore X [(4, .int v23), (0, .ref (zA z 35)), (1, .int a1), (2, .int a2), (3, .int a3)] dX8_span_66 (by decide) rfl ?_
          refine r_aload_n X dX8_span_68 rfl 1 rfl ?_
          refine gf_X8_24 X dX8_span_69 ?_
          refine r_iload_n X dX8_span_72 rfl 2 rfl ?_
          refine r_iload_n X dX8_span_73 rfl 3 rfl ?_
          refine as_39 X dX8_span_74 h (fun σ24 h => ?_)
          refine r_aload_n X dX8_span_75 rfl 1 rfl ?_
          refine gf_X8_27 X dX8_span_76 ?_
          refine r_iload_n X dX8_span_79 rfl 2 rfl ?_
          refine r_iload_n X dX8_span_80 rfl 4 rfl ?_
          refine as_40 X dX8_span_81 h (fun σ25 h => ?_)
          refine r_iload X dX8_span_82 0 rfl ?_
          exact r_iret Rt dX8_span_84 h
        · refine r_iconst X 0 dX8_span_48 (by decide) ?_
          exact r_iret Rt dX8_span_49 h
theorem c_X8_span (l : Launch) (hl : l.stackTraces = false) (N : Nat) (D : va_G) (cy : Nat → ClassId) (ad sa : Nat → Nat) (a1 : Int32) (a2 : Int32) (a3 : Int32) (σ : Sg) : CtI l yX8_span cX8_span 5 (some .int) 1 22 D cy ad sa [.ref (ad 35), .int a1, .int a2, .int a3] σ (f_X8_span N a1 a2 a3 σ) :=
  ct_I hl (by decide +kernel) (Nat.le_of_ble_eq_true rfl) (fun z res e1 e2 e3 e4 e5 e6 X Rt h => by subst e1 e2 e3 e4 e5; exact w_X8_span X ⟨e6.1, e6.2⟩ Rt N a1 a2 a3 σ h)
def f_X8_outline (N : Nat) (a1 : Int32) (a2 : Int32) (σ : Sg) : Option (Int32 × Sg) := cI (f_X8_go N σ) (fun v1 σ2 => st (ss σ2 35 0 0) (fun σ3 => if a1 = (-1) then (lt (σ3 35 22) (fun v39 => some (v39, σ3))) else (lt (σ3 35 22) (fun v5 => cI (f_X8_in N a1 0 (v5 - 1) σ3) (fun v6 σ7 => if v6 = 0 then (st (ss σ7 35 0 1) (fun σ9 => lt (σ9 35 0) (fun v10 => if v10 ≤ 0 then (if a2 = 0 then (rdA 60 (σ9 51) a1 (fun v17 => some (v17, σ9))) else (if a2 = 1 then (rdA 60 (σ9 52) a1 (fun v16 => some (v16, σ9))) else (rdA 60 (σ9 51) a1 (fun v14 => rdA 60 (σ9 37) v14 (fun v15 => some (v15, σ9)))))) else (some (0, σ9))))) else (cI (f_X8_in N a2 0 2 σ7) (fun v18 σ19 => if v18 = 0 then (st (ss σ19 35 0 1) (fun σ21 => lt (σ21 35 0) (fun v22 => if v22 ≤ 0 then (if a2 = 0 then (rdA 60 (σ21 51) a1 (fun v29 => some (v29, σ21))) else (if a2 = 1 then (rdA 60 (σ21 52) a1 (fun v28 => some (v28, σ21))) else (rdA 60 (σ21 51) a1 (fun v26 => rdA 60 (σ21 37) v26 (fun v27 => some (v27, σ21)))))) else (some (0, σ21))))) else (st (ss σ19 35 0 0) (fun σ30 => lt (σ30 35 0) (fun v31 => if v31 ≤ 0 then (if a2 = 0 then (rdA 60 (σ30 51) a1 (fun v38 => some (v38, σ30))) else (if a2 = 1 then (rdA 60 (σ30 52) a1 (fun v37 => some (v37, σ30))) else (rdA 60 (σ30 51) a1 (fun v35 => rdA 60 (σ30 37) v35 (fun v36 => some (v36, σ30)))))) else (some (0, σ30))))))))))))
set_option maxHeartbeats 4000000 in
set_option maxRecDepth 100000 in
theorem w_X8_outline {z : Cz} (X : Cx z cX8_outline 3 RX8) (hR : 3 ≤ (zR z).frames ∧ 69 ≤ (zR z).locals) {res : (Int32 × Sg)} (Rt : RtI z cX8_outline 3 .int res) (N : Nat) (a1 : Int32) (a2 : Int32) (σ : Sg) (h : f_X8_outline N a1 a2 σ = some res) : V z 0 3 0 [(0, .ref (zA z 35)), (1, .int a1), (2, .int a2)] [] σ := by
  rw [f_X8_outline] at h
  refine r_aload_n X dX8_outline_0 rfl 0 rfl ?_
  refine r_callVv X 35 8 (by decide) rfl rfl rfl lk_X8_135 (c_X8_go (zl z) X.2.2.2.2.2.2.2.1 N (zD z) (zy z) (zA z) (zS z) σ) ⟨Nat.le_trans (by decide) hR.1, Nat.le_trans (by decide) hR.2⟩ rfl rfl (Nat.le_of_ble_eq_true rfl) dX8_outline_1 h (fun v1 σ2 h => ?_)
  refine r_aload_n X dX8_outline_4 rfl 0 rfl ?_
  refine r_iconst X 0 dX8_outline_5 (by decide) ?_
  refine pf_X8_78 X dX8_outline_6 h (fun σ3 h => ?_)
  refine r_iload_n X dX8_outline_9 rfl 1 rfl ?_
  refine r_iconst X (-1) dX8_outline_10 (by decide) ?_
  refine r_icmp_ne X 19 dX8_outline_11 (by decide) h (fun g4 h => ?_) (fun g4 h => ?_)
  · refine r_aload_n X dX8_outline_14 rfl 0 rfl ?_
    refine gf_X8_132 X dX8_outline_15 h (fun v39 h => ?_)
    exact r_iret Rt dX8_outline_18 h
  · refine r_aload_n X dX8_outline_19 rfl 0 rfl ?_
    refine r_iload_n X dX8_outline_20 rfl 1 rfl ?_
    refine r_iconst X 0 dX8_outline_21 (by decide) ?_
    refine r_aload_n X dX8_outline_22 rfl 0 rfl ?_
    refine gf_X8_132 X dX8_outline_23 h (fun v5 h => ?_)
    refine r_iconst X 1 dX8_outline_26 (by decide) ?_
    refine r_isub X dX8_outline_27 ?_
    refine r_callS X lk_X8_85 (c_X8_in (zl z) X.2.2.2.2.2.2.2.1 N (zD z) (zy z) (zA z) (zS z) a1 0 (v5 - 1) σ3) ⟨Nat.le_trans (by decide) hR.1, Nat.le_trans (by decide) hR.2⟩ rfl rfl (Nat.le_of_ble_eq_true rfl) dX8_outline_28 h (fun v6 σ7 h => ?_)
    refine r_if_eq X 47 dX8_outline_31 (by decide) h (fun g8 h => ?_) (fun g8 h => ?_)
    · refine r_iconst X 1 dX8_outline_47 (by decide) ?_
      refine pf_X8_78 X dX8_outline_48 h (fun σ9 h => ?_)
      refine r_aload_n X dX8_outline_51 rfl 0 rfl ?_
      refine gf_X8_78 X dX8_outline_52 h (fun v10 h => ?_)
      refine r_if_le X 60 dX8_outline_55 (by decide) h (fun g11 h => ?_) (fun g11 h => ?_)
      · refine r_iload_n X dX8_outline_60 rfl 2 rfl ?_
        refine r_if_ne X 73 dX8_outline_61 (by decide) h (fun g12 h => ?_) (fun g12 h => ?_)
        · refine r_aload_n X dX8_outline_64 rfl 0 rfl ?_
          refine gf_X8_60 X dX8_outline_65 ?_
          refine r_iload_n X dX8_outline_68 rfl 1 rfl ?_
          refine al_51 X dX8_outline_69 h (fun v17 h => ?_)
          refine r_goto X 98 dX8_outline_70 (by decide) ?_
          exact r_iret Rt dX8_outline_98 h
        · refine r_iload_n X dX8_outline_73 rfl 2 rfl ?_
          refine r_iconst X 1 dX8_outline_74 (by decide) ?_
          refine r_icmp_ne X 87 dX8_outline_75 (by decide) h (fun g13 h => ?_) (fun g13 h => ?_)
          · refine r_aload_n X dX8_outline_78 rfl 0 rfl ?_
            refine gf_X8_63 X dX8_outline_79 ?_
            refine r_iload_n X dX8_outline_82 rfl 1 rfl ?_
            refine al_52 X dX8_outline_83 h (fun v16 h => ?_)
            refine r_goto X 98 dX8_outline_84 (by decide) ?_
            exact r_iret Rt dX8_outline_98 h
          · refine r_aload_n X dX8_outline_87 rfl 0 rfl ?_
            refine gf_X8_17 X dX8_outline_88 ?_
            refine r_aload_n X dX8_outline_91 rfl 0 rfl ?_
            refine gf_X8_60 X dX8_outline_92 ?_
            refine r_iload_n X dX8_outline_95 rfl 1 rfl ?_
            refine al_51 X dX8_outline_96 h (fun v14 h => ?_)
            refine al_37 X dX8_outline_97 h (fun v15 h => ?_)
            exact r_iret Rt dX8_outline_98 h
      · refine r_iconst X 0 dX8_outline_58 (by decide) ?_
        exact r_iret Rt dX8_outline_59 h
    · refine r_iload_n X dX8_outline_34 rfl 2 rfl ?_
      refine r_iconst X 0 dX8_outline_35 (by decide) ?_
      refine r_iconst X 2 dX8_outline_36 (by decide) ?_
      refine r_callS X lk_X8_85 (c_X8_in (zl z) X.2.2.2.2.2.2.2.1 N (zD z) (zy z) (zA z) (zS z) a2 0 2 σ7) ⟨Nat.le_trans (by decide) hR.1, Nat.le_trans (by decide) hR.2⟩ rfl rfl (Nat.le_of_ble_eq_true rfl) dX8_outline_37 h (fun v18 σ19 h => ?_)
      refine r_if_eq X 47 dX8_outline_40 (by decide) h (fun g20 h => ?_) (fun g20 h => ?_)
      · refine r_iconst X 1 dX8_outline_47 (by decide) ?_
        refine pf_X8_78 X dX8_outline_48 h (fun σ21 h => ?_)
        refine r_aload_n X dX8_outline_51 rfl 0 rfl ?_
        refine gf_X8_78 X dX8_outline_52 h (fun v22 h => ?_)
        refine r_if_le X 60 dX8_outline_55 (by decide) h (fun g23 h => ?_) (fun g23 h => ?_)
        · refine r_iload_n X dX8_outline_60 rfl 2 rfl ?_
          refine r_if_ne X 73 dX8_outline_61 (by decide) h (fun g24 h => ?_) (fun g24 h => ?_)
          · refine r_aload_n X dX8_outline_64 rfl 0 rfl ?_
            refine gf_X8_60 X dX8_outline_65 ?_
            refine r_iload_n X dX8_outline_68 rfl 1 rfl ?_
            refine al_51 X dX8_outline_69 h (fun v29 h => ?_)
            refine r_goto X 98 dX8_outline_70 (by decide) ?_
            exact r_iret Rt dX8_outline_98 h
          · refine r_iload_n X dX8_outline_73 rfl 2 rfl ?_
            refine r_iconst X 1 dX8_outline_74 (by decide) ?_
            refine r_icmp_ne X 87 dX8_outline_75 (by decide) h (fun g25 h => ?_) (fun g25 h => ?_)
            · refine r_aload_n X dX8_outline_78 rfl 0 rfl ?_
              refine gf_X8_63 X dX8_outline_79 ?_
              refine r_iload_n X dX8_outline_82 rfl 1 rfl ?_
              refine al_52 X dX8_outline_83 h (fun v28 h => ?_)
              refine r_goto X 98 dX8_outline_84 (by decide) ?_
              exact r_iret Rt dX8_outline_98 h
            · refine r_aload_n X dX8_outline_87 rfl 0 rfl ?_
              refine gf_X8_17 X dX8_outline_88 ?_
              refine r_aload_n X dX8_outline_91 rfl 0 rfl ?_
              refine gf_X8_60 X dX8_outline_92 ?_
              refine r_iload_n X dX8_outline_95 rfl 1 rfl ?_
              refine al_51 X dX8_outline_96 h (fun v26 h => ?_)
              refine al_37 X dX8_outline_97 h (fun v27 h => ?_)
              exact r_iret Rt dX8_outline_98 h
        · refine r_iconst X 0 dX8_outline_58 (by decide) ?_
          exact r_iret Rt dX8_outline_59 h
      · refine r_iconst X 0 dX8_outline_43 (by decide) ?_
        refine r_goto X 48 dX8_outline_44 (by decide) ?_
        refine pf_X8_78 X dX8_outline_48 h (fun σ30 h => ?_)
        refine r_aload_n X dX8_outline_51 rfl 0 rfl ?_
        refine gf_X8_78 X dX8_outline_52 h (fun v31 h => ?_)
        refine r_if_le X 60 dX8_outline_55 (by decide) h (fun g32 h => ?_) (fun g32 h => ?_)
        · refine r_iload_n X dX8_outline_60 rfl 2 rfl ?_
          refine r_if_ne X 73 dX8_outline_61 (by decide) h (fun g33 h => ?_) (fun g33 h => ?_)
          · refine r_aload_n X dX8_outline_64 rfl 0 rfl ?_
            refine gf_X8_60 X dX8_outline_65 ?_
            refine r_iload_n X dX8_outline_68 rfl 1 rfl ?_
            refine al_51 X dX8_outline_69 h (fun v38 h => ?_)
            refine r_goto X 98 dX8_outline_70 (by decide) ?_
            exact r_iret Rt dX8_outline_98 h
          · refine r_iload_n X dX8_outline_73 rfl 2 rfl ?_
            refine r_iconst X 1 dX8_outline_74 (by decide) ?_
            refine r_icmp_ne X 87 dX8_outline_75 (by decide) h (fun g34 h => ?_) (fun g34 h => ?_)
            · refine r_aload_n X dX8_outline_78 rfl 0 rfl ?_
              refine gf_X8_63 X dX8_outline_79 ?_
              refine r_iload_n X dX8_outline_82 rfl 1 rfl ?_
              refine al_52 X dX8_outline_83 h (fun v37 h => ?_)
              refine r_goto X 98 dX8_outline_84 (by decide) ?_
              exact r_iret Rt dX8_outline_98 h
            · refine r_aload_n X dX8_outline_87 rfl 0 rfl ?_
              refine gf_X8_17 X dX8_outline_88 ?_
              refine r_aload_n X dX8_outline_91 rfl 0 rfl ?_
              refine gf_X8_60 X dX8_outline_92 ?_
              refine r_iload_n X dX8_outline_95 rfl 1 rfl ?_
              refine al_51 X dX8_outline_96 h (fun v35 h => ?_)
              refine al_37 X dX8_outline_97 h (fun v36 h => ?_)
              exact r_iret Rt dX8_outline_98 h
        · refine r_iconst X 0 dX8_outline_58 (by decide) ?_
          exact r_iret Rt dX8_outline_59 h
theorem c_X8_outline (l : Launch) (hl : l.stackTraces = false) (N : Nat) (D : va_G) (cy : Nat → ClassId) (ad sa : Nat → Nat) (a1 : Int32) (a2 : Int32) (σ : Sg) : CtI l yX8_outline cX8_outline 3 (some .int) 3 69 D cy ad sa [.ref (ad 35), .int a1, .int a2] σ (f_X8_outline N a1 a2 σ) :=
  ct_I hl (by decide +kernel) (Nat.le_of_ble_eq_true rfl) (fun z res e1 e2 e3 e4 e5 e6 X Rt h => by subst e1 e2 e3 e4 e5; exact w_X8_outline X ⟨e6.1, e6.2⟩ Rt N a1 a2 σ h)
def f_X8_untagged (N : Nat) (a1 : Int32) (σ : Sg) : Option (Int32 × Sg) := st (ss σ 35 0 0) (fun σ1 => if a1 = (-1) then (cI (f_X8_countUntagged N σ1) (fun v16 σ17 => some (v16, σ17))) else (if 0 ≤ a1 then (cI (f_X8_untaggedAt N a1 σ1) (fun v4 σ5 => if v4 = (-1) then (st (ss σ5 35 0 1) (fun σ10 => lt (σ10 35 0) (fun v11 => if v11 ≤ 0 then (some (v4, σ10)) else (some (0, σ10))))) else (st (ss σ5 35 0 0) (fun σ7 => lt (σ7 35 0) (fun v8 => if v8 ≤ 0 then (some (v4, σ7)) else (some (0, σ7))))))) else (st (ss σ1 35 0 1) (fun σ13 => lt (σ13 35 0) (fun v14 => if v14 ≤ 0 then (some ((-1), σ13)) else (some (0, σ13)))))))
set_option maxHeartbeats 4000000 in
set_option maxRecDepth 100000 in
theorem w_X8_untagged {z : Cz} (X : Cx z cX8_untagged 3 RX8) (hR : 2 ≤ (zR z).frames ∧ 48 ≤ (zR z).locals) {res : (Int32 × Sg)} (Rt : RtI z cX8_untagged 3 .int res) (N : Nat) (a1 : Int32) (σ : Sg) (h : f_X8_untagged N a1 σ = some res) : V z 0 3 0 [(0, .ref (zA z 35)), (1, .int a1)] [] σ := by
  rw [f_X8_untagged] at h
  refine r_aload_n X dX8_untagged_0 rfl 0 rfl ?_
  refine r_iconst X 0 dX8_untagged_1 (by decide) ?_
  refine pf_X8_78 X dX8_untagged_2 h (fun σ1 h => ?_)
  refine r_iload_n X dX8_untagged_5 rfl 1 rfl ?_
  refine r_iconst X (-1) dX8_untagged_6 (by decide) ?_
  refine r_icmp_ne X 15 dX8_untagged_7 (by decide) h (fun g2 h => ?_) (fun g2 h => ?_)
  · refine r_aload_n X dX8_untagged_10 rfl 0 rfl ?_
    refine r_callV X 35 8 (by decide) rfl rfl rfl lk_X8_173 (c_X8_countUntagged (zl z) X.2.2.2.2.2.2.2.1 N (zD z) (zy z) (zA z) (zS z) σ1) ⟨Nat.le_trans (by decide) hR.1, Nat.le_trans (by decide) hR.2⟩ rfl rfl (Nat.le_of_ble_eq_true rfl) dX8_untagged_11 h (fun v16 σ17 h => ?_)
    exact r_iret Rt dX8_untagged_14 h
  · refine r_iload_n X dX8_untagged_15 rfl 1 rfl ?_
    refine r_if_ge X 23 dX8_untagged_16 (by decide) h (fun g3 h => ?_) (fun g3 h => ?_)
    · refine r_aload_n X dX8_untagged_23 rfl 0 rfl ?_
      refine r_iload_n X dX8_untagged_24 rfl 1 rfl ?_
      refine r_callV X 35 8 (by decide) rfl rfl rfl lk_X8_177 (c_X8_untaggedAt (zl z) X.2.2.2.2.2.2.2.1 N (zD z) (zy z) (zA z) (zS z) a1 σ1) ⟨Nat.le_trans (by decide) hR.1, Nat.le_trans (by decide) hR.2⟩ rfl rfl (Nat.le_of_ble_eq_true rfl) dX8_untagged_25 h (fun v4 σ5 h => ?_)
      refine r_istore_n X [(2, .int v4), (0, .ref (zA z 35)), (1, .int a1)] dX8_untagged_28 rfl (by decide) rfl ?_
      refine r_aload_n X dX8_untagged_29 rfl 1 rfl ?_
      refine r_iload_n X dX8_untagged_30 rfl 0 rfl ?_
      refine r_iconst X (-1) dX8_untagged_31 (by decide) ?_
      refine r_icmp_ne X 39 dX8_untagged_32 (by decide) h (fun g6 h => ?_) (fun g6 h => ?_)
      · refine r_iconst X 1 dX8_untagged_35 (by decide) ?_
        refine r_goto X 40 dX8_untagged_36 (by decide) ?_
        refine pf_X8_78 X dX8_untagged_40 h (fun σ10 h => ?_)
        refine r_aload_n X dX8_untagged_43 rfl 1 rfl ?_
        refine gf_X8_78 X dX8_untagged_44 h (fun v11 h => ?_)
        refine r_if_le X 54 dX8_untagged_47 (by decide) h (fun g12 h => ?_) (fun g12 h => ?_)
        · refine r_iload_n X dX8_untagged_54 rfl 0 rfl ?_
          exact r_iret Rt dX8_untagged_55 h
        · refine r_iconst X 0 dX8_untagged_50 (by decide) ?_
          refine r_goto X 55 dX8_untagged_51 (by decide) ?_
          exact r_iret Rt dX8_untagged_55 h
      · refine r_iconst X 0 dX8_untagged_39 (by decide) ?_
        refine pf_X8_78 X dX8_untagged_40 h (fun σ7 h => ?_)
        refine r_aload_n X dX8_untagged_43 rfl 1 rfl ?_
        refine gf_X8_78 X dX8_untagged_44 h (fun v8 h => ?_)
        refine r_if_le X 54 dX8_untagged_47 (by decide) h (fun g9 h => ?_) (fun g9 h => ?_)
        · refine r_iload_n X dX8_untagged_54 rfl 0 rfl ?_
          exact r_iret Rt dX8_untagged_55 h
        · refine r_iconst X 0 dX8_untagged_50 (by decide) ?_
          refine r_goto X 55 dX8_untagged_51 (by decide) ?_
          exact r_iret Rt dX8_untagged_55 h
    · refine r_iconst X (-1) dX8_untagged_19 (by decide) ?_
      refine r_goto X 28 dX8_untagged_20 (by decide) ?_
      refine r_istore_n X [(2, .int (-1)), (0, .ref (zA z 35)), (1, .int a1)] dX8_untagged_28 rfl (by decide) rfl ?_
      refine r_aload_n X dX8_untagged_29 rfl 1 rfl ?_
      refine r_iload_n X dX8_untagged_30 rfl 0 rfl ?_
      refine r_iconst X (-1) dX8_untagged_31 (by decide) ?_
      refine r_icmp_ne_f X 39 dX8_untagged_32 (by decide) (by decide) ?_
      refine r_iconst X 1 dX8_untagged_35 (by decide) ?_
      refine r_goto X 40 dX8_untagged_36 (by decide) ?_
      refine pf_X8_78 X dX8_untagged_40 h (fun σ13 h => ?_)
      refine r_aload_n X dX8_untagged_43 rfl 1 rfl ?_
      refine gf_X8_78 X dX8_untagged_44 h (fun v14 h => ?_)
      refine r_if_le X 54 dX8_untagged_47 (by decide) h (fun g15 h => ?_) (fun g15 h => ?_)
      · refine r_iload_n X dX8_untagged_54 rfl 0 rfl ?_
        exact r_iret Rt dX8_untagged_55 h
      · refine r_iconst X 0 dX8_untagged_50 (by decide) ?_
        refine r_goto X 55 dX8_untagged_51 (by decide) ?_
        exact r_iret Rt dX8_untagged_55 h
theorem c_X8_untagged (l : Launch) (hl : l.stackTraces = false) (N : Nat) (D : va_G) (cy : Nat → ClassId) (ad sa : Nat → Nat) (a1 : Int32) (σ : Sg) : CtI l yX8_untagged cX8_untagged 3 (some .int) 2 48 D cy ad sa [.ref (ad 35), .int a1] σ (f_X8_untagged N a1 σ) :=
  ct_I hl (by decide +kernel) (Nat.le_of_ble_eq_true rfl) (fun z res e1 e2 e3 e4 e5 e6 X Rt h => by subst e1 e2 e3 e4 e5; exact w_X8_untagged X ⟨e6.1, e6.2⟩ Rt N a1 σ h)
