def f_J7_fill_21_5 (N : Nat) (x1 : Int32) (x3 : Int32) (K : Sg → Option (Int32 × Sg)) : Nat → Int32 → Sg → Option (Int32 × Sg)
  | 0, _, _ => none
  | n + 1, x2, σ => if x3 ≤ x2 then (K σ) else (wrA 480 σ 21 x2 x1 (fun σ2 => lt (x2 + 1) (fun v3 => f_J7_fill_21_5 N x1 x3 K n v3 σ2)))
def f_J7_fill_21 (N : Nat) (a2 : Int32) (σ : Sg) : Option (Int32 × Sg) := f_J7_fill_21_5 N a2 480 (fun σ4 => some (0, σ4)) N 0 σ
set_option maxHeartbeats 4000000 in
set_option maxRecDepth 100000 in
theorem w_J7_fill_21_5 {z : Cz} (X : Cx z cJ7_fill_53178 4 RJ7) (hR : 0 ≤ (zR z).frames ∧ 0 ≤ (zR z).locals) {res : (Int32 × Sg)} (N : Nat) (x1 : Int32) (x3 : Int32) (K : Sg → Option (Int32 × Sg)) (kx : ∀ (σ : Sg), K σ = some res → V z 0 4 20 [] [] σ) : ∀ (n : Nat) (x2 : Int32) (σ : Sg), f_J7_fill_21_5 N x1 x3 K n x2 σ = some res → V z 0 4 5 [(0, .ref (zA z 21)), (1, .int x1), (3, .int x3), (2, .int x2)] [] σ := by
  intro n
  induction n with
  | zero =>
    intro x2 σ h
    rw [f_J7_fill_21_5] at h
    cases h
  | succ n ih =>
    intro x2 σ h
    rw [f_J7_fill_21_5] at h
    refine r_iload_n X dJ7_fill_53178_5 rfl 3 rfl ?_
    refine r_iload_n X dJ7_fill_53178_6 rfl 2 rfl ?_
    refine r_icmp_ge X 20 dJ7_fill_53178_7 (by decide) h (fun g1 h => ?_) (fun g1 h => ?_)
    · refine r_sub [] rfl ?_
      exact kx  σ h
    · refine r_aload_n X dJ7_fill_53178_10 rfl 0 rfl ?_
      refine r_iload_n X dJ7_fill_53178_11 rfl 3 rfl ?_
      refine r_iload_n X dJ7_fill_53178_12 rfl 1 rfl ?_
      refine as_21 X dJ7_fill_53178_13 h (fun σ2 h => ?_)
      refine r_iinc X 1 (fun v3 => [(2, .int v3), (0, .ref (zA z 21)), (1, .int x1), (3, .int x3)]) dJ7_fill_53178_14 3 rfl (by decide) (by decide) (fun _ => rfl) h (fun v3 h => ?_)
      refine r_goto X 5 dJ7_fill_53178_17 (by decide) ?_
      refine r_sub [1, 2, 3, 0] rfl ?_
      exact ih v3 σ2 h
set_option maxHeartbeats 4000000 in
set_option maxRecDepth 100000 in
theorem w_J7_fill_21 {z : Cz} (X : Cx z cJ7_fill_53178 4 RJ7) (hR : 0 ≤ (zR z).frames ∧ 0 ≤ (zR z).locals) {res : (Int32 × Sg)} (Rt : RtV z cJ7_fill_53178 4 res) (N : Nat) (a2 : Int32) (σ : Sg) (h : f_J7_fill_21 N a2 σ = some res) : V z 0 4 0 [(0, .ref (zA z 21)), (1, .int a2)] [] σ := by
  rw [f_J7_fill_21] at h
  refine r_iconst X 0 dJ7_fill_53178_0 (by decide) ?_
  refine r_istore_n X [(2, .int 0), (0, .ref (zA z 21)), (1, .int a2)] dJ7_fill_53178_1 rfl (by decide) rfl ?_
  refine r_aload_n X dJ7_fill_53178_2 rfl 1 rfl ?_
  refine ln_21 X dJ7_fill_53178_3 ?_
  refine r_istore_n X [(3, .int 480), (2, .int 0), (0, .ref (zA z 21)), (1, .int a2)] dJ7_fill_53178_4 rfl (by decide) rfl ?_
  refine r_sub [2, 3, 0, 1] rfl ?_
  refine w_J7_fill_21_5 X hR N a2 480 _ (fun σ4 h => ?_) N 0 σ h
  exact r_vret Rt dJ7_fill_53178_20 h
theorem c_J7_fill_21 (l : Launch) (hl : l.stackTraces = false) (N : Nat) (D : va_G) (cy : Nat → ClassId) (ad sa : Nat → Nat) (a2 : Int32) (σ : Sg) : CtV l yJ7_fill_53178 cJ7_fill_53178 4 0 0 D cy ad sa [.ref (ad 21), .int a2] σ (f_J7_fill_21 N a2 σ) :=
  ct_V hl (by decide +kernel) (Nat.le_of_ble_eq_true rfl) (fun z res e1 e2 e3 e4 e5 e6 X Rt h => by subst e1 e2 e3 e4 e5; exact w_J7_fill_21 X ⟨e6.1, e6.2⟩ Rt N a2 σ h)
def f_J7_fill_33_5 (N : Nat) (x1 : Int32) (x3 : Int32) (K : Sg → Option (Int32 × Sg)) : Nat → Int32 → Sg → Option (Int32 × Sg)
  | 0, _, _ => none
  | n + 1, x2, σ => if x3 ≤ x2 then (K σ) else (wrA 10 σ 33 x2 x1 (fun σ2 => lt (x2 + 1) (fun v3 => f_J7_fill_33_5 N x1 x3 K n v3 σ2)))
def f_J7_fill_33 (N : Nat) (a2 : Int32) (σ : Sg) : Option (Int32 × Sg) := f_J7_fill_33_5 N a2 10 (fun σ4 => some (0, σ4)) N 0 σ
set_option maxHeartbeats 4000000 in
set_option maxRecDepth 100000 in
theorem w_J7_fill_33_5 {z : Cz} (X : Cx z cJ7_fill_53178 4 RJ7) (hR : 0 ≤ (zR z).frames ∧ 0 ≤ (zR z).locals) {res : (Int32 × Sg)} (N : Nat) (x1 : Int32) (x3 : Int32) (K : Sg → Option (Int32 × Sg)) (kx : ∀ (σ : Sg), K σ = some res → V z 0 4 20 [] [] σ) : ∀ (n : Nat) (x2 : Int32) (σ : Sg), f_J7_fill_33_5 N x1 x3 K n x2 σ = some res → V z 0 4 5 [(0, .ref (zA z 33)), (1, .int x1), (3, .int x3), (2, .int x2)] [] σ := by
  intro n
  induction n with
  | zero =>
    intro x2 σ h
    rw [f_J7_fill_33_5] at h
    cases h
  | succ n ih =>
    intro x2 σ h
    rw [f_J7_fill_33_5] at h
    refine r_iload_n X dJ7_fill_53178_5 rfl 3 rfl ?_
    refine r_iload_n X dJ7_fill_53178_6 rfl 2 rfl ?_
    refine r_icmp_ge X 20 dJ7_fill_53178_7 (by decide) h (fun g1 h => ?_) (fun g1 h => ?_)
    · refine r_sub [] rfl ?_
      exact kx  σ h
    · refine r_aload_n X dJ7_fill_53178_10 rfl 0 rfl ?_
      refine r_iload_n X dJ7_fill_53178_11 rfl 3 rfl ?_
      refine r_iload_n X dJ7_fill_53178_12 rfl 1 rfl ?_
      refine as_33 X dJ7_fill_53178_13 h (fun σ2 h => ?_)
      refine r_iinc X 1 (fun v3 => [(2, .int v3), (0, .ref (zA z 33)), (1, .int x1), (3, .int x3)]) dJ7_fill_53178_14 3 rfl (by decide) (by decide) (fun _ => rfl) h (fun v3 h => ?_)
      refine r_goto X 5 dJ7_fill_53178_17 (by decide) ?_
      refine r_sub [1, 2, 3, 0] rfl ?_
      exact ih v3 σ2 h
set_option maxHeartbeats 4000000 in
set_option maxRecDepth 100000 in
theorem w_J7_fill_33 {z : Cz} (X : Cx z cJ7_fill_53178 4 RJ7) (hR : 0 ≤ (zR z).frames ∧ 0 ≤ (zR z).locals) {res : (Int32 × Sg)} (Rt : RtV z cJ7_fill_53178 4 res) (N : Nat) (a2 : Int32) (σ : Sg) (h : f_J7_fill_33 N a2 σ = some res) : V z 0 4 0 [(0, .ref (zA z 33)), (1, .int a2)] [] σ := by
  rw [f_J7_fill_33] at h
  refine r_iconst X 0 dJ7_fill_53178_0 (by decide) ?_
  refine r_istore_n X [(2, .int 0), (0, .ref (zA z 33)), (1, .int a2)] dJ7_fill_53178_1 rfl (by decide) rfl ?_
  refine r_aload_n X dJ7_fill_53178_2 rfl 1 rfl ?_
  refine ln_33 X dJ7_fill_53178_3 ?_
  refine r_istore_n X [(3, .int 10), (2, .int 0), (0, .ref (zA z 33)), (1, .int a2)] dJ7_fill_53178_4 rfl (by decide) rfl ?_
  refine r_sub [2, 3, 0, 1] rfl ?_
  refine w_J7_fill_33_5 X hR N a2 10 _ (fun σ4 h => ?_) N 0 σ h
  exact r_vret Rt dJ7_fill_53178_20 h
theorem c_J7_fill_33 (l : Launch) (hl : l.stackTraces = false) (N : Nat) (D : va_G) (cy : Nat → ClassId) (ad sa : Nat → Nat) (a2 : Int32) (σ : Sg) : CtV l yJ7_fill_53178 cJ7_fill_53178 4 0 0 D cy ad sa [.ref (ad 33), .int a2] σ (f_J7_fill_33 N a2 σ) :=
  ct_V hl (by decide +kernel) (Nat.le_of_ble_eq_true rfl) (fun z res e1 e2 e3 e4 e5 e6 X Rt h => by subst e1 e2 e3 e4 e5; exact w_J7_fill_33 X ⟨e6.1, e6.2⟩ Rt N a2 σ h)
def f_X0_append (N : Nat) (a1 : Int32) (a2 : Int32) (a3 : Int32) (σ : Sg) : Option (Int32 × Sg) := lt (σ 22 3) (fun v1 => if 760 ≤ v1 then (some (0, σ)) else (lt (σ 22 3) (fun v3 => wrA 760 σ 23 v3 a1 (fun σ4 => lt (σ4 22 3) (fun v5 => wrA 760 σ4 24 v5 a2 (fun σ6 => lt (σ6 22 3) (fun v7 => wrA 760 σ6 25 v7 a3 (fun σ8 => lt (σ8 22 3) (fun v9 => st (ss σ8 22 3 (v9 + 1)) (fun σ10 => some (0, σ10)))))))))))
set_option maxHeartbeats 4000000 in
set_option maxRecDepth 100000 in
theorem w_X0_append {z : Cz} (X : Cx z cX0_append 4 RX0) (hR : 0 ≤ (zR z).frames ∧ 0 ≤ (zR z).locals) {res : (Int32 × Sg)} (Rt : RtV z cX0_append 4 res) (N : Nat) (a1 : Int32) (a2 : Int32) (a3 : Int32) (σ : Sg) (h : f_X0_append N a1 a2 a3 σ = some res) : V z 0 4 0 [(0, .ref (zA z 22)), (1, .int a1), (2, .int a2), (3, .int a3)] [] σ := by
  rw [f_X0_append] at h
  refine r_aload_n X dX0_append_0 rfl 0 rfl ?_
  refine gf_X0_21 X dX0_append_1 h (fun v1 h => ?_)
  refine r_sipush X 760 dX0_append_4 (by decide) ?_
  refine r_icmp_ge X 50 dX0_append_7 (by decide) h (fun g2 h => ?_) (fun g2 h => ?_)
  · exact r_vret Rt dX0_append_50 h
  · refine r_aload_n X dX0_append_10 rfl 0 rfl ?_
    refine gf_X0_11 X dX0_append_11 ?_
    refine r_aload_n X dX0_append_14 rfl 0 rfl ?_
    refine gf_X0_21 X dX0_append_15 h (fun v3 h => ?_)
    refine r_iload_n X dX0_append_18 rfl 1 rfl ?_
    refine as_23 X dX0_append_19 h (fun σ4 h => ?_)
    refine r_aload_n X dX0_append_20 rfl 0 rfl ?_
    refine gf_X0_15 X dX0_append_21 ?_
    refine r_aload_n X dX0_append_24 rfl 0 rfl ?_
    refine gf_X0_21 X dX0_append_25 h (fun v5 h => ?_)
    refine r_iload_n X dX0_append_28 rfl 2 rfl ?_
    refine as_24 X dX0_append_29 h (fun σ6 h => ?_)
    refine r_aload_n X dX0_append_30 rfl 0 rfl ?_
    refine gf_X0_18 X dX0_append_31 ?_
    refine r_aload_n X dX0_append_34 rfl 0 rfl ?_
    refine gf_X0_21 X dX0_append_35 h (fun v7 h => ?_)
    refine r_iload_n X dX0_append_38 rfl 3 rfl ?_
    refine as_25 X dX0_append_39 h (fun σ8 h => ?_)
    refine r_aload_n X dX0_append_40 rfl 0 rfl ?_
    refine r_dup X dX0_append_41 rfl ?_
    refine gf_X0_21 X dX0_append_42 h (fun v9 h => ?_)
    refine r_iconst X 1 dX0_append_45 (by decide) ?_
    refine r_iadd X dX0_append_46 ?_
    refine pf_X0_21 X dX0_append_47 h (fun σ10 h => ?_)
    exact r_vret Rt dX0_append_50 h
theorem c_X0_append (l : Launch) (hl : l.stackTraces = false) (N : Nat) (D : va_G) (cy : Nat → ClassId) (ad sa : Nat → Nat) (a1 : Int32) (a2 : Int32) (a3 : Int32) (σ : Sg) : CtV l yX0_append cX0_append 4 0 0 D cy ad sa [.ref (ad 22), .int a1, .int a2, .int a3] σ (f_X0_append N a1 a2 a3 σ) :=
  ct_V hl (by decide +kernel) (Nat.le_of_ble_eq_true rfl) (fun z res e1 e2 e3 e4 e5 e6 X Rt h => by subst e1 e2 e3 e4 e5; exact w_X0_append X ⟨e6.1, e6.2⟩ Rt N a1 a2 a3 σ h)
def f_X1_clear (N : Nat) (σ : Sg) : Option (Int32 × Sg) := cI (f_J7_fill_21 N 0 σ) (fun v1 σ2 => st (ss σ2 20 1 0) (fun σ3 => st (ss σ3 20 2 0) (fun σ4 => st (ss σ4 20 4 (-1)) (fun σ5 => st (ss σ5 20 5 0) (fun σ6 => some (0, σ6))))))
set_option maxHeartbeats 4000000 in
set_option maxRecDepth 100000 in
theorem w_X1_clear {z : Cz} (X : Cx z cX1_clear 1 RX1) (hR : 1 ≤ (zR z).frames ∧ 23 ≤ (zR z).locals) {res : (Int32 × Sg)} (Rt : RtV z cX1_clear 1 res) (N : Nat) (σ : Sg) (h : f_X1_clear N σ = some res) : V z 0 1 0 [(0, .ref (zA z 20))] [] σ := by
  rw [f_X1_clear] at h
  refine r_aload_n X dX1_clear_0 rfl 0 rfl ?_
  refine gf_X1_11 X dX1_clear_1 ?_
  refine r_iconst X 0 dX1_clear_4 (by decide) ?_
  refine r_callSv X lk_X1_32 (c_J7_fill_21 (zl z) X.2.2.2.2.2.2.2.1 N (zD z) (zy z) (zA z) (zS z) 0 σ) ⟨Nat.le_trans (by decide) hR.1, Nat.le_trans (by decide) hR.2⟩ rfl rfl (Nat.le_of_ble_eq_true rfl) dX1_clear_5 h (fun v1 σ2 h => ?_)
  refine r_aload_n X dX1_clear_8 rfl 0 rfl ?_
  refine r_iconst X 0 dX1_clear_9 (by decide) ?_
  refine pf_X1_15 X dX1_clear_10 h (fun σ3 h => ?_)
  refine r_aload_n X dX1_clear_13 rfl 0 rfl ?_
  refine r_iconst X 0 dX1_clear_14 (by decide) ?_
  refine pf_X1_19 X dX1_clear_15 h (fun σ4 h => ?_)
  refine r_aload_n X dX1_clear_18 rfl 0 rfl ?_
  refine r_iconst X (-1) dX1_clear_19 (by decide) ?_
  refine pf_X1_25 X dX1_clear_20 h (fun σ5 h => ?_)
  refine r_aload_n X dX1_clear_23 rfl 0 rfl ?_
  refine r_iconst X 0 dX1_clear_24 (by decide) ?_
  refine pf_X1_28 X (by decide) dX1_clear_25 h (fun σ6 h => ?_)
  exact r_vret Rt dX1_clear_28 h
theorem c_X1_clear (l : Launch) (hl : l.stackTraces = false) (N : Nat) (D : va_G) (cy : Nat → ClassId) (ad sa : Nat → Nat) (σ : Sg) : CtV l yX1_clear cX1_clear 1 1 23 D cy ad sa [.ref (ad 20)] σ (f_X1_clear N σ) :=
  ct_V hl (by decide +kernel) (Nat.le_of_ble_eq_true rfl) (fun z res e1 e2 e3 e4 e5 e6 X Rt h => by subst e1 e2 e3 e4 e5; exact w_X1_clear X ⟨e6.1, e6.2⟩ Rt N σ h)
def f_X1_beginRow (N : Nat) (σ : Sg) : Option (Int32 × Sg) := st (ss σ 20 3 0) (fun σ1 => some (0, σ1))
set_option maxHeartbeats 4000000 in
set_option maxRecDepth 100000 in
theorem w_X1_beginRow {z : Cz} (X : Cx z cX1_beginRow 1 RX1) (hR : 0 ≤ (zR z).frames ∧ 0 ≤ (zR z).locals) {res : (Int32 × Sg)} (Rt : RtV z cX1_beginRow 1 res) (N : Nat) (σ : Sg) (h : f_X1_beginRow N σ = some res) : V z 0 1 0 [(0, .ref (zA z 20))] [] σ := by
  rw [f_X1_beginRow] at h
  refine r_aload_n X dX1_beginRow_0 rfl 0 rfl ?_
  refine r_iconst X 0 dX1_beginRow_1 (by decide) ?_
  refine pf_X1_22 X dX1_beginRow_2 h (fun σ1 h => ?_)
  exact r_vret Rt dX1_beginRow_5 h
theorem c_X1_beginRow (l : Launch) (hl : l.stackTraces = false) (N : Nat) (D : va_G) (cy : Nat → ClassId) (ad sa : Nat → Nat) (σ : Sg) : CtV l yX1_beginRow cX1_beginRow 1 0 0 D cy ad sa [.ref (ad 20)] σ (f_X1_beginRow N σ) :=
  ct_V hl (by decide +kernel) (Nat.le_of_ble_eq_true rfl) (fun z res e1 e2 e3 e4 e5 e6 X Rt h => by subst e1 e2 e3 e4 e5; exact w_X1_beginRow X ⟨e6.1, e6.2⟩ Rt N σ h)
def f_X1_lay_0 (N : Nat) (x1 : Int32) (x2 : Int32) (K : Sg → Option (Int32 × Sg)) : Nat → Sg → Option (Int32 × Sg)
  | 0, _ => none
  | n + 1, σ => lt (σ 20 3) (fun v1 => if 480 ≤ v1 then (K σ) else (lt (σ 20 3) (fun v3 => rdA 480 (σ 21) v3 (fun v4 => lt (σ 20 2) (fun v5 => if v4 ≤ v5 then (K σ) else (lt (σ 20 3) (fun v7 => st (ss σ 20 3 (v7 + 1)) (fun σ8 => f_X1_lay_0 N x1 x2 K n σ8))))))))
def f_X1_lay_41 (N : Nat) (x1 : Int32) (x2 : Int32) (K : Sg → Option (Int32 × Sg)) : Nat → Int32 → Sg → Option (Int32 × Sg)
  | 0, _, _ => none
  | n + 1, x3, σ => if x2 ≤ x3 then (K σ) else (lt (σ 20 3) (fun v11 => if 480 ≤ v11 then (K σ) else (lt (σ 20 5) (fun v13 => if v13 = 0 then (lt (σ 20 3) (fun v25 => rdA 480 (σ 21) v25 (fun v26 => lt (σ 20 2) (fun v27 => if v26 ≤ v27 then (st (ss σ 20 5 0) (fun σ29 => lt (σ29 20 3) (fun v30 => lt (σ29 20 3) (fun v31 => rdA 480 (σ29 21) v31 (fun v32 => lt (σ29 20 2) (fun v33 => lt (if v32 < (v33 + x1) then (v33 + x1) else v32) (fun v34 => wrA 480 σ29 21 v30 v34 (fun σ35 => lt (σ35 20 3) (fun v36 => st (ss σ35 20 3 (v36 + 1)) (fun σ37 => lt (x3 + 1) (fun v38 => f_X1_lay_41 N x1 x2 K n v38 σ37))))))))))) else (st (ss σ 20 5 1) (fun σ39 => lt (σ39 20 3) (fun v40 => lt (σ39 20 3) (fun v41 => rdA 480 (σ39 21) v41 (fun v42 => lt (σ39 20 2) (fun v43 => lt (if v42 < (v43 + x1) then (v43 + x1) else v42) (fun v44 => wrA 480 σ39 21 v40 v44 (fun σ45 => lt (σ45 20 3) (fun v46 => st (ss σ45 20 3 (v46 + 1)) (fun σ47 => lt (x3 + 1) (fun v48 => f_X1_lay_41 N x1 x2 K n v48 σ47))))))))))))))) else (st (ss σ 20 5 1) (fun σ15 => lt (σ15 20 3) (fun v16 => lt (σ15 20 3) (fun v17 => rdA 480 (σ15 21) v17 (fun v18 => lt (σ15 20 2) (fun v19 => lt (if v18 < (v19 + x1) then (v19 + x1) else v18) (fun v20 => wrA 480 σ15 21 v16 v20 (fun σ21 => lt (σ21 20 3) (fun v22 => st (ss σ21 20 3 (v22 + 1)) (fun σ23 => lt (x3 + 1) (fun v24 => f_X1_lay_41 N x1 x2 K n v24 σ23)))))))))))))))
def f_X1_lay (N : Nat) (a1 : Int32) (a2 : Int32) (σ : Sg) : Option (Int32 × Sg) := f_X1_lay_0 N a1 a2 (fun σ9 => f_X1_lay_41 N a1 a2 (fun σ49 => lt (σ49 20 1) (fun v50 => lt (σ49 20 3) (fun v51 => lt (if v50 < v51 then v51 else v50) (fun v52 => st (ss σ49 20 1 v52) (fun σ53 => some (0, σ53)))))) N 0 σ9) N σ
set_option maxHeartbeats 4000000 in
set_option maxRecDepth 100000 in
theorem w_X1_lay_0 {z : Cz} (X : Cx z cX1_lay 4 RX1) (hR : 1 ≤ (zR z).frames ∧ 21 ≤ (zR z).locals) {res : (Int32 × Sg)} (N : Nat) (x1 : Int32) (x2 : Int32) (K : Sg → Option (Int32 × Sg)) (kx : ∀ (σ : Sg), K σ = some res → V z 0 4 39 [(0, .ref (zA z 20)), (1, .int x1), (2, .int x2)] [] σ) : ∀ (n : Nat) (σ : Sg), f_X1_lay_0 N x1 x2 K n σ = some res → V z 0 4 0 [(0, .ref (zA z 20)), (1, .int x1), (2, .int x2)] [] σ := by
  intro n
  induction n with
  | zero =>
    intro  σ h
    rw [f_X1_lay_0] at h
    cases h
  | succ n ih =>
    intro  σ h
    rw [f_X1_lay_0] at h
    refine r_aload_n X dX1_lay_0 rfl 0 rfl ?_
    refine gf_X1_22 X dX1_lay_1 h (fun v1 h => ?_)
    refine r_sipush X 480 dX1_lay_4 (by decide) ?_
    refine r_icmp_ge X 39 dX1_lay_7 (by decide) h (fun g2 h => ?_) (fun g2 h => ?_)
    · refine r_sub [0, 1, 2] rfl ?_
      exact kx  σ h
    · refine r_aload_n X dX1_lay_10 rfl 0 rfl ?_
      refine gf_X1_11 X dX1_lay_11 ?_
      refine r_aload_n X dX1_lay_14 rfl 0 rfl ?_
      refine gf_X1_22 X dX1_lay_15 h (fun v3 h => ?_)
      refine al_21 X dX1_lay_18 h (fun v4 h => ?_)
      refine r_aload_n X dX1_lay_19 rfl 0 rfl ?_
      refine gf_X1_19 X dX1_lay_20 h (fun v5 h => ?_)
      refine r_icmp_le X 39 dX1_lay_23 (by decide) h (fun g6 h => ?_) (fun g6 h => ?_)
      · refine r_sub [0, 1, 2] rfl ?_
        exact kx  σ h
      · refine r_aload_n X dX1_lay_26 rfl 0 rfl ?_
        refine r_dup X dX1_lay_27 rfl ?_
        refine gf_X1_22 X dX1_lay_28 h (fun v7 h => ?_)
        refine r_iconst X 1 dX1_lay_31 (by decide) ?_
        refine r_iadd X dX1_lay_32 ?_
        refine pf_X1_22 X dX1_lay_33 h (fun σ8 h => ?_)
        refine r_goto X 0 dX1_lay_36 (by decide) ?_
        refine r_sub [0, 1, 2] rfl ?_
        exact ih  σ8 h
set_option maxHeartbeats 4000000 in
set_option maxRecDepth 100000 in
theorem w_X1_lay_41 {z : Cz} (X : Cx z cX1_lay 4 RX1) (hR : 1 ≤ (zR z).frames ∧ 21 ≤ (zR z).locals) {res : (Int32 × Sg)} (N : Nat) (x1 : Int32) (x2 : Int32) (K : Sg → Option (Int32 × Sg)) (kx : ∀ (σ : Sg), K σ = some res → V z 0 4 131 [(0, .ref (zA z 20))] [] σ) : ∀ (n : Nat) (x3 : Int32) (σ : Sg), f_X1_lay_41 N x1 x2 K n x3 σ = some res → V z 0 4 41 [(0, .ref (zA z 20)), (1, .int x1), (2, .int x2), (3, .int x3)] [] σ := by
  intro n
  induction n with
  | zero =>
    intro x3 σ h
    rw [f_X1_lay_41] at h
    cases h
  | succ n ih =>
    intro x3 σ h
    rw [f_X1_lay_41] at h
    refine r_iload_n X dX1_lay_41 rfl 3 rfl ?_
    refine r_iload_n X dX1_lay_42 rfl 2 rfl ?_
    refine r_icmp_ge X 131 dX1_lay_43 (by decide) h (fun g10 h => ?_) (fun g10 h => ?_)
    · refine r_sub [0] rfl ?_
      exact kx  σ h
    · refine r_aload_n X dX1_lay_46 rfl 0 rfl ?_
      refine gf_X1_22 X dX1_lay_47 h (fun v11 h => ?_)
      refine r_sipush X 480 dX1_lay_50 (by decide) ?_
      refine r_icmp_ge X 131 dX1_lay_53 (by decide) h (fun g12 h => ?_) (fun g12 h => ?_)
      · refine r_sub [0] rfl ?_
        exact kx  σ h
      · refine r_aload_n X dX1_lay_56 rfl 0 rfl ?_
        refine r_aload_n X dX1_lay_57 rfl 0 rfl ?_
        refine gf_X1_28 X dX1_lay_58 h (fun v13 h => ?_)
        refine r_if_ne X 80 dX1_lay_61 (by decide) h (fun g14 h => ?_) (fun g14 h => ?_)
        · refine r_aload_n X dX1_lay_64 rfl 0 rfl ?_
          refine gf_X1_11 X dX1_lay_65 ?_
          refine r_aload_n X dX1_lay_68 rfl 0 rfl ?_
          refine gf_X1_22 X dX1_lay_69 h (fun v25 h => ?_)
          refine al_21 X dX1_lay_72 h (fun v26 h => ?_)
          refine r_aload_n X dX1_lay_73 rfl 0 rfl ?_
          refine gf_X1_19 X dX1_lay_74 h (fun v27 h => ?_)
          refine r_icmp_le X 84 dX1_lay_77 (by decide) h (fun g28 h => ?_) (fun g28 h => ?_)
          · refine r_iconst X 0 dX1_lay_84 (by decide) ?_
            refine pf_X1_28 X (by decide) dX1_lay_85 h (fun σ29 h => ?_)
            refine r_aload_n X dX1_lay_88 rfl 0 rfl ?_
            refine gf_X1_11 X dX1_lay_89 ?_
            refine r_aload_n X dX1_lay_92 rfl 0 rfl ?_
            refine gf_X1_22 X dX1_lay_93 h (fun v30 h => ?_)
            refine r_aload_n X dX1_lay_96 rfl 0 rfl ?_
            refine gf_X1_11 X dX1_lay_97 ?_
            refine r_aload_n X dX1_lay_100 rfl 0 rfl ?_
            refine gf_X1_22 X dX1_lay_101 h (fun v31 h => ?_)
            refine al_21 X dX1_lay_104 h (fun v32 h => ?_)
            refine r_aload_n X dX1_lay_105 rfl 0 rfl ?_
            refine gf_X1_19 X dX1_lay_106 h (fun v33 h => ?_)
            refine r_iload_n X dX1_lay_109 rfl 1 rfl ?_
            refine r_iadd X dX1_lay_110 ?_
            refine r_mmax X wd2_125 wd2_126 wd1_18 wd_mx (Nat.le_trans (by decide) hR.1) (Nat.le_trans (Nat.le_of_ble_eq_true rfl) hR.2) dX1_lay_111 h (fun v34 h => ?_)
            refine as_21 X dX1_lay_114 h (fun σ35 h => ?_)
            refine r_aload_n X dX1_lay_115 rfl 0 rfl ?_
            refine r_dup X dX1_lay_116 rfl ?_
            refine gf_X1_22 X dX1_lay_117 h (fun v36 h => ?_)
            refine r_iconst X 1 dX1_lay_120 (by decide) ?_
            refine r_iadd X dX1_lay_121 ?_
            refine pf_X1_22 X dX1_lay_122 h (fun σ37 h => ?_)
            refine r_iinc X 1 (fun v38 => [(3, .int v38), (0, .ref (zA z 20)), (1, .int x1), (2, .int x2)]) dX1_lay_125 3 rfl (by decide) (by decide) (fun _ => rfl) h (fun v38 h => ?_)
            refine r_goto X 41 dX1_lay_128 (by decide) ?_
            refine r_sub [1, 2, 3, 0] rfl ?_
            exact ih v38 σ37 h
          · refine r_iconst X 1 dX1_lay_80 (by decide) ?_
            refine r_goto X 85 dX1_lay_81 (by decide) ?_
            refine pf_X1_28 X (by decide) dX1_lay_85 h (fun σ39 h => ?_)
            refine r_aload_n X dX1_lay_88 rfl 0 rfl ?_
            refine gf_X1_11 X dX1_lay_89 ?_
            refine r_aload_n X dX1_lay_92 rfl 0 rfl ?_
            refine gf_X1_22 X dX1_lay_93 h (fun v40 h => ?_)
            refine r_aload_n X dX1_lay_96 rfl 0 rfl ?_
            refine gf_X1_11 X dX1_lay_97 ?_
            refine r_aload_n X dX1_lay_100 rfl 0 rfl ?_
            refine gf_X1_22 X dX1_lay_101 h (fun v41 h => ?_)
            refine al_21 X dX1_lay_104 h (fun v42 h => ?_)
            refine r_aload_n X dX1_lay_105 rfl 0 rfl ?_
            refine gf_X1_19 X dX1_lay_106 h (fun v43 h => ?_)
            refine r_iload_n X dX1_lay_109 rfl 1 rfl ?_
            refine r_iadd X dX1_lay_110 ?_
            refine r_mmax X wd2_125 wd2_126 wd1_18 wd_mx (Nat.le_trans (by decide) hR.1) (Nat.le_trans (Nat.le_of_ble_eq_true rfl) hR.2) dX1_lay_111 h (fun v44 h => ?_)
            refine as_21 X dX1_lay_114 h (fun σ45 h => ?_)
            refine r_aload_n X dX1_lay_115 rfl 0 rfl ?_
            refine r_dup X dX1_lay_116 rfl ?_
            refine gf_X1_22 X dX1_lay_117 h (fun v46 h => ?_)
            refine r_iconst X 1 dX1_lay_120 (by decide) ?_
            refine r_iadd X dX1_lay_121 ?_
            refine pf_X1_22 X dX1_lay_122 h (fun σ47 h => ?_)
            refine r_iinc X 1 (fun v48 => [(3, .int v48), (0, .ref (zA z 20)), (1, .int x1), (2, .int x2)]) dX1_lay_125 3 rfl (by decide) (by decide) (fun _ => rfl) h (fun v48 h => ?_)
            refine r_goto X 41 dX1_lay_128 (by decide) ?_
            refine r_sub [1, 2, 3, 0] rfl ?_
            exact ih v48 σ47 h
        · refine r_iconst X 1 dX1_lay_80 (by decide) ?_
          refine r_goto X 85 dX1_lay_81 (by decide) ?_
          refine pf_X1_28 X (by decide) dX1_lay_85 h (fun σ15 h => ?_)
          refine r_aload_n X dX1_lay_88 rfl 0 rfl ?_
          refine gf_X1_11 X dX1_lay_89 ?_
          refine r_aload_n X dX1_lay_92 rfl 0 rfl ?_
          refine gf_X1_22 X dX1_lay_93 h (fun v16 h => ?_)
          refine r_aload_n X dX1_lay_96 rfl 0 rfl ?_
          refine gf_X1_11 X dX1_lay_97 ?_
          refine r_aload_n X dX1_lay_100 rfl 0 rfl ?_
          refine gf_X1_22 X dX1_lay_101 h (fun v17 h => ?_)
          refine al_21 X dX1_lay_104 h (fun v18 h => ?_)
          refine r_aload_n X dX1_lay_105 rfl 0 rfl ?_
          refine gf_X1_19 X dX1_lay_106 h (fun v19 h => ?_)
          refine r_iload_n X dX1_lay_109 rfl 1 rfl ?_
          refine r_iadd X dX1_lay_110 ?_
          refine r_mmax X wd2_125 wd2_126 wd1_18 wd_mx (Nat.le_trans (by decide) hR.1) (Nat.le_trans (Nat.le_of_ble_eq_true rfl) hR.2) dX1_lay_111 h (fun v20 h => ?_)
          refine as_21 X dX1_lay_114 h (fun σ21 h => ?_)
          refine r_aload_n X dX1_lay_115 rfl 0 rfl ?_
          refine r_dup X dX1_lay_116 rfl ?_
          refine gf_X1_22 X dX1_lay_117 h (fun v22 h => ?_)
          refine r_iconst X 1 dX1_lay_120 (by decide) ?_
          refine r_iadd X dX1_lay_121 ?_
          refine pf_X1_22 X dX1_lay_122 h (fun σ23 h => ?_)
          refine r_iinc X 1 (fun v24 => [(3, .int v24), (0, .ref (zA z 20)), (1, .int x1), (2, .int x2)]) dX1_lay_125 3 rfl (by decide) (by decide) (fun _ => rfl) h (fun v24 h => ?_)
          refine r_goto X 41 dX1_lay_128 (by decide) ?_
          refine r_sub [1, 2, 3, 0] rfl ?_
          exact ih v24 σ23 h
set_option maxHeartbeats 4000000 in
set_option maxRecDepth 100000 in
theorem w_X1_lay {z : Cz} (X : Cx z cX1_lay 4 RX1) (hR : 1 ≤ (zR z).frames ∧ 21 ≤ (zR z).locals) {res : (Int32 × Sg)} (Rt : RtV z cX1_lay 4 res) (N : Nat) (a1 : Int32) (a2 : Int32) (σ : Sg) (h : f_X1_lay N a1 a2 σ = some res) : V z 0 4 0 [(0, .ref (zA z 20)), (1, .int a1), (2, .int a2)] [] σ := by
  rw [f_X1_lay] at h
  refine r_sub [0, 1, 2] rfl ?_
  refine w_X1_lay_0 X hR N a1 a2 _ (fun σ9 h => ?_) N σ h
  refine r_iconst X 0 dX1_lay_39 (by decide) ?_
  refine r_istore_n X [(3, .int 0), (0, .ref (zA z 20)), (1, .int a1), (2, .int a2)] dX1_lay_40 rfl (by decide) rfl ?_
  refine r_sub [1, 2, 3, 0] rfl ?_
  refine w_X1_lay_41 X hR N a1 a2 _ (fun σ49 h => ?_) N 0 σ9 h
  refine r_aload_n X dX1_lay_131 rfl 0 rfl ?_
  refine r_aload_n X dX1_lay_132 rfl 0 rfl ?_
  refine gf_X1_15 X dX1_lay_133 h (fun v50 h => ?_)
  refine r_aload_n X dX1_lay_136 rfl 0 rfl ?_
  refine gf_X1_22 X dX1_lay_137 h (fun v51 h => ?_)
  refine r_mmax X wd2_125 wd2_126 wd1_18 wd_mx (Nat.le_trans (by decide) hR.1) (Nat.le_trans (Nat.le_of_ble_eq_true rfl) hR.2) dX1_lay_140 h (fun v52 h => ?_)
  refine pf_X1_15 X dX1_lay_143 h (fun σ53 h => ?_)
  exact r_vret Rt dX1_lay_146 h
theorem c_X1_lay (l : Launch) (hl : l.stackTraces = false) (N : Nat) (D : va_G) (cy : Nat → ClassId) (ad sa : Nat → Nat) (a1 : Int32) (a2 : Int32) (σ : Sg) : CtV l yX1_lay cX1_lay 4 1 21 D cy ad sa [.ref (ad 20), .int a1, .int a2] σ (f_X1_lay N a1 a2 σ) :=
  ct_V hl (by decide +kernel) (Nat.le_of_ble_eq_true rfl) (fun z res e1 e2 e3 e4 e5 e6 X Rt h => by subst e1 e2 e3 e4 e5; exact w_X1_lay X ⟨e6.1, e6.2⟩ Rt N a1 a2 σ h)
def f_X1_endRow_5 (N : Nat) (K : Int32 → Sg → Option (Int32 × Sg)) : Nat → Int32 → Sg → Option (Int32 × Sg)
  | 0, _, _ => none
  | n + 1, x1, σ => if x1 ≤ 0 then (K x1 σ) else (rdA 480 (σ 21) (x1 - 1) (fun v3 => lt (σ 20 2) (fun v4 => if v4 < v3 then (K x1 σ) else (lt (x1 + (-1)) (fun v6 => f_X1_endRow_5 N K n v6 σ)))))
def f_X1_endRow (N : Nat) (σ : Sg) : Option (Int32 × Sg) := lt (σ 20 1) (fun v1 => f_X1_endRow_5 N (fun v7 σ8 => lt (σ8 20 5) (fun v9 => if v9 = 0 then (lt (σ8 20 4) (fun v15 => if v15 = (-1) then (st (ss σ8 20 5 0) (fun σ17 => st (ss σ17 20 4 v7) (fun σ18 => lt (σ18 20 2) (fun v19 => st (ss σ18 20 2 (v19 + 1)) (fun σ20 => some (0, σ20)))))) else (lt (σ8 20 4) (fun v21 => if v21 = v7 then (st (ss σ8 20 5 0) (fun σ23 => st (ss σ23 20 4 v7) (fun σ24 => lt (σ24 20 2) (fun v25 => st (ss σ24 20 2 (v25 + 1)) (fun σ26 => some (0, σ26)))))) else (st (ss σ8 20 5 1) (fun σ27 => st (ss σ27 20 4 v7) (fun σ28 => lt (σ28 20 2) (fun v29 => st (ss σ28 20 2 (v29 + 1)) (fun σ30 => some (0, σ30)))))))))) else (st (ss σ8 20 5 1) (fun σ11 => st (ss σ11 20 4 v7) (fun σ12 => lt (σ12 20 2) (fun v13 => st (ss σ12 20 2 (v13 + 1)) (fun σ14 => some (0, σ14)))))))) N v1 σ)
set_option maxHeartbeats 4000000 in
set_option maxRecDepth 100000 in
theorem w_X1_endRow_5 {z : Cz} (X : Cx z cX1_endRow 2 RX1) (hR : 0 ≤ (zR z).frames ∧ 0 ≤ (zR z).locals) {res : (Int32 × Sg)} (N : Nat) (K : Int32 → Sg → Option (Int32 × Sg)) (kx : ∀ (y1 : Int32) (σ : Sg), K y1 σ = some res → V z 0 2 30 [(0, .ref (zA z 20)), (1, .int y1)] [] σ) : ∀ (n : Nat) (x1 : Int32) (σ : Sg), f_X1_endRow_5 N K n x1 σ = some res → V z 0 2 5 [(0, .ref (zA z 20)), (1, .int x1)] [] σ := by
  intro n
  induction n with
  | zero =>
    intro x1 σ h
    rw [f_X1_endRow_5] at h
    cases h
  | succ n ih =>
    intro x1 σ h
    rw [f_X1_endRow_5] at h
    refine r_iload_n X dX1_endRow_5 rfl 1 rfl ?_
    refine r_if_le X 30 dX1_endRow_6 (by decide) h (fun g2 h => ?_) (fun g2 h => ?_)
    · refine r_sub [0, 1] rfl ?_
      exact kx x1 σ h
    · refine r_aload_n X dX1_endRow_9 rfl 0 rfl ?_
      refine gf_X1_11 X dX1_endRow_10 ?_
      refine r_iload_n X dX1_endRow_13 rfl 1 rfl ?_
      refine r_iconst X 1 dX1_endRow_14 (by decide) ?_
      refine r_isub X dX1_endRow_15 ?_
      refine al_21 X dX1_endRow_16 h (fun v3 h => ?_)
      refine r_aload_n X dX1_endRow_17 rfl 0 rfl ?_
      refine gf_X1_19 X dX1_endRow_18 h (fun v4 h => ?_)
      refine r_icmp_gt X 30 dX1_endRow_21 (by decide) h (fun g5 h => ?_) (fun g5 h => ?_)
      · refine r_sub [0, 1] rfl ?_
        exact kx x1 σ h
      · refine r_iinc X (-1) (fun v6 => [(1, .int v6), (0, .ref (zA z 20))]) dX1_endRow_24 1 rfl (by decide) (by decide) (fun _ => rfl) h (fun v6 h => ?_)
        refine r_goto X 5 dX1_endRow_27 (by decide) ?_
        refine r_sub [1, 0] rfl ?_
        exact ih v6 σ h
set_option maxHeartbeats 4000000 in
set_option maxRecDepth 100000 in
theorem w_X1_endRow {z : Cz} (X : Cx z cX1_endRow 2 RX1) (hR : 0 ≤ (zR z).frames ∧ 0 ≤ (zR z).locals) {res : (Int32 × Sg)} (Rt : RtV z cX1_endRow 2 res) (N : Nat) (σ : Sg) (h : f_X1_endRow N σ = some res) : V z 0 2 0 [(0, .ref (zA z 20))] [] σ := by
  rw [f_X1_endRow] at h
  refine r_aload_n X dX1_endRow_0 rfl 0 rfl ?_
  refine gf_X1_15 X dX1_endRow_1 h (fun v1 h => ?_)
  refine r_istore_n X [(1, .int v1), (0, .ref (zA z 20))] dX1_endRow_4 rfl (by decide) rfl ?_
  refine r_sub [1, 0] rfl ?_
  refine w_X1_endRow_5 X hR N _ (fun v7 σ8 h => ?_) N v1 σ h
  refine r_aload_n X dX1_endRow_30 rfl 0 rfl ?_
  refine r_aload_n X dX1_endRow_31 rfl 0 rfl ?_
  refine gf_X1_28 X dX1_endRow_32 h (fun v9 h => ?_)
  refine r_if_ne X 54 dX1_endRow_35 (by decide) h (fun g10 h => ?_) (fun g10 h => ?_)
  · refine r_aload_n X dX1_endRow_38 rfl 0 rfl ?_
    refine gf_X1_25 X dX1_endRow_39 h (fun v15 h => ?_)
    refine r_iconst X (-1) dX1_endRow_42 (by decide) ?_
    refine r_icmp_eq X 58 dX1_endRow_43 (by decide) h (fun g16 h => ?_) (fun g16 h => ?_)
    · refine r_iconst X 0 dX1_endRow_58 (by decide) ?_
      refine pf_X1_28 X (by decide) dX1_endRow_59 h (fun σ17 h => ?_)
      refine r_aload_n X dX1_endRow_62 rfl 0 rfl ?_
      refine r_iload_n X dX1_endRow_63 rfl 1 rfl ?_
      refine pf_X1_25 X dX1_endRow_64 h (fun σ18 h => ?_)
      refine r_aload_n X dX1_endRow_67 rfl 0 rfl ?_
      refine r_dup X dX1_endRow_68 rfl ?_
      refine gf_X1_19 X dX1_endRow_69 h (fun v19 h => ?_)
      refine r_iconst X 1 dX1_endRow_72 (by decide) ?_
      refine r_iadd X dX1_endRow_73 ?_
      refine pf_X1_19 X dX1_endRow_74 h (fun σ20 h => ?_)
      exact r_vret Rt dX1_endRow_77 h
    · refine r_aload_n X dX1_endRow_46 rfl 0 rfl ?_
      refine gf_X1_25 X dX1_endRow_47 h (fun v21 h => ?_)
      refine r_iload_n X dX1_endRow_50 rfl 1 rfl ?_
      refine r_icmp_eq X 58 dX1_endRow_51 (by decide) h (fun g22 h => ?_) (fun g22 h => ?_)
      · refine r_iconst X 0 dX1_endRow_58 (by decide) ?_
        refine pf_X1_28 X (by decide) dX1_endRow_59 h (fun σ23 h => ?_)
        refine r_aload_n X dX1_endRow_62 rfl 0 rfl ?_
        refine r_iload_n X dX1_endRow_63 rfl 1 rfl ?_
        refine pf_X1_25 X dX1_endRow_64 h (fun σ24 h => ?_)
        refine r_aload_n X dX1_endRow_67 rfl 0 rfl ?_
        refine r_dup X dX1_endRow_68 rfl ?_
        refine gf_X1_19 X dX1_endRow_69 h (fun v25 h => ?_)
        refine r_iconst X 1 dX1_endRow_72 (by decide) ?_
        refine r_iadd X dX1_endRow_73 ?_
        refine pf_X1_19 X dX1_endRow_74 h (fun σ26 h => ?_)
        exact r_vret Rt dX1_endRow_77 h
      · refine r_iconst X 1 dX1_endRow_54 (by decide) ?_
        refine r_goto X 59 dX1_endRow_55 (by decide) ?_
        refine pf_X1_28 X (by decide) dX1_endRow_59 h (fun σ27 h => ?_)
        refine r_aload_n X dX1_endRow_62 rfl 0 rfl ?_
        refine r_iload_n X dX1_endRow_63 rfl 1 rfl ?_
        refine pf_X1_25 X dX1_endRow_64 h (fun σ28 h => ?_)
        refine r_aload_n X dX1_endRow_67 rfl 0 rfl ?_
        refine r_dup X dX1_endRow_68 rfl ?_
        refine gf_X1_19 X dX1_endRow_69 h (fun v29 h => ?_)
        refine r_iconst X 1 dX1_endRow_72 (by decide) ?_
        refine r_iadd X dX1_endRow_73 ?_
        refine pf_X1_19 X dX1_endRow_74 h (fun σ30 h => ?_)
        exact r_vret Rt dX1_endRow_77 h
  · refine r_iconst X 1 dX1_endRow_54 (by decide) ?_
    refine r_goto X 59 dX1_endRow_55 (by decide) ?_
    refine pf_X1_28 X (by decide) dX1_endRow_59 h (fun σ11 h => ?_)
    refine r_aload_n X dX1_endRow_62 rfl 0 rfl ?_
    refine r_iload_n X dX1_endRow_63 rfl 1 rfl ?_
    refine pf_X1_25 X dX1_endRow_64 h (fun σ12 h => ?_)
    refine r_aload_n X dX1_endRow_67 rfl 0 rfl ?_
    refine r_dup X dX1_endRow_68 rfl ?_
    refine gf_X1_19 X dX1_endRow_69 h (fun v13 h => ?_)
    refine r_iconst X 1 dX1_endRow_72 (by decide) ?_
    refine r_iadd X dX1_endRow_73 ?_
    refine pf_X1_19 X dX1_endRow_74 h (fun σ14 h => ?_)
    exact r_vret Rt dX1_endRow_77 h
theorem c_X1_endRow (l : Launch) (hl : l.stackTraces = false) (N : Nat) (D : va_G) (cy : Nat → ClassId) (ad sa : Nat → Nat) (σ : Sg) : CtV l yX1_endRow cX1_endRow 2 0 0 D cy ad sa [.ref (ad 20)] σ (f_X1_endRow N σ) :=
  ct_V hl (by decide +kernel) (Nat.le_of_ble_eq_true rfl) (fun z res e1 e2 e3 e4 e5 e6 X Rt h => by subst e1 e2 e3 e4 e5; exact w_X1_endRow X ⟨e6.1, e6.2⟩ Rt N σ h)
def f_X2_depthBehind_7 (N : Nat) (x1 : Int32) (K : Sg → Option (Int32 × Sg)) : Nat → Int32 → Sg → Option (Int32 × Sg)
  | 0, _, _ => none
  | n + 1, x2, σ => if x2 < 0 then (K σ) else (rdA 60 (σ 18) x2 (fun v4 => if x1 ≤ v4 then (lt (x2 + (-1)) (fun v6 => f_X2_depthBehind_7 N x1 K n v6 σ)) else (rdA 60 (σ 19) x2 (fun v7 => some (v7 + 1, σ)))))
def f_X2_depthBehind (N : Nat) (a1 : Int32) (σ : Sg) : Option (Int32 × Sg) := lt (σ 16 3) (fun v1 => lt (v1 - 1) (fun v2 => f_X2_depthBehind_7 N a1 (fun σ8 => some (0, σ8)) N v2 σ))
set_option maxHeartbeats 4000000 in
set_option maxRecDepth 100000 in
theorem w_X2_depthBehind_7 {z : Cz} (X : Cx z cX2_depthBehind 3 RX2) (hR : 0 ≤ (zR z).frames ∧ 0 ≤ (zR z).locals) {res : (Int32 × Sg)} (Rt : RtI z cX2_depthBehind 3 .int res) (N : Nat) (x1 : Int32) (K : Sg → Option (Int32 × Sg)) (kx : ∀ (σ : Sg), K σ = some res → V z 0 3 36 [] [] σ) : ∀ (n : Nat) (x2 : Int32) (σ : Sg), f_X2_depthBehind_7 N x1 K n x2 σ = some res → V z 0 3 7 [(0, .ref (zA z 16)), (1, .int x1), (2, .int x2)] [] σ := by
  intro n
  induction n with
  | zero =>
    intro x2 σ h
    rw [f_X2_depthBehind_7] at h
    cases h
  | succ n ih =>
    intro x2 σ h
    rw [f_X2_depthBehind_7] at h
    refine r_iload_n X dX2_depthBehind_7 rfl 2 rfl ?_
    refine r_if_lt X 36 dX2_depthBehind_8 (by decide) h (fun g3 h => ?_) (fun g3 h => ?_)
    · refine r_sub [] rfl ?_
      exact kx  σ h
    · refine r_aload_n X dX2_depthBehind_11 rfl 0 rfl ?_
      refine gf_X2_15 X dX2_depthBehind_12 ?_
      refine r_iload_n X dX2_depthBehind_15 rfl 2 rfl ?_
      refine al_18 X dX2_depthBehind_16 h (fun v4 h => ?_)
      refine r_iload_n X dX2_depthBehind_17 rfl 1 rfl ?_
      refine r_icmp_ge X 30 dX2_depthBehind_18 (by decide) h (fun g5 h => ?_) (fun g5 h => ?_)
      · refine r_iinc X (-1) (fun v6 => [(2, .int v6), (0, .ref (zA z 16)), (1, .int x1)]) dX2_depthBehind_30 2 rfl (by decide) (by decide) (fun _ => rfl) h (fun v6 h => ?_)
        refine r_goto X 7 dX2_depthBehind_33 (by decide) ?_
        refine r_sub [1, 2, 0] rfl ?_
        exact ih v6 σ h
      · refine r_aload_n X dX2_depthBehind_21 rfl 0 rfl ?_
        refine gf_X2_18 X dX2_depthBehind_22 ?_
        refine r_iload_n X dX2_depthBehind_25 rfl 2 rfl ?_
        refine al_19 X dX2_depthBehind_26 h (fun v7 h => ?_)
        refine r_iconst X 1 dX2_depthBehind_27 (by decide) ?_
        refine r_iadd X dX2_depthBehind_28 ?_
        exact r_iret Rt dX2_depthBehind_29 h
set_option maxHeartbeats 4000000 in
set_option maxRecDepth 100000 in
theorem w_X2_depthBehind {z : Cz} (X : Cx z cX2_depthBehind 3 RX2) (hR : 0 ≤ (zR z).frames ∧ 0 ≤ (zR z).locals) {res : (Int32 × Sg)} (Rt : RtI z cX2_depthBehind 3 .int res) (N : Nat) (a1 : Int32) (σ : Sg) (h : f_X2_depthBehind N a1 σ = some res) : V z 0 3 0 [(0, .ref (zA z 16)), (1, .int a1)] [] σ := by
  rw [f_X2_depthBehind] at h
  refine r_aload_n X dX2_depthBehind_0 rfl 0 rfl ?_
  refine gf_X2_21 X dX2_depthBehind_1 h (fun v1 h => ?_)
  refine r_iconst X 1 dX2_depthBehind_4 (by decide) ?_
  refine r_isub X dX2_depthBehind_5 ?_
  refine r_lt h (fun v2 h => ?_)
  refine r_istore_n X [(2, .int v2), (0, .ref (zA z 16)), (1, .int a1)] dX2_depthBehind_6 rfl (by decide) rfl ?_
  refine r_sub [1, 2, 0] rfl ?_
  refine w_X2_depthBehind_7 X hR Rt N a1 _ (fun σ8 h => ?_) N v2 σ h
  refine r_iconst X 0 dX2_depthBehind_36 (by decide) ?_
  exact r_iret Rt dX2_depthBehind_37 h
theorem c_X2_depthBehind (l : Launch) (hl : l.stackTraces = false) (N : Nat) (D : va_G) (cy : Nat → ClassId) (ad sa : Nat → Nat) (a1 : Int32) (σ : Sg) : CtI l yX2_depthBehind cX2_depthBehind 3 (some .int) 0 0 D cy ad sa [.ref (ad 16), .int a1] σ (f_X2_depthBehind N a1 σ) :=
  ct_I hl (by decide +kernel) (Nat.le_of_ble_eq_true rfl) (fun z res e1 e2 e3 e4 e5 e6 X Rt h => by subst e1 e2 e3 e4 e5; exact w_X2_depthBehind X ⟨e6.1, e6.2⟩ Rt N a1 σ h)
def f_X2_append (N : Nat) (a1 : Int32) (a2 : Int32) (σ : Sg) : Option (Int32 × Sg) := lt (σ 16 3) (fun v1 => if 60 ≤ v1 then (some (0, σ)) else (lt (σ 16 3) (fun v3 => wrA 60 σ 17 v3 a1 (fun σ4 => lt (σ4 16 3) (fun v5 => wrA 60 σ4 18 v5 a2 (fun σ6 => lt (σ6 16 3) (fun v7 => cI (f_X2_depthBehind N a2 σ6) (fun v8 σ9 => wrA 60 σ9 19 v7 v8 (fun σ10 => lt (σ10 16 3) (fun v11 => st (ss σ10 16 3 (v11 + 1)) (fun σ12 => some (0, σ12))))))))))))
set_option maxHeartbeats 4000000 in
set_option maxRecDepth 100000 in
theorem w_X2_append {z : Cz} (X : Cx z cX2_append 3 RX2) (hR : 1 ≤ (zR z).frames ∧ 22 ≤ (zR z).locals) {res : (Int32 × Sg)} (Rt : RtV z cX2_append 3 res) (N : Nat) (a1 : Int32) (a2 : Int32) (σ : Sg) (h : f_X2_append N a1 a2 σ = some res) : V z 0 3 0 [(0, .ref (zA z 16)), (1, .int a1), (2, .int a2)] [] σ := by
  rw [f_X2_append] at h
  refine r_aload_n X dX2_append_0 rfl 0 rfl ?_
  refine gf_X2_21 X dX2_append_1 h (fun v1 h => ?_)
  refine r_bipush X 60 dX2_append_4 (by decide) ?_
  refine r_icmp_ge X 53 dX2_append_6 (by decide) h (fun g2 h => ?_) (fun g2 h => ?_)
  · exact r_vret Rt dX2_append_53 h
  · refine r_aload_n X dX2_append_9 rfl 0 rfl ?_
    refine gf_X2_9 X dX2_append_10 ?_
    refine r_aload_n X dX2_append_13 rfl 0 rfl ?_
    refine gf_X2_21 X dX2_append_14 h (fun v3 h => ?_)
    refine r_iload_n X dX2_append_17 rfl 1 rfl ?_
    refine as_17 X dX2_append_18 h (fun σ4 h => ?_)
    refine r_aload_n X dX2_append_19 rfl 0 rfl ?_
    refine gf_X2_15 X dX2_append_20 ?_
    refine r_aload_n X dX2_append_23 rfl 0 rfl ?_
    refine gf_X2_21 X dX2_append_24 h (fun v5 h => ?_)
    refine r_iload_n X dX2_append_27 rfl 2 rfl ?_
    refine as_18 X dX2_append_28 h (fun σ6 h => ?_)
    refine r_aload_n X dX2_append_29 rfl 0 rfl ?_
    refine gf_X2_18 X dX2_append_30 ?_
    refine r_aload_n X dX2_append_33 rfl 0 rfl ?_
    refine gf_X2_21 X dX2_append_34 h (fun v7 h => ?_)
    refine r_aload_n X dX2_append_37 rfl 0 rfl ?_
    refine r_iload_n X dX2_append_38 rfl 2 rfl ?_
    refine r_callV X 16 2 (by decide) rfl rfl rfl lk_X2_25 (c_X2_depthBehind (zl z) X.2.2.2.2.2.2.2.1 N (zD z) (zy z) (zA z) (zS z) a2 σ6) ⟨Nat.le_trans (by decide) hR.1, Nat.le_trans (by decide) hR.2⟩ rfl rfl (Nat.le_of_ble_eq_true rfl) dX2_append_39 h (fun v8 σ9 h => ?_)
    refine as_19 X dX2_append_42 h (fun σ10 h => ?_)
    refine r_aload_n X dX2_append_43 rfl 0 rfl ?_
    refine r_dup X dX2_append_44 rfl ?_
    refine gf_X2_21 X dX2_append_45 h (fun v11 h => ?_)
    refine r_iconst X 1 dX2_append_48 (by decide) ?_
    refine r_iadd X dX2_append_49 ?_
    refine pf_X2_21 X dX2_append_50 h (fun σ12 h => ?_)
    exact r_vret Rt dX2_append_53 h
theorem c_X2_append (l : Launch) (hl : l.stackTraces = false) (N : Nat) (D : va_G) (cy : Nat → ClassId) (ad sa : Nat → Nat) (a1 : Int32) (a2 : Int32) (σ : Sg) : CtV l yX2_append cX2_append 3 1 22 D cy ad sa [.ref (ad 16), .int a1, .int a2] σ (f_X2_append N a1 a2 σ) :=
  ct_V hl (by decide +kernel) (Nat.le_of_ble_eq_true rfl) (fun z res e1 e2 e3 e4 e5 e6 X Rt h => by subst e1 e2 e3 e4 e5; exact w_X2_append X ⟨e6.1, e6.2⟩ Rt N a1 a2 σ h)
def f_X3_show (N : Nat) (a1 : Int32) (a2 : Int32) (σ : Sg) : Option (Int32 × Sg) := lt (a1 * 20) (fun v1 => rdA 10 (σ 15) a1 (fun v2 => rdA 200 (σ 14) (v1 + a2) (fun v3 => if v3 = (-1) then (if v2 < 20 then (wrA 200 σ 13 (v1 + v2) (v1 + a2) (fun σ6 => wrA 200 σ6 14 (v1 + a2) v2 (fun σ7 => rdA 10 (σ7 15) a1 (fun v8 => wrA 10 σ7 15 a1 (v8 + 1) (fun σ9 => rdA 10 (σ9 15) a1 (fun v10 => some (v10, σ9))))))) else (some (0, σ))) else (some (0, σ)))))
set_option maxHeartbeats 4000000 in
set_option maxRecDepth 100000 in
theorem w_X3_show {z : Cz} (X : Cx z cX3_show 5 RX3) (hR : 0 ≤ (zR z).frames ∧ 0 ≤ (zR z).locals) {res : (Int32 × Sg)} (Rt : RtI z cX3_show 5 .int res) (N : Nat) (a1 : Int32) (a2 : Int32) (σ : Sg) (h : f_X3_show N a1 a2 σ = some res) : V z 0 5 0 [(0, .ref (zA z 12)), (1, .int a1), (2, .int a2)] [] σ := by
  rw [f_X3_show] at h
  refine r_iload_n X dX3_show_0 rfl 1 rfl ?_
  refine r_bipush X 20 dX3_show_1 (by decide) ?_
  refine r_imul X dX3_show_3 ?_
  refine r_lt h (fun v1 h => ?_)
  refine r_istore_n X [(3, .int v1), (0, .ref (zA z 12)), (1, .int a1), (2, .int a2)] dX3_show_4 rfl (by decide) rfl ?_
  refine r_aload_n X dX3_show_5 rfl 1 rfl ?_
  refine gf_X3_18 X dX3_show_6 ?_
  refine r_iload_n X dX3_show_9 rfl 2 rfl ?_
  refine al_15 X dX3_show_10 h (fun v2 h => ?_)
  refine r_istore X [(4, .int v2), (3, .int v1), (0, .ref (zA z 12)), (1, .int a1), (2, .int a2)] dX3_show_11 (by decide) rfl ?_
  refine r_aload_n X dX3_show_13 rfl 2 rfl ?_
  refine gf_X3_15 X dX3_show_14 ?_
  refine r_iload_n X dX3_show_17 rfl 1 rfl ?_
  refine r_iload_n X dX3_show_18 rfl 4 rfl ?_
  refine r_iadd X dX3_show_19 ?_
  refine al_14 X dX3_show_20 h (fun v3 h => ?_)
  refine r_iconst X (-1) dX3_show_21 (by decide) ?_
  refine r_icmp_ne X 32 dX3_show_22 (by decide) h (fun g4 h => ?_) (fun g4 h => ?_)
  · refine r_iload X dX3_show_25 0 rfl ?_
    refine r_bipush X 20 dX3_show_27 (by decide) ?_
    refine r_icmp_lt X 34 dX3_show_29 (by decide) h (fun g5 h => ?_) (fun g5 h => ?_)
    · refine r_aload_n X dX3_show_34 rfl 2 rfl ?_
      refine gf_X3_9 X dX3_show_35 ?_
      refine r_iload_n X dX3_show_38 rfl 1 rfl ?_
      refine r_iload X dX3_show_39 0 rfl ?_
      refine r_iadd X dX3_show_41 ?_
      refine r_iload_n X dX3_show_42 rfl 1 rfl ?_
      refine r_iload_n X dX3_show_43 rfl 4 rfl ?_
      refine r_iadd X dX3_show_44 ?_
      refine as_13 X dX3_show_45 h (fun σ6 h => ?_)
      refine r_aload_n X dX3_show_46 rfl 2 rfl ?_
      refine gf_X3_15 X dX3_show_47 ?_
      refine r_iload_n X dX3_show_50 rfl 1 rfl ?_
      refine r_iload_n X dX3_show_51 rfl 4 rfl ?_
      refine r_iadd X dX3_show_52 ?_
      refine r_iload X dX3_show_53 0 rfl ?_
      refine as_14 X dX3_show_55 h (fun σ7 h => ?_)
      refine r_aload_n X dX3_show_56 rfl 2 rfl ?_
      refine gf_X3_18 X dX3_show_57 ?_
      refine r_iload_n X dX3_show_60 rfl 3 rfl ?_
      refine r_dup2 X dX3_show_61 rfl rfl ?_
      refine al_15 X dX3_show_62 h (fun v8 h => ?_)
      refine r_iconst X 1 dX3_show_63 (by decide) ?_
      refine r_iadd X dX3_show_64 ?_
      refine as_15 X dX3_show_65 h (fun σ9 h => ?_)
      refine r_aload_n X dX3_show_66 rfl 2 rfl ?_
      refine gf_X3_18 X dX3_show_67 ?_
      refine r_iload_n X dX3_show_70 rfl 3 rfl ?_
      refine al_15 X dX3_show_71 h (fun v10 h => ?_)
      exact r_iret Rt dX3_show_72 h
    · refine r_iconst X 0 dX3_show_32 (by decide) ?_
      exact r_iret Rt dX3_show_33 h
  · refine r_iconst X 0 dX3_show_32 (by decide) ?_
    exact r_iret Rt dX3_show_33 h
theorem c_X3_show (l : Launch) (hl : l.stackTraces = false) (N : Nat) (D : va_G) (cy : Nat → ClassId) (ad sa : Nat → Nat) (a1 : Int32) (a2 : Int32) (σ : Sg) : CtI l yX3_show cX3_show 5 (some .int) 0 0 D cy ad sa [.ref (ad 12), .int a1, .int a2] σ (f_X3_show N a1 a2 σ) :=
  ct_I hl (by decide +kernel) (Nat.le_of_ble_eq_true rfl) (fun z res e1 e2 e3 e4 e5 e6 X Rt h => by subst e1 e2 e3 e4 e5; exact w_X3_show X ⟨e6.1, e6.2⟩ Rt N a1 a2 σ h)
def f_X3_shownBy (N : Nat) (a1 : Int32) (σ : Sg) : Option (Int32 × Sg) := rdA 10 (σ 15) a1 (fun v1 => some (v1, σ))
set_option maxHeartbeats 4000000 in
set_option maxRecDepth 100000 in
theorem w_X3_shownBy {z : Cz} (X : Cx z cX3_shownBy 2 RX3) (hR : 0 ≤ (zR z).frames ∧ 0 ≤ (zR z).locals) {res : (Int32 × Sg)} (Rt : RtI z cX3_shownBy 2 .int res) (N : Nat) (a1 : Int32) (σ : Sg) (h : f_X3_shownBy N a1 σ = some res) : V z 0 2 0 [(0, .ref (zA z 12)), (1, .int a1)] [] σ := by
  rw [f_X3_shownBy] at h
  refine r_aload_n X dX3_shownBy_0 rfl 0 rfl ?_
  refine gf_X3_18 X dX3_shownBy_1 ?_
  refine r_iload_n X dX3_shownBy_4 rfl 1 rfl ?_
  refine al_15 X dX3_shownBy_5 h (fun v1 h => ?_)
  exact r_iret Rt dX3_shownBy_6 h
theorem c_X3_shownBy (l : Launch) (hl : l.stackTraces = false) (N : Nat) (D : va_G) (cy : Nat → ClassId) (ad sa : Nat → Nat) (a1 : Int32) (σ : Sg) : CtI l yX3_shownBy cX3_shownBy 2 (some .int) 0 0 D cy ad sa [.ref (ad 12), .int a1] σ (f_X3_shownBy N a1 σ) :=
  ct_I hl (by decide +kernel) (Nat.le_of_ble_eq_true rfl) (fun z res e1 e2 e3 e4 e5 e6 X Rt h => by subst e1 e2 e3 e4 e5; exact w_X3_shownBy X ⟨e6.1, e6.2⟩ Rt N a1 σ h)
def f_X3_codeAt (N : Nat) (a1 : Int32) (a2 : Int32) (σ : Sg) : Option (Int32 × Sg) := rdA 200 (σ 13) ((a1 * 20) + a2) (fun v1 => some (v1, σ))
set_option maxHeartbeats 4000000 in
set_option maxRecDepth 100000 in
theorem w_X3_codeAt {z : Cz} (X : Cx z cX3_codeAt 3 RX3) (hR : 0 ≤ (zR z).frames ∧ 0 ≤ (zR z).locals) {res : (Int32 × Sg)} (Rt : RtI z cX3_codeAt 3 .int res) (N : Nat) (a1 : Int32) (a2 : Int32) (σ : Sg) (h : f_X3_codeAt N a1 a2 σ = some res) : V z 0 3 0 [(0, .ref (zA z 12)), (1, .int a1), (2, .int a2)] [] σ := by
  rw [f_X3_codeAt] at h
  refine r_aload_n X dX3_codeAt_0 rfl 0 rfl ?_
  refine gf_X3_9 X dX3_codeAt_1 ?_
  refine r_iload_n X dX3_codeAt_4 rfl 1 rfl ?_
  refine r_bipush X 20 dX3_codeAt_5 (by decide) ?_
  refine r_imul X dX3_codeAt_7 ?_
  refine r_iload_n X dX3_codeAt_8 rfl 2 rfl ?_
  refine r_iadd X dX3_codeAt_9 ?_
  refine al_13 X dX3_codeAt_10 h (fun v1 h => ?_)
  exact r_iret Rt dX3_codeAt_11 h
theorem c_X3_codeAt (l : Launch) (hl : l.stackTraces = false) (N : Nat) (D : va_G) (cy : Nat → ClassId) (ad sa : Nat → Nat) (a1 : Int32) (a2 : Int32) (σ : Sg) : CtI l yX3_codeAt cX3_codeAt 3 (some .int) 0 0 D cy ad sa [.ref (ad 12), .int a1, .int a2] σ (f_X3_codeAt N a1 a2 σ) :=
  ct_I hl (by decide +kernel) (Nat.le_of_ble_eq_true rfl) (fun z res e1 e2 e3 e4 e5 e6 X Rt h => by subst e1 e2 e3 e4 e5; exact w_X3_codeAt X ⟨e6.1, e6.2⟩ Rt N a1 a2 σ h)
def f_X3_placeOf (N : Nat) (a1 : Int32) (σ : Sg) : Option (Int32 × Sg) := rdA 200 (σ 14) a1 (fun v1 => some (v1, σ))
set_option maxHeartbeats 4000000 in
set_option maxRecDepth 100000 in
theorem w_X3_placeOf {z : Cz} (X : Cx z cX3_placeOf 2 RX3) (hR : 0 ≤ (zR z).frames ∧ 0 ≤ (zR z).locals) {res : (Int32 × Sg)} (Rt : RtI z cX3_placeOf 2 .int res) (N : Nat) (a1 : Int32) (σ : Sg) (h : f_X3_placeOf N a1 σ = some res) : V z 0 2 0 [(0, .ref (zA z 12)), (1, .int a1)] [] σ := by
  rw [f_X3_placeOf] at h
  refine r_aload_n X dX3_placeOf_0 rfl 0 rfl ?_
  refine gf_X3_15 X dX3_placeOf_1 ?_
  refine r_iload_n X dX3_placeOf_4 rfl 1 rfl ?_
  refine al_14 X dX3_placeOf_5 h (fun v1 h => ?_)
  exact r_iret Rt dX3_placeOf_6 h
theorem c_X3_placeOf (l : Launch) (hl : l.stackTraces = false) (N : Nat) (D : va_G) (cy : Nat → ClassId) (ad sa : Nat → Nat) (a1 : Int32) (σ : Sg) : CtI l yX3_placeOf cX3_placeOf 2 (some .int) 0 0 D cy ad sa [.ref (ad 12), .int a1] σ (f_X3_placeOf N a1 σ) :=
  ct_I hl (by decide +kernel) (Nat.le_of_ble_eq_true rfl) (fun z res e1 e2 e3 e4 e5 e6 X Rt h => by subst e1 e2 e3 e4 e5; exact w_X3_placeOf X ⟨e6.1, e6.2⟩ Rt N a1 σ h)
def f_X4_isOwn (N : Nat) (a1 : Int32) (σ : Sg) : Option (Int32 × Sg) := if a1 < 100 then (some (0, σ)) else (if 120 ≤ a1 then (some (0, σ)) else (some (1, σ)))
set_option maxHeartbeats 4000000 in
set_option maxRecDepth 100000 in
theorem w_X4_isOwn {z : Cz} (X : Cx z cX4_isOwn 1 RX4) (hR : 0 ≤ (zR z).frames ∧ 0 ≤ (zR z).locals) {res : (Int32 × Sg)} (Rt : RtI z cX4_isOwn 1 .boolean res) (N : Nat) (a1 : Int32) (σ : Sg) (h : f_X4_isOwn N a1 σ = some res) : V z 0 1 0 [(0, .int a1)] [] σ := by
  rw [f_X4_isOwn] at h
  refine r_iload_n X dX4_isOwn_0 rfl 0 rfl ?_
  refine r_bipush X 100 dX4_isOwn_1 (by decide) ?_
  refine r_icmp_lt X 16 dX4_isOwn_3 (by decide) h (fun g1 h => ?_) (fun g1 h => ?_)
  · refine r_iconst X 0 dX4_isOwn_16 (by decide) ?_
    exact r_zretC Rt dX4_isOwn_17 (by decide) h
  · refine r_iload_n X dX4_isOwn_6 rfl 0 rfl ?_
    refine r_bipush X 120 dX4_isOwn_7 (by decide) ?_
    refine r_icmp_ge X 16 dX4_isOwn_9 (by decide) h (fun g2 h => ?_) (fun g2 h => ?_)
    · refine r_iconst X 0 dX4_isOwn_16 (by decide) ?_
      exact r_zretC Rt dX4_isOwn_17 (by decide) h
    · refine r_iconst X 1 dX4_isOwn_12 (by decide) ?_
      refine r_goto X 17 dX4_isOwn_13 (by decide) ?_
      exact r_zretC Rt dX4_isOwn_17 (by decide) h
theorem c_X4_isOwn (l : Launch) (hl : l.stackTraces = false) (N : Nat) (D : va_G) (cy : Nat → ClassId) (ad sa : Nat → Nat) (a1 : Int32) (σ : Sg) : CtI l yX4_isOwn cX4_isOwn 1 (some .boolean) 0 0 D cy ad sa [.int a1] σ (f_X4_isOwn N a1 σ) :=
  ct_I hl (by decide +kernel) (Nat.le_of_ble_eq_true rfl) (fun z res e1 e2 e3 e4 e5 e6 X Rt h => by subst e1 e2 e3 e4 e5; exact w_X4_isOwn X ⟨e6.1, e6.2⟩ Rt N a1 σ h)
def f_X4_isRole (N : Nat) (a1 : Int32) (σ : Sg) : Option (Int32 × Sg) := cI (f_X4_isOwn N a1 σ) (fun v1 σ2 => if v1 = 0 then (if a1 < 0 then (some (0, σ2)) else (if 12 < a1 then (some (0, σ2)) else (some (1, σ2)))) else (some (1, σ2)))
set_option maxHeartbeats 4000000 in
set_option maxRecDepth 100000 in
theorem w_X4_isRole {z : Cz} (X : Cx z cX4_isRole 1 RX4) (hR : 1 ≤ (zR z).frames ∧ 20 ≤ (zR z).locals) {res : (Int32 × Sg)} (Rt : RtI z cX4_isRole 1 .boolean res) (N : Nat) (a1 : Int32) (σ : Sg) (h : f_X4_isRole N a1 σ = some res) : V z 0 1 0 [(0, .int a1)] [] σ := by
  rw [f_X4_isRole] at h
  refine r_iload_n X dX4_isRole_0 rfl 0 rfl ?_
  refine r_callS X lk_X4_21 (c_X4_isOwn (zl z) X.2.2.2.2.2.2.2.1 N (zD z) (zy z) (zA z) (zS z) a1 σ) ⟨Nat.le_trans (by decide) hR.1, Nat.le_trans (by decide) hR.2⟩ rfl rfl (Nat.le_of_ble_eq_true rfl) dX4_isRole_1 h (fun v1 σ2 h => ?_)
  refine r_if_ne X 17 dX4_isRole_4 (by decide) h (fun g3 h => ?_) (fun g3 h => ?_)
  · refine r_iload_n X dX4_isRole_7 rfl 0 rfl ?_
    refine r_if_lt X 21 dX4_isRole_8 (by decide) h (fun g4 h => ?_) (fun g4 h => ?_)
    · refine r_iconst X 0 dX4_isRole_21 (by decide) ?_
      exact r_zretC Rt dX4_isRole_22 (by decide) h
    · refine r_iload_n X dX4_isRole_11 rfl 0 rfl ?_
      refine r_bipush X 12 dX4_isRole_12 (by decide) ?_
      refine r_icmp_gt X 21 dX4_isRole_14 (by decide) h (fun g5 h => ?_) (fun g5 h => ?_)
      · refine r_iconst X 0 dX4_isRole_21 (by decide) ?_
        exact r_zretC Rt dX4_isRole_22 (by decide) h
      · refine r_iconst X 1 dX4_isRole_17 (by decide) ?_
        refine r_goto X 22 dX4_isRole_18 (by decide) ?_
        exact r_zretC Rt dX4_isRole_22 (by decide) h
  · refine r_iconst X 1 dX4_isRole_17 (by decide) ?_
    refine r_goto X 22 dX4_isRole_18 (by decide) ?_
    exact r_zretC Rt dX4_isRole_22 (by decide) h
theorem c_X4_isRole (l : Launch) (hl : l.stackTraces = false) (N : Nat) (D : va_G) (cy : Nat → ClassId) (ad sa : Nat → Nat) (a1 : Int32) (σ : Sg) : CtI l yX4_isRole cX4_isRole 1 (some .boolean) 1 20 D cy ad sa [.int a1] σ (f_X4_isRole N a1 σ) :=
  ct_I hl (by decide +kernel) (Nat.le_of_ble_eq_true rfl) (fun z res e1 e2 e3 e4 e5 e6 X Rt h => by subst e1 e2 e3 e4 e5; exact w_X4_isRole X ⟨e6.1, e6.2⟩ Rt N a1 σ h)
def f_X4_lead (N : Nat) (a1 : Int32) (a2 : Int32) (σ : Sg) : Option (Int32 × Sg) := cI (f_X4_isOwn N a1 σ) (fun v1 σ2 => if v1 = 0 then (some (0, σ2)) else (wrA 20 σ2 2 (a1 - 100) a2 (fun σ4 => some (0, σ4))))
set_option maxHeartbeats 4000000 in
set_option maxRecDepth 100000 in
theorem w_X4_lead {z : Cz} (X : Cx z cX4_lead 3 RX4) (hR : 1 ≤ (zR z).frames ∧ 20 ≤ (zR z).locals) {res : (Int32 × Sg)} (Rt : RtV z cX4_lead 3 res) (N : Nat) (a1 : Int32) (a2 : Int32) (σ : Sg) (h : f_X4_lead N a1 a2 σ = some res) : V z 0 3 0 [(0, .ref (zA z 1)), (1, .int a1), (2, .int a2)] [] σ := by
  rw [f_X4_lead] at h
  refine r_iload_n X dX4_lead_0 rfl 1 rfl ?_
  refine r_callS X lk_X4_21 (c_X4_isOwn (zl z) X.2.2.2.2.2.2.2.1 N (zD z) (zy z) (zA z) (zS z) a1 σ) ⟨Nat.le_trans (by decide) hR.1, Nat.le_trans (by decide) hR.2⟩ rfl rfl (Nat.le_of_ble_eq_true rfl) dX4_lead_1 h (fun v1 σ2 h => ?_)
  refine r_if_eq X 17 dX4_lead_4 (by decide) h (fun g3 h => ?_) (fun g3 h => ?_)
  · exact r_vret Rt dX4_lead_17 h
  · refine r_aload_n X dX4_lead_7 rfl 0 rfl ?_
    refine gf_X4_9 X dX4_lead_8 ?_
    refine r_iload_n X dX4_lead_11 rfl 1 rfl ?_
    refine r_bipush X 100 dX4_lead_12 (by decide) ?_
    refine r_isub X dX4_lead_14 ?_
    refine r_iload_n X dX4_lead_15 rfl 2 rfl ?_
    refine as_2 X dX4_lead_16 h (fun σ4 h => ?_)
    exact r_vret Rt dX4_lead_17 h
theorem c_X4_lead (l : Launch) (hl : l.stackTraces = false) (N : Nat) (D : va_G) (cy : Nat → ClassId) (ad sa : Nat → Nat) (a1 : Int32) (a2 : Int32) (σ : Sg) : CtV l yX4_lead cX4_lead 3 1 20 D cy ad sa [.ref (ad 1), .int a1, .int a2] σ (f_X4_lead N a1 a2 σ) :=
  ct_V hl (by decide +kernel) (Nat.le_of_ble_eq_true rfl) (fun z res e1 e2 e3 e4 e5 e6 X Rt h => by subst e1 e2 e3 e4 e5; exact w_X4_lead X ⟨e6.1, e6.2⟩ Rt N a1 a2 σ h)
def f_X4_leads_5 (N : Nat) (x2 : Int32) (K : Int32 → Sg → Option (Int32 × Sg)) : Nat → Int32 → Int32 → Sg → Option (Int32 × Sg)
  | 0, _, _, _ => none
  | n + 1, x3, x4, σ => if 20 ≤ x4 then (K x3 σ) else (if x3 = x2 then (K x3 σ) else (cI (f_X4_isOwn N x3 σ) (fun v3 σ4 => if v3 = 0 then (K x3 σ4) else (rdA 20 (σ4 2) (x3 - 100) (fun v6 => lt (x4 + 1) (fun v7 => f_X4_leads_5 N x2 K n v6 v7 σ4))))))
def f_X4_leads (N : Nat) (a1 : Int32) (a2 : Int32) (σ : Sg) : Option (Int32 × Sg) := f_X4_leads_5 N a2 (fun v8 σ9 => if v8 = a2 then (some (1, σ9)) else (some (0, σ9))) N a1 0 σ
set_option maxHeartbeats 4000000 in
set_option maxRecDepth 100000 in
theorem w_X4_leads_5 {z : Cz} (X : Cx z cX4_leads 5 RX4) (hR : 1 ≤ (zR z).frames ∧ 20 ≤ (zR z).locals) {res : (Int32 × Sg)} (N : Nat) (x2 : Int32) (K : Int32 → Sg → Option (Int32 × Sg)) (kx : ∀ (y3 : Int32) (σ : Sg), K y3 σ = some res → V z 0 5 40 [(2, .int x2), (3, .int y3)] [] σ) : ∀ (n : Nat) (x3 : Int32) (x4 : Int32) (σ : Sg), f_X4_leads_5 N x2 K n x3 x4 σ = some res → V z 0 5 5 [(0, .ref (zA z 1)), (2, .int x2), (3, .int x3), (4, .int x4)] [] σ := by
  intro n
  induction n with
  | zero =>
    intro x3 x4 σ h
    rw [f_X4_leads_5] at h
    cases h
  | succ n ih =>
    intro x3 x4 σ h
    rw [f_X4_leads_5] at h
    refine r_iload X dX4_leads_5 3 rfl ?_
    refine r_bipush X 20 dX4_leads_7 (by decide) ?_
    refine r_icmp_ge X 40 dX4_leads_9 (by decide) h (fun g1 h => ?_) (fun g1 h => ?_)
    · refine r_sub [1, 2] rfl ?_
      exact kx x3 σ h
    · refine r_iload_n X dX4_leads_12 rfl 2 rfl ?_
      refine r_iload_n X dX4_leads_13 rfl 1 rfl ?_
      refine r_icmp_eq X 40 dX4_leads_14 (by decide) h (fun g2 h => ?_) (fun g2 h => ?_)
      · refine r_sub [1, 2] rfl ?_
        exact kx x3 σ h
      · refine r_iload_n X dX4_leads_17 rfl 2 rfl ?_
        refine r_callS X lk_X4_21 (c_X4_isOwn (zl z) X.2.2.2.2.2.2.2.1 N (zD z) (zy z) (zA z) (zS z) x3 σ) ⟨Nat.le_trans (by decide) hR.1, Nat.le_trans (by decide) hR.2⟩ rfl rfl (Nat.le_of_ble_eq_true rfl) dX4_leads_18 h (fun v3 σ4 h => ?_)
        refine r_if_eq X 40 dX4_leads_21 (by decide) h (fun g5 h => ?_) (fun g5 h => ?_)
        · refine r_sub [1, 2] rfl ?_
          exact kx x3 σ4 h
        · refine r_aload_n X dX4_leads_24 rfl 0 rfl ?_
          refine gf_X4_9 X dX4_leads_25 ?_
          refine r_iload_n X dX4_leads_28 rfl 2 rfl ?_
          refine r_bipush X 100 dX4_leads_29 (by decide) ?_
          refine r_isub X dX4_leads_31 ?_
          refine al_2 X dX4_leads_32 h (fun v6 h => ?_)
          refine r_istore_n X [(3, .int v6), (0, .ref (zA z 1)), (2, .int x2), (4, .int x4)] dX4_leads_33 rfl (by decide) rfl ?_
          refine r_iinc X 1 (fun v7 => [(4, .int v7), (3, .int v6), (0, .ref (zA z 1)), (2, .int x2)]) dX4_leads_34 3 rfl (by decide) (by decide) (fun _ => rfl) h (fun v7 h => ?_)
          refine r_goto X 5 dX4_leads_37 (by decide) ?_
          refine r_sub [2, 3, 1, 0] rfl ?_
          exact ih v6 v7 σ4 h
set_option maxHeartbeats 4000000 in
set_option maxRecDepth 100000 in
theorem w_X4_leads {z : Cz} (X : Cx z cX4_leads 5 RX4) (hR : 1 ≤ (zR z).frames ∧ 20 ≤ (zR z).locals) {res : (Int32 × Sg)} (Rt : RtI z cX4_leads 5 .boolean res) (N : Nat) (a1 : Int32) (a2 : Int32) (σ : Sg) (h : f_X4_leads N a1 a2 σ = some res) : V z 0 5 0 [(0, .ref (zA z 1)), (1, .int a1), (2, .int a2)] [] σ := by
  rw [f_X4_leads] at h
  refine r_iload_n X dX4_leads_0 rfl 1 rfl ?_
  refine r_istore_n X [(3, .int a1), (0, .ref (zA z 1)), (1, .int a1), (2, .int a2)] dX4_leads_1 rfl (by decide) rfl ?_
  refine r_iconst X 0 dX4_leads_2 (by decide) ?_
  refine r_istore X [(4, .int 0), (3, .int a1), (0, .ref (zA z 1)), (1, .int a1), (2, .int a2)] dX4_leads_3 (by decide) rfl ?_
  refine r_sub [2, 4, 1, 0] rfl ?_
  refine w_X4_leads_5 X hR N a2 _ (fun v8 σ9 h => ?_) N a1 0 σ h
  refine r_iload_n X dX4_leads_40 rfl 1 rfl ?_
  refine r_iload_n X dX4_leads_41 rfl 0 rfl ?_
  refine r_icmp_ne X 49 dX4_leads_42 (by decide) h (fun g10 h => ?_) (fun g10 h => ?_)
  · refine r_iconst X 1 dX4_leads_45 (by decide) ?_
    refine r_goto X 50 dX4_leads_46 (by decide) ?_
    exact r_zretC Rt dX4_leads_50 (by decide) h
  · refine r_iconst X 0 dX4_leads_49 (by decide) ?_
    exact r_zretC Rt dX4_leads_50 (by decide) h
theorem c_X4_leads (l : Launch) (hl : l.stackTraces = false) (N : Nat) (D : va_G) (cy : Nat → ClassId) (ad sa : Nat → Nat) (a1 : Int32) (a2 : Int32) (σ : Sg) : CtI l yX4_leads cX4_leads 5 (some .boolean) 1 20 D cy ad sa [.ref (ad 1), .int a1, .int a2] σ (f_X4_leads N a1 a2 σ) :=
  ct_I hl (by decide +kernel) (Nat.le_of_ble_eq_true rfl) (fun z res e1 e2 e3 e4 e5 e6 X Rt h => by subst e1 e2 e3 e4 e5; exact w_X4_leads X ⟨e6.1, e6.2⟩ Rt N a1 a2 σ h)
def f_X4_standardOf_4 (N : Nat) (K : Int32 → Sg → Option (Int32 × Sg)) : Nat → Int32 → Int32 → Sg → Option (Int32 × Sg)
  | 0, _, _, _ => none
  | n + 1, x2, x3, σ => if 20 ≤ x3 then (K x2 σ) else (cI (f_X4_isOwn N x2 σ) (fun v2 σ3 => if v2 = 0 then (K x2 σ3) else (rdA 20 (σ3 2) (x2 - 100) (fun v5 => lt (x3 + 1) (fun v6 => f_X4_standardOf_4 N K n v5 v6 σ3)))))
def f_X4_standardOf (N : Nat) (a1 : Int32) (σ : Sg) : Option (Int32 × Sg) := f_X4_standardOf_4 N (fun v7 σ8 => cI (f_X4_isOwn N v7 σ8) (fun v9 σ10 => if v9 = 0 then (some (v7, σ10)) else (some ((-1), σ10)))) N a1 0 σ
set_option maxHeartbeats 4000000 in
set_option maxRecDepth 100000 in
theorem w_X4_standardOf_4 {z : Cz} (X : Cx z cX4_standardOf 4 RX4) (hR : 1 ≤ (zR z).frames ∧ 20 ≤ (zR z).locals) {res : (Int32 × Sg)} (N : Nat) (K : Int32 → Sg → Option (Int32 × Sg)) (kx : ∀ (y2 : Int32) (σ : Sg), K y2 σ = some res → V z 0 4 33 [(2, .int y2)] [] σ) : ∀ (n : Nat) (x2 : Int32) (x3 : Int32) (σ : Sg), f_X4_standardOf_4 N K n x2 x3 σ = some res → V z 0 4 4 [(0, .ref (zA z 1)), (2, .int x2), (3, .int x3)] [] σ := by
  intro n
  induction n with
  | zero =>
    intro x2 x3 σ h
    rw [f_X4_standardOf_4] at h
    cases h
  | succ n ih =>
    intro x2 x3 σ h
    rw [f_X4_standardOf_4] at h
    refine r_iload_n X dX4_standardOf_4 rfl 2 rfl ?_
    refine r_bipush X 20 dX4_standardOf_5 (by decide) ?_
    refine r_icmp_ge X 33 dX4_standardOf_7 (by decide) h (fun g1 h => ?_) (fun g1 h => ?_)
    · refine r_sub [1] rfl ?_
      exact kx x2 σ h
    · refine r_iload_n X dX4_standardOf_10 rfl 1 rfl ?_
      refine r_callS X lk_X4_21 (c_X4_isOwn (zl z) X.2.2.2.2.2.2.2.1 N (zD z) (zy z) (zA z) (zS z) x2 σ) ⟨Nat.le_trans (by decide) hR.1, Nat.le_trans (by decide) hR.2⟩ rfl rfl (Nat.le_of_ble_eq_true rfl) dX4_standardOf_11 h (fun v2 σ3 h => ?_)
      refine r_if_eq X 33 dX4_standardOf_14 (by decide) h (fun g4 h => ?_) (fun g4 h => ?_)
      · refine r_sub [1] rfl ?_
        exact kx x2 σ3 h
      · refine r_aload_n X dX4_standardOf_17 rfl 0 rfl ?_
        refine gf_X4_9 X dX4_standardOf_18 ?_
        refine r_iload_n X dX4_standardOf_21 rfl 1 rfl ?_
        refine r_bipush X 100 dX4_standardOf_22 (by decide) ?_
        refine r_isub X dX4_standardOf_24 ?_
        refine al_2 X dX4_standardOf_25 h (fun v5 h => ?_)
        refine r_istore_n X [(2, .int v5), (0, .ref (zA z 1)), (3, .int x3)] dX4_standardOf_26 rfl (by decide) rfl ?_
        refine r_iinc X 1 (fun v6 => [(3, .int v6), (2, .int v5), (0, .ref (zA z 1))]) dX4_standardOf_27 2 rfl (by decide) (by decide) (fun _ => rfl) h (fun v6 h => ?_)
        refine r_goto X 4 dX4_standardOf_30 (by decide) ?_
        refine r_sub [2, 1, 0] rfl ?_
        exact ih v5 v6 σ3 h
set_option maxHeartbeats 4000000 in
set_option maxRecDepth 100000 in
theorem w_X4_standardOf {z : Cz} (X : Cx z cX4_standardOf 4 RX4) (hR : 1 ≤ (zR z).frames ∧ 20 ≤ (zR z).locals) {res : (Int32 × Sg)} (Rt : RtI z cX4_standardOf 4 .int res) (N : Nat) (a1 : Int32) (σ : Sg) (h : f_X4_standardOf N a1 σ = some res) : V z 0 4 0 [(0, .ref (zA z 1)), (1, .int a1)] [] σ := by
  rw [f_X4_standardOf] at h
  refine r_iload_n X dX4_standardOf_0 rfl 1 rfl ?_
  refine r_istore_n X [(2, .int a1), (0, .ref (zA z 1)), (1, .int a1)] dX4_standardOf_1 rfl (by decide) rfl ?_
  refine r_iconst X 0 dX4_standardOf_2 (by decide) ?_
  refine r_istore_n X [(3, .int 0), (2, .int a1), (0, .ref (zA z 1)), (1, .int a1)] dX4_standardOf_3 rfl (by decide) rfl ?_
  refine r_sub [2, 1, 0] rfl ?_
  refine w_X4_standardOf_4 X hR N _ (fun v7 σ8 h => ?_) N a1 0 σ h
  refine r_iload_n X dX4_standardOf_33 rfl 0 rfl ?_
  refine r_callS X lk_X4_21 (c_X4_isOwn (zl z) X.2.2.2.2.2.2.2.1 N (zD z) (zy z) (zA z) (zS z) v7 σ8) ⟨Nat.le_trans (by decide) hR.1, Nat.le_trans (by decide) hR.2⟩ rfl rfl (Nat.le_of_ble_eq_true rfl) dX4_standardOf_34 h (fun v9 σ10 h => ?_)
  refine r_if_eq X 44 dX4_standardOf_37 (by decide) h (fun g11 h => ?_) (fun g11 h => ?_)
  · refine r_iload_n X dX4_standardOf_44 rfl 0 rfl ?_
    exact r_iret Rt dX4_standardOf_45 h
  · refine r_iconst X (-1) dX4_standardOf_40 (by decide) ?_
    refine r_goto X 45 dX4_standardOf_41 (by decide) ?_
    exact r_iret Rt dX4_standardOf_45 h
theorem c_X4_standardOf (l : Launch) (hl : l.stackTraces = false) (N : Nat) (D : va_G) (cy : Nat → ClassId) (ad sa : Nat → Nat) (a1 : Int32) (σ : Sg) : CtI l yX4_standardOf cX4_standardOf 4 (some .int) 1 20 D cy ad sa [.ref (ad 1), .int a1] σ (f_X4_standardOf N a1 σ) :=
  ct_I hl (by decide +kernel) (Nat.le_of_ble_eq_true rfl) (fun z res e1 e2 e3 e4 e5 e6 X Rt h => by subst e1 e2 e3 e4 e5; exact w_X4_standardOf X ⟨e6.1, e6.2⟩ Rt N a1 σ h)
def f_X6_isElement (N : Nat) (a1 : Int32) (σ : Sg) : Option (Int32 × Sg) := if 60 ≤ a1 then (some (0, σ)) else (some (1, σ))
set_option maxHeartbeats 4000000 in
set_option maxRecDepth 100000 in
theorem w_X6_isElement {z : Cz} (X : Cx z cX6_isElement 1 RX6) (hR : 0 ≤ (zR z).frames ∧ 0 ≤ (zR z).locals) {res : (Int32 × Sg)} (Rt : RtI z cX6_isElement 1 .boolean res) (N : Nat) (a1 : Int32) (σ : Sg) (h : f_X6_isElement N a1 σ = some res) : V z 0 1 0 [(0, .int a1)] [] σ := by
  rw [f_X6_isElement] at h
  refine r_iload_n X dX6_isElement_0 rfl 0 rfl ?_
  refine r_bipush X 60 dX6_isElement_1 (by decide) ?_
  refine r_icmp_ge X 10 dX6_isElement_3 (by decide) h (fun g1 h => ?_) (fun g1 h => ?_)
  · refine r_iconst X 0 dX6_isElement_10 (by decide) ?_
    exact r_zretC Rt dX6_isElement_11 (by decide) h
  · refine r_iconst X 1 dX6_isElement_6 (by decide) ?_
    refine r_goto X 11 dX6_isElement_7 (by decide) ?_
    exact r_zretC Rt dX6_isElement_11 (by decide) h
theorem c_X6_isElement (l : Launch) (hl : l.stackTraces = false) (N : Nat) (D : va_G) (cy : Nat → ClassId) (ad sa : Nat → Nat) (a1 : Int32) (σ : Sg) : CtI l yX6_isElement cX6_isElement 1 (some .boolean) 0 0 D cy ad sa [.int a1] σ (f_X6_isElement N a1 σ) :=
  ct_I hl (by decide +kernel) (Nat.le_of_ble_eq_true rfl) (fun z res e1 e2 e3 e4 e5 e6 X Rt h => by subst e1 e2 e3 e4 e5; exact w_X6_isElement X ⟨e6.1, e6.2⟩ Rt N a1 σ h)
def f_X6_standardOf (N : Nat) (a1 : Int32) (σ : Sg) : Option (Int32 × Sg) := if a1 < 0 then (some ((-1), σ)) else (lt (σ 3 6) (fun v2 => if a1 < v2 then (rdA 60 (σ 4) a1 (fun v4 => cI (f_X4_standardOf N v4 σ) (fun v5 σ6 => some (v5, σ6)))) else (some ((-1), σ))))
set_option maxHeartbeats 4000000 in
set_option maxRecDepth 100000 in
theorem w_X6_standardOf {z : Cz} (X : Cx z cX6_standardOf 2 RX6) (hR : 2 ≤ (zR z).frames ∧ 43 ≤ (zR z).locals) {res : (Int32 × Sg)} (Rt : RtI z cX6_standardOf 2 .int res) (N : Nat) (a1 : Int32) (σ : Sg) (h : f_X6_standardOf N a1 σ = some res) : V z 0 2 0 [(0, .ref (zA z 3)), (1, .int a1)] [] σ := by
  rw [f_X6_standardOf] at h
  refine r_iload_n X dX6_standardOf_0 rfl 1 rfl ?_
  refine r_if_lt X 12 dX6_standardOf_1 (by decide) h (fun g1 h => ?_) (fun g1 h => ?_)
  · refine r_iconst X (-1) dX6_standardOf_12 (by decide) ?_
    refine r_goto X 29 dX6_standardOf_13 (by decide) ?_
    exact r_iret Rt dX6_standardOf_29 h
  · refine r_iload_n X dX6_standardOf_4 rfl 1 rfl ?_
    refine r_aload_n X dX6_standardOf_5 rfl 0 rfl ?_
    refine gf_X6_27 X dX6_standardOf_6 h (fun v2 h => ?_)
    refine r_icmp_lt X 16 dX6_standardOf_9 (by decide) h (fun g3 h => ?_) (fun g3 h => ?_)
    · refine r_aload_n X dX6_standardOf_16 rfl 0 rfl ?_
      refine gf_X6_34 X dX6_standardOf_17 ?_
      refine r_aload_n X dX6_standardOf_20 rfl 0 rfl ?_
      refine gf_X6_9 X dX6_standardOf_21 ?_
      refine r_iload_n X dX6_standardOf_24 rfl 1 rfl ?_
      refine al_4 X dX6_standardOf_25 h (fun v4 h => ?_)
      refine r_callV X 1 4 (by decide) rfl rfl rfl lk_X6_48 (c_X4_standardOf (zl z) X.2.2.2.2.2.2.2.1 N (zD z) (zy z) (zA z) (zS z) v4 σ) ⟨Nat.le_trans (by decide) hR.1, Nat.le_trans (by decide) hR.2⟩ rfl rfl (Nat.le_of_ble_eq_true rfl) dX6_standardOf_26 h (fun v5 σ6 h => ?_)
      exact r_iret Rt dX6_standardOf_29 h
    · refine r_iconst X (-1) dX6_standardOf_12 (by decide) ?_
      refine r_goto X 29 dX6_standardOf_13 (by decide) ?_
      exact r_iret Rt dX6_standardOf_29 h
theorem c_X6_standardOf (l : Launch) (hl : l.stackTraces = false) (N : Nat) (D : va_G) (cy : Nat → ClassId) (ad sa : Nat → Nat) (a1 : Int32) (σ : Sg) : CtI l yX6_standardOf cX6_standardOf 2 (some .int) 2 43 D cy ad sa [.ref (ad 3), .int a1] σ (f_X6_standardOf N a1 σ) :=
  ct_I hl (by decide +kernel) (Nat.le_of_ble_eq_true rfl) (fun z res e1 e2 e3 e4 e5 e6 X Rt h => by subst e1 e2 e3 e4 e5; exact w_X6_standardOf X ⟨e6.1, e6.2⟩ Rt N a1 σ h)
def f_X6_firstBehind_4 (N : Nat) (K : Int32 → Sg → Option (Int32 × Sg)) : Nat → Int32 → Int32 → Sg → Option (Int32 × Sg)
  | 0, _, _, _ => none
  | n + 1, x2, x3, σ => if 260 ≤ x3 then (K x2 σ) else (if x2 = (-1) then (K x2 σ) else (rdA 260 (σ 8) x2 (fun v3 => if v3 = (-1) then (rdA 260 (σ 7) x2 (fun v5 => lt (x3 + 1) (fun v6 => f_X6_firstBehind_4 N K n v5 v6 σ))) else (K x2 σ))))
def f_X6_firstBehind (N : Nat) (a1 : Int32) (σ : Sg) : Option (Int32 × Sg) := f_X6_firstBehind_4 N (fun v7 σ8 => if v7 = (-1) then (some ((-1), σ8)) else (rdA 260 (σ8 8) v7 (fun v10 => some (v10, σ8)))) N a1 0 σ
set_option maxHeartbeats 4000000 in
set_option maxRecDepth 100000 in
theorem w_X6_firstBehind_4 {z : Cz} (X : Cx z cX6_firstBehind 4 RX6) (hR : 0 ≤ (zR z).frames ∧ 0 ≤ (zR z).locals) {res : (Int32 × Sg)} (N : Nat) (K : Int32 → Sg → Option (Int32 × Sg)) (kx : ∀ (y2 : Int32) (σ : Sg), K y2 σ = some res → V z 0 4 39 [(0, .ref (zA z 3)), (2, .int y2)] [] σ) : ∀ (n : Nat) (x2 : Int32) (x3 : Int32) (σ : Sg), f_X6_firstBehind_4 N K n x2 x3 σ = some res → V z 0 4 4 [(0, .ref (zA z 3)), (2, .int x2), (3, .int x3)] [] σ := by
  intro n
  induction n with
  | zero =>
    intro x2 x3 σ h
    rw [f_X6_firstBehind_4] at h
    cases h
  | succ n ih =>
    intro x2 x3 σ h
    rw [f_X6_firstBehind_4] at h
    refine r_iload_n X dX6_firstBehind_4 rfl 2 rfl ?_
    refine r_sipush X 260 dX6_firstBehind_5 (by decide) ?_
    refine r_icmp_ge X 39 dX6_firstBehind_8 (by decide) h (fun g1 h => ?_) (fun g1 h => ?_)
    · refine r_sub [0, 1] rfl ?_
      exact kx x2 σ h
    · refine r_iload_n X dX6_firstBehind_11 rfl 1 rfl ?_
      refine r_iconst X (-1) dX6_firstBehind_12 (by decide) ?_
      refine r_icmp_eq X 39 dX6_firstBehind_13 (by decide) h (fun g2 h => ?_) (fun g2 h => ?_)
      · refine r_sub [0, 1] rfl ?_
        exact kx x2 σ h
      · refine r_aload_n X dX6_firstBehind_16 rfl 0 rfl ?_
        refine gf_X6_24 X dX6_firstBehind_17 ?_
        refine r_iload_n X dX6_firstBehind_20 rfl 1 rfl ?_
        refine al_8 X dX6_firstBehind_21 h (fun v3 h => ?_)
        refine r_iconst X (-1) dX6_firstBehind_22 (by decide) ?_
        refine r_icmp_ne X 39 dX6_firstBehind_23 (by decide) h (fun g4 h => ?_) (fun g4 h => ?_)
        · refine r_aload_n X dX6_firstBehind_26 rfl 0 rfl ?_
          refine gf_X6_21 X dX6_firstBehind_27 ?_
          refine r_iload_n X dX6_firstBehind_30 rfl 1 rfl ?_
          refine al_7 X dX6_firstBehind_31 h (fun v5 h => ?_)
          refine r_istore_n X [(2, .int v5), (0, .ref (zA z 3)), (3, .int x3)] dX6_firstBehind_32 rfl (by decide) rfl ?_
          refine r_iinc X 1 (fun v6 => [(3, .int v6), (2, .int v5), (0, .ref (zA z 3))]) dX6_firstBehind_33 2 rfl (by decide) (by decide) (fun _ => rfl) h (fun v6 h => ?_)
          refine r_goto X 4 dX6_firstBehind_36 (by decide) ?_
          refine r_sub [2, 1, 0] rfl ?_
          exact ih v5 v6 σ h
        · refine r_sub [0, 1] rfl ?_
          exact kx x2 σ h
set_option maxHeartbeats 4000000 in
set_option maxRecDepth 100000 in
theorem w_X6_firstBehind {z : Cz} (X : Cx z cX6_firstBehind 4 RX6) (hR : 0 ≤ (zR z).frames ∧ 0 ≤ (zR z).locals) {res : (Int32 × Sg)} (Rt : RtI z cX6_firstBehind 4 .int res) (N : Nat) (a1 : Int32) (σ : Sg) (h : f_X6_firstBehind N a1 σ = some res) : V z 0 4 0 [(0, .ref (zA z 3)), (1, .int a1)] [] σ := by
  rw [f_X6_firstBehind] at h
  refine r_iload_n X dX6_firstBehind_0 rfl 1 rfl ?_
  refine r_istore_n X [(2, .int a1), (0, .ref (zA z 3)), (1, .int a1)] dX6_firstBehind_1 rfl (by decide) rfl ?_
  refine r_iconst X 0 dX6_firstBehind_2 (by decide) ?_
  refine r_istore_n X [(3, .int 0), (2, .int a1), (0, .ref (zA z 3)), (1, .int a1)] dX6_firstBehind_3 rfl (by decide) rfl ?_
  refine r_sub [2, 1, 0] rfl ?_
  refine w_X6_firstBehind_4 X hR N _ (fun v7 σ8 h => ?_) N a1 0 σ h
  refine r_iload_n X dX6_firstBehind_39 rfl 1 rfl ?_
  refine r_iconst X (-1) dX6_firstBehind_40 (by decide) ?_
  refine r_icmp_ne X 48 dX6_firstBehind_41 (by decide) h (fun g9 h => ?_) (fun g9 h => ?_)
  · refine r_iconst X (-1) dX6_firstBehind_44 (by decide) ?_
    refine r_goto X 54 dX6_firstBehind_45 (by decide) ?_
    exact r_iret Rt dX6_firstBehind_54 h
  · refine r_aload_n X dX6_firstBehind_48 rfl 0 rfl ?_
    refine gf_X6_24 X dX6_firstBehind_49 ?_
    refine r_iload_n X dX6_firstBehind_52 rfl 1 rfl ?_
    refine al_8 X dX6_firstBehind_53 h (fun v10 h => ?_)
    exact r_iret Rt dX6_firstBehind_54 h
theorem c_X6_firstBehind (l : Launch) (hl : l.stackTraces = false) (N : Nat) (D : va_G) (cy : Nat → ClassId) (ad sa : Nat → Nat) (a1 : Int32) (σ : Sg) : CtI l yX6_firstBehind cX6_firstBehind 4 (some .int) 0 0 D cy ad sa [.ref (ad 3), .int a1] σ (f_X6_firstBehind N a1 σ) :=
  ct_I hl (by decide +kernel) (Nat.le_of_ble_eq_true rfl) (fun z res e1 e2 e3 e4 e5 e6 X Rt h => by subst e1 e2 e3 e4 e5; exact w_X6_firstBehind X ⟨e6.1, e6.2⟩ Rt N a1 σ h)
def f_X6_hasKids (N : Nat) (a1 : Int32) (σ : Sg) : Option (Int32 × Sg) := rdA 60 (σ 5) a1 (fun v1 => if v1 = (-1) then (some (0, σ)) else (some (1, σ)))
set_option maxHeartbeats 4000000 in
set_option maxRecDepth 100000 in
theorem w_X6_hasKids {z : Cz} (X : Cx z cX6_hasKids 2 RX6) (hR : 0 ≤ (zR z).frames ∧ 0 ≤ (zR z).locals) {res : (Int32 × Sg)} (Rt : RtI z cX6_hasKids 2 .boolean res) (N : Nat) (a1 : Int32) (σ : Sg) (h : f_X6_hasKids N a1 σ = some res) : V z 0 2 0 [(0, .ref (zA z 3)), (1, .int a1)] [] σ := by
  rw [f_X6_hasKids] at h
  refine r_aload_n X dX6_hasKids_0 rfl 0 rfl ?_
  refine gf_X6_15 X dX6_hasKids_1 ?_
  refine r_iload_n X dX6_hasKids_4 rfl 1 rfl ?_
  refine al_5 X dX6_hasKids_5 h (fun v1 h => ?_)
  refine r_iconst X (-1) dX6_hasKids_6 (by decide) ?_
  refine r_icmp_eq X 14 dX6_hasKids_7 (by decide) h (fun g2 h => ?_) (fun g2 h => ?_)
  · refine r_iconst X 0 dX6_hasKids_14 (by decide) ?_
    exact r_zretC Rt dX6_hasKids_15 (by decide) h
  · refine r_iconst X 1 dX6_hasKids_10 (by decide) ?_
    refine r_goto X 15 dX6_hasKids_11 (by decide) ?_
    exact r_zretC Rt dX6_hasKids_15 (by decide) h
theorem c_X6_hasKids (l : Launch) (hl : l.stackTraces = false) (N : Nat) (D : va_G) (cy : Nat → ClassId) (ad sa : Nat → Nat) (a1 : Int32) (σ : Sg) : CtI l yX6_hasKids cX6_hasKids 2 (some .boolean) 0 0 D cy ad sa [.ref (ad 3), .int a1] σ (f_X6_hasKids N a1 σ) :=
  ct_I hl (by decide +kernel) (Nat.le_of_ble_eq_true rfl) (fun z res e1 e2 e3 e4 e5 e6 X Rt h => by subst e1 e2 e3 e4 e5; exact w_X6_hasKids X ⟨e6.1, e6.2⟩ Rt N a1 σ h)
def f_X6_firstIn (N : Nat) (a1 : Int32) (σ : Sg) : Option (Int32 × Sg) := cI (f_X6_hasKids N a1 σ) (fun v1 σ2 => if v1 = 0 then (cI (f_X6_firstBehind N a1 σ2) (fun v4 σ5 => some (v4, σ5))) else (rdA 60 (σ2 5) a1 (fun v6 => some (v6, σ2))))
set_option maxHeartbeats 4000000 in
set_option maxRecDepth 100000 in
theorem w_X6_firstIn {z : Cz} (X : Cx z cX6_firstIn 2 RX6) (hR : 1 ≤ (zR z).frames ∧ 23 ≤ (zR z).locals) {res : (Int32 × Sg)} (Rt : RtI z cX6_firstIn 2 .int res) (N : Nat) (a1 : Int32) (σ : Sg) (h : f_X6_firstIn N a1 σ = some res) : V z 0 2 0 [(0, .ref (zA z 3)), (1, .int a1)] [] σ := by
  rw [f_X6_firstIn] at h
  refine r_aload_n X dX6_firstIn_0 rfl 0 rfl ?_
  refine r_iload_n X dX6_firstIn_1 rfl 1 rfl ?_
  refine r_callV X 3 6 (by decide) rfl rfl rfl lk_X6_54 (c_X6_hasKids (zl z) X.2.2.2.2.2.2.2.1 N (zD z) (zy z) (zA z) (zS z) a1 σ) ⟨Nat.le_trans (by decide) hR.1, Nat.le_trans (by decide) hR.2⟩ rfl rfl (Nat.le_of_ble_eq_true rfl) dX6_firstIn_2 h (fun v1 σ2 h => ?_)
  refine r_if_eq X 17 dX6_firstIn_5 (by decide) h (fun g3 h => ?_) (fun g3 h => ?_)
  · refine r_aload_n X dX6_firstIn_17 rfl 0 rfl ?_
    refine r_iload_n X dX6_firstIn_18 rfl 1 rfl ?_
    refine r_callV X 3 6 (by decide) rfl rfl rfl lk_X6_58 (c_X6_firstBehind (zl z) X.2.2.2.2.2.2.2.1 N (zD z) (zy z) (zA z) (zS z) a1 σ2) ⟨Nat.le_trans (by decide) hR.1, Nat.le_trans (by decide) hR.2⟩ rfl rfl (Nat.le_of_ble_eq_true rfl) dX6_firstIn_19 h (fun v4 σ5 h => ?_)
    exact r_iret Rt dX6_firstIn_22 h
  · refine r_aload_n X dX6_firstIn_8 rfl 0 rfl ?_
    refine gf_X6_15 X dX6_firstIn_9 ?_
    refine r_iload_n X dX6_firstIn_12 rfl 1 rfl ?_
    refine al_5 X dX6_firstIn_13 h (fun v6 h => ?_)
    refine r_goto X 22 dX6_firstIn_14 (by decide) ?_
    exact r_iret Rt dX6_firstIn_22 h
theorem c_X6_firstIn (l : Launch) (hl : l.stackTraces = false) (N : Nat) (D : va_G) (cy : Nat → ClassId) (ad sa : Nat → Nat) (a1 : Int32) (σ : Sg) : CtI l yX6_firstIn cX6_firstIn 2 (some .int) 1 23 D cy ad sa [.ref (ad 3), .int a1] σ (f_X6_firstIn N a1 σ) :=
  ct_I hl (by decide +kernel) (Nat.le_of_ble_eq_true rfl) (fun z res e1 e2 e3 e4 e5 e6 X Rt h => by subst e1 e2 e3 e4 e5; exact w_X6_firstIn X ⟨e6.1, e6.2⟩ Rt N a1 σ h)
def f_X6_codeOf (N : Nat) (a1 : Int32) (σ : Sg) : Option (Int32 × Sg) := some (a1 - 60, σ)
set_option maxHeartbeats 4000000 in
set_option maxRecDepth 100000 in
theorem w_X6_codeOf {z : Cz} (X : Cx z cX6_codeOf 1 RX6) (hR : 0 ≤ (zR z).frames ∧ 0 ≤ (zR z).locals) {res : (Int32 × Sg)} (Rt : RtI z cX6_codeOf 1 .int res) (N : Nat) (a1 : Int32) (σ : Sg) (h : f_X6_codeOf N a1 σ = some res) : V z 0 1 0 [(0, .int a1)] [] σ := by
  rw [f_X6_codeOf] at h
  refine r_iload_n X dX6_codeOf_0 rfl 0 rfl ?_
  refine r_bipush X 60 dX6_codeOf_1 (by decide) ?_
  refine r_isub X dX6_codeOf_3 ?_
  exact r_iret Rt dX6_codeOf_4 h
theorem c_X6_codeOf (l : Launch) (hl : l.stackTraces = false) (N : Nat) (D : va_G) (cy : Nat → ClassId) (ad sa : Nat → Nat) (a1 : Int32) (σ : Sg) : CtI l yX6_codeOf cX6_codeOf 1 (some .int) 0 0 D cy ad sa [.int a1] σ (f_X6_codeOf N a1 σ) :=
  ct_I hl (by decide +kernel) (Nat.le_of_ble_eq_true rfl) (fun z res e1 e2 e3 e4 e5 e6 X Rt h => by subst e1 e2 e3 e4 e5; exact w_X6_codeOf X ⟨e6.1, e6.2⟩ Rt N a1 σ h)
def f_X6_addKid (N : Nat) (a1 : Int32) (a2 : Int32) (σ : Sg) : Option (Int32 × Sg) := wrA 260 σ 7 a2 a1 (fun σ1 => rdA 60 (σ1 6) a1 (fun v2 => if v2 = (-1) then (wrA 60 σ1 5 a1 a2 (fun σ6 => wrA 60 σ6 6 a1 a2 (fun σ7 => some (0, σ7)))) else (wrA 260 σ1 8 v2 a2 (fun σ4 => wrA 60 σ4 6 a1 a2 (fun σ5 => some (0, σ5))))))
set_option maxHeartbeats 4000000 in
set_option maxRecDepth 100000 in
theorem w_X6_addKid {z : Cz} (X : Cx z cX6_addKid 4 RX6) (hR : 0 ≤ (zR z).frames ∧ 0 ≤ (zR z).locals) {res : (Int32 × Sg)} (Rt : RtV z cX6_addKid 4 res) (N : Nat) (a1 : Int32) (a2 : Int32) (σ : Sg) (h : f_X6_addKid N a1 a2 σ = some res) : V z 0 4 0 [(0, .ref (zA z 3)), (1, .int a1), (2, .int a2)] [] σ := by
  rw [f_X6_addKid] at h
  refine r_aload_n X dX6_addKid_0 rfl 0 rfl ?_
  refine gf_X6_21 X dX6_addKid_1 ?_
  refine r_iload_n X dX6_addKid_4 rfl 2 rfl ?_
  refine r_iload_n X dX6_addKid_5 rfl 1 rfl ?_
  refine as_7 X dX6_addKid_6 h (fun σ1 h => ?_)
  refine r_aload_n X dX6_addKid_7 rfl 0 rfl ?_
  refine gf_X6_18 X dX6_addKid_8 ?_
  refine r_iload_n X dX6_addKid_11 rfl 1 rfl ?_
  refine al_6 X dX6_addKid_12 h (fun v2 h => ?_)
  refine r_istore_n X [(3, .int v2), (0, .ref (zA z 3)), (1, .int a1), (2, .int a2)] dX6_addKid_13 rfl (by decide) rfl ?_
  refine r_iload_n X dX6_addKid_14 rfl 0 rfl ?_
  refine r_iconst X (-1) dX6_addKid_15 (by decide) ?_
  refine r_icmp_ne X 29 dX6_addKid_16 (by decide) h (fun g3 h => ?_) (fun g3 h => ?_)
  · refine r_aload_n X dX6_addKid_19 rfl 1 rfl ?_
    refine gf_X6_15 X dX6_addKid_20 ?_
    refine r_iload_n X dX6_addKid_23 rfl 2 rfl ?_
    refine r_iload_n X dX6_addKid_24 rfl 3 rfl ?_
    refine as_5 X dX6_addKid_25 h (fun σ6 h => ?_)
    refine r_goto X 36 dX6_addKid_26 (by decide) ?_
    refine r_aload_n X dX6_addKid_36 rfl 1 rfl ?_
    refine gf_X6_18 X dX6_addKid_37 ?_
    refine r_iload_n X dX6_addKid_40 rfl 2 rfl ?_
    refine r_iload_n X dX6_addKid_41 rfl 3 rfl ?_
    refine as_6 X dX6_addKid_42 h (fun σ7 h => ?_)
    exact r_vret Rt dX6_addKid_43 h
  · refine r_aload_n X dX6_addKid_29 rfl 1 rfl ?_
    refine gf_X6_24 X dX6_addKid_30 ?_
    refine r_iload_n X dX6_addKid_33 rfl 0 rfl ?_
    refine r_iload_n X dX6_addKid_34 rfl 3 rfl ?_
    refine as_8 X dX6_addKid_35 h (fun σ4 h => ?_)
    refine r_aload_n X dX6_addKid_36 rfl 1 rfl ?_
    refine gf_X6_18 X dX6_addKid_37 ?_
    refine r_iload_n X dX6_addKid_40 rfl 2 rfl ?_
    refine r_iload_n X dX6_addKid_41 rfl 3 rfl ?_
    refine as_6 X dX6_addKid_42 h (fun σ5 h => ?_)
    exact r_vret Rt dX6_addKid_43 h
theorem c_X6_addKid (l : Launch) (hl : l.stackTraces = false) (N : Nat) (D : va_G) (cy : Nat → ClassId) (ad sa : Nat → Nat) (a1 : Int32) (a2 : Int32) (σ : Sg) : CtV l yX6_addKid cX6_addKid 4 0 0 D cy ad sa [.ref (ad 3), .int a1, .int a2] σ (f_X6_addKid N a1 a2 σ) :=
  ct_V hl (by decide +kernel) (Nat.le_of_ble_eq_true rfl) (fun z res e1 e2 e3 e4 e5 e6 X Rt h => by subst e1 e2 e3 e4 e5; exact w_X6_addKid X ⟨e6.1, e6.2⟩ Rt N a1 a2 σ h)
def f_X6_addElement (N : Nat) (a1 : Int32) (a2 : Int32) (σ : Sg) : Option (Int32 × Sg) := lt (σ 3 6) (fun v1 => if 60 ≤ v1 then (some (v1, σ)) else (wrA 60 σ 4 v1 a2 (fun σ3 => lt (σ3 3 6) (fun v4 => st (ss σ3 3 6 (v4 + 1)) (fun σ5 => cI (f_X6_addKid N a1 v1 σ5) (fun v6 σ7 => some (v1, σ7)))))))
set_option maxHeartbeats 4000000 in
set_option maxRecDepth 100000 in
theorem w_X6_addElement {z : Cz} (X : Cx z cX6_addElement 4 RX6) (hR : 1 ≤ (zR z).frames ∧ 23 ≤ (zR z).locals) {res : (Int32 × Sg)} (Rt : RtI z cX6_addElement 4 .int res) (N : Nat) (a1 : Int32) (a2 : Int32) (σ : Sg) (h : f_X6_addElement N a1 a2 σ = some res) : V z 0 4 0 [(0, .ref (zA z 3)), (1, .int a1), (2, .int a2)] [] σ := by
  rw [f_X6_addElement] at h
  refine r_aload_n X dX6_addElement_0 rfl 0 rfl ?_
  refine gf_X6_27 X dX6_addElement_1 h (fun v1 h => ?_)
  refine r_istore_n X [(3, .int v1), (0, .ref (zA z 3)), (1, .int a1), (2, .int a2)] dX6_addElement_4 rfl (by decide) rfl ?_
  refine r_iload_n X dX6_addElement_5 rfl 0 rfl ?_
  refine r_bipush X 60 dX6_addElement_6 (by decide) ?_
  refine r_icmp_ge X 34 dX6_addElement_8 (by decide) h (fun g2 h => ?_) (fun g2 h => ?_)
  · refine r_iload_n X dX6_addElement_34 rfl 0 rfl ?_
    exact r_iret Rt dX6_addElement_35 h
  · refine r_aload_n X dX6_addElement_11 rfl 1 rfl ?_
    refine gf_X6_9 X dX6_addElement_12 ?_
    refine r_iload_n X dX6_addElement_15 rfl 0 rfl ?_
    refine r_iload_n X dX6_addElement_16 rfl 3 rfl ?_
    refine as_4 X dX6_addElement_17 h (fun σ3 h => ?_)
    refine r_aload_n X dX6_addElement_18 rfl 1 rfl ?_
    refine r_dup X dX6_addElement_19 rfl ?_
    refine gf_X6_27 X dX6_addElement_20 h (fun v4 h => ?_)
    refine r_iconst X 1 dX6_addElement_23 (by decide) ?_
    refine r_iadd X dX6_addElement_24 ?_
    refine pf_X6_27 X dX6_addElement_25 h (fun σ5 h => ?_)
    refine r_aload_n X dX6_addElement_28 rfl 1 rfl ?_
    refine r_iload_n X dX6_addElement_29 rfl 2 rfl ?_
    refine r_iload_n X dX6_addElement_30 rfl 0 rfl ?_
    refine r_callVv X 3 6 (by decide) rfl rfl rfl lk_X6_44 (c_X6_addKid (zl z) X.2.2.2.2.2.2.2.1 N (zD z) (zy z) (zA z) (zS z) a1 v1 σ5) ⟨Nat.le_trans (by decide) hR.1, Nat.le_trans (by decide) hR.2⟩ rfl rfl (Nat.le_of_ble_eq_true rfl) dX6_addElement_31 h (fun v6 σ7 h => ?_)
    refine r_iload_n X dX6_addElement_34 rfl 0 rfl ?_
    exact r_iret Rt dX6_addElement_35 h
theorem c_X6_addElement (l : Launch) (hl : l.stackTraces = false) (N : Nat) (D : va_G) (cy : Nat → ClassId) (ad sa : Nat → Nat) (a1 : Int32) (a2 : Int32) (σ : Sg) : CtI l yX6_addElement cX6_addElement 4 (some .int) 1 23 D cy ad sa [.ref (ad 3), .int a1, .int a2] σ (f_X6_addElement N a1 a2 σ) :=
  ct_I hl (by decide +kernel) (Nat.le_of_ble_eq_true rfl) (fun z res e1 e2 e3 e4 e5 e6 X Rt h => by subst e1 e2 e3 e4 e5; exact w_X6_addElement X ⟨e6.1, e6.2⟩ Rt N a1 a2 σ h)
def f_X6_addPart (N : Nat) (a1 : Int32) (a2 : Int32) (σ : Sg) : Option (Int32 × Sg) := lt (σ 3 7) (fun v1 => st (ss σ 3 7 (v1 + 1)) (fun σ2 => cI (f_X6_addKid N a1 (60 + a2) σ2) (fun v3 σ4 => some (0, σ4))))
set_option maxHeartbeats 4000000 in
set_option maxRecDepth 100000 in
theorem w_X6_addPart {z : Cz} (X : Cx z cX6_addPart 3 RX6) (hR : 1 ≤ (zR z).frames ∧ 23 ≤ (zR z).locals) {res : (Int32 × Sg)} (Rt : RtV z cX6_addPart 3 res) (N : Nat) (a1 : Int32) (a2 : Int32) (σ : Sg) (h : f_X6_addPart N a1 a2 σ = some res) : V z 0 3 0 [(0, .ref (zA z 3)), (1, .int a1), (2, .int a2)] [] σ := by
  rw [f_X6_addPart] at h
  refine r_aload_n X dX6_addPart_0 rfl 0 rfl ?_
  refine r_dup X dX6_addPart_1 rfl ?_
  refine gf_X6_31 X dX6_addPart_2 h (fun v1 h => ?_)
  refine r_iconst X 1 dX6_addPart_5 (by decide) ?_
  refine r_iadd X dX6_addPart_6 ?_
  refine pf_X6_31 X dX6_addPart_7 h (fun σ2 h => ?_)
  refine r_aload_n X dX6_addPart_10 rfl 0 rfl ?_
  refine r_iload_n X dX6_addPart_11 rfl 1 rfl ?_
  refine r_bipush X 60 dX6_addPart_12 (by decide) ?_
  refine r_iload_n X dX6_addPart_14 rfl 2 rfl ?_
  refine r_iadd X dX6_addPart_15 ?_
  refine r_callVv X 3 6 (by decide) rfl rfl rfl lk_X6_44 (c_X6_addKid (zl z) X.2.2.2.2.2.2.2.1 N (zD z) (zy z) (zA z) (zS z) a1 (60 + a2) σ2) ⟨Nat.le_trans (by decide) hR.1, Nat.le_trans (by decide) hR.2⟩ rfl rfl (Nat.le_of_ble_eq_true rfl) dX6_addPart_16 h (fun v3 σ4 h => ?_)
  exact r_vret Rt dX6_addPart_19 h
theorem c_X6_addPart (l : Launch) (hl : l.stackTraces = false) (N : Nat) (D : va_G) (cy : Nat → ClassId) (ad sa : Nat → Nat) (a1 : Int32) (a2 : Int32) (σ : Sg) : CtV l yX6_addPart cX6_addPart 3 1 23 D cy ad sa [.ref (ad 3), .int a1, .int a2] σ (f_X6_addPart N a1 a2 σ) :=
  ct_V hl (by decide +kernel) (Nat.le_of_ble_eq_true rfl) (fun z res e1 e2 e3 e4 e5 e6 X Rt h => by subst e1 e2 e3 e4 e5; exact w_X6_addPart X ⟨e6.1, e6.2⟩ Rt N a1 a2 σ h)
def f_X6_parentOf (N : Nat) (a1 : Int32) (σ : Sg) : Option (Int32 × Sg) := rdA 260 (σ 7) a1 (fun v1 => some (v1, σ))
set_option maxHeartbeats 4000000 in
set_option maxRecDepth 100000 in
theorem w_X6_parentOf {z : Cz} (X : Cx z cX6_parentOf 2 RX6) (hR : 0 ≤ (zR z).frames ∧ 0 ≤ (zR z).locals) {res : (Int32 × Sg)} (Rt : RtI z cX6_parentOf 2 .int res) (N : Nat) (a1 : Int32) (σ : Sg) (h : f_X6_parentOf N a1 σ = some res) : V z 0 2 0 [(0, .ref (zA z 3)), (1, .int a1)] [] σ := by
  rw [f_X6_parentOf] at h
  refine r_aload_n X dX6_parentOf_0 rfl 0 rfl ?_
  refine gf_X6_21 X dX6_parentOf_1 ?_
  refine r_iload_n X dX6_parentOf_4 rfl 1 rfl ?_
  refine al_7 X dX6_parentOf_5 h (fun v1 h => ?_)
  exact r_iret Rt dX6_parentOf_6 h
theorem c_X6_parentOf (l : Launch) (hl : l.stackTraces = false) (N : Nat) (D : va_G) (cy : Nat → ClassId) (ad sa : Nat → Nat) (a1 : Int32) (σ : Sg) : CtI l yX6_parentOf cX6_parentOf 2 (some .int) 0 0 D cy ad sa [.ref (ad 3), .int a1] σ (f_X6_parentOf N a1 σ) :=
  ct_I hl (by decide +kernel) (Nat.le_of_ble_eq_true rfl) (fun z res e1 e2 e3 e4 e5 e6 X Rt h => by subst e1 e2 e3 e4 e5; exact w_X6_parentOf X ⟨e6.1, e6.2⟩ Rt N a1 σ h)
def f_X6_holderOf (N : Nat) (a1 : Int32) (σ : Sg) : Option (Int32 × Sg) := rdA 260 (σ 7) (60 + a1) (fun v1 => some (v1, σ))
set_option maxHeartbeats 4000000 in
set_option maxRecDepth 100000 in
theorem w_X6_holderOf {z : Cz} (X : Cx z cX6_holderOf 2 RX6) (hR : 0 ≤ (zR z).frames ∧ 0 ≤ (zR z).locals) {res : (Int32 × Sg)} (Rt : RtI z cX6_holderOf 2 .int res) (N : Nat) (a1 : Int32) (σ : Sg) (h : f_X6_holderOf N a1 σ = some res) : V z 0 2 0 [(0, .ref (zA z 3)), (1, .int a1)] [] σ := by
  rw [f_X6_holderOf] at h
  refine r_aload_n X dX6_holderOf_0 rfl 0 rfl ?_
  refine gf_X6_21 X dX6_holderOf_1 ?_
  refine r_bipush X 60 dX6_holderOf_4 (by decide) ?_
  refine r_iload_n X dX6_holderOf_6 rfl 1 rfl ?_
  refine r_iadd X dX6_holderOf_7 ?_
  refine al_7 X dX6_holderOf_8 h (fun v1 h => ?_)
  exact r_iret Rt dX6_holderOf_9 h
theorem c_X6_holderOf (l : Launch) (hl : l.stackTraces = false) (N : Nat) (D : va_G) (cy : Nat → ClassId) (ad sa : Nat → Nat) (a1 : Int32) (σ : Sg) : CtI l yX6_holderOf cX6_holderOf 2 (some .int) 0 0 D cy ad sa [.ref (ad 3), .int a1] σ (f_X6_holderOf N a1 σ) :=
  ct_I hl (by decide +kernel) (Nat.le_of_ble_eq_true rfl) (fun z res e1 e2 e3 e4 e5 e6 X Rt h => by subst e1 e2 e3 e4 e5; exact w_X6_holderOf X ⟨e6.1, e6.2⟩ Rt N a1 σ h)
def f_X5_passElement (N : Nat) (a1 : Int32) (σ : Sg) : Option (Int32 × Sg) := cI (f_X6_standardOf N a1 σ) (fun v1 σ2 => if v1 = 12 then (cI (f_X6_firstBehind N a1 σ2) (fun v14 σ15 => some (v14, σ15))) else (lt (σ2 9 3) (fun v4 => if 60 ≤ v4 then (cI (f_X6_firstIn N a1 σ2) (fun v6 σ7 => some (v6, σ7))) else (lt (σ2 9 3) (fun v8 => wrA 60 σ2 10 v8 a1 (fun σ9 => lt (σ9 9 3) (fun v10 => st (ss σ9 9 3 (v10 + 1)) (fun σ11 => cI (f_X6_firstIn N a1 σ11) (fun v12 σ13 => some (v12, σ13))))))))))
set_option maxHeartbeats 4000000 in
set_option maxRecDepth 100000 in
theorem w_X5_passElement {z : Cz} (X : Cx z cX5_passElement 2 RX5) (hR : 3 ≤ (zR z).frames ∧ 64 ≤ (zR z).locals) {res : (Int32 × Sg)} (Rt : RtI z cX5_passElement 2 .int res) (N : Nat) (a1 : Int32) (σ : Sg) (h : f_X5_passElement N a1 σ = some res) : V z 0 2 0 [(0, .ref (zA z 9)), (1, .int a1)] [] σ := by
  rw [f_X5_passElement] at h
  refine r_aload_n X dX5_passElement_0 rfl 0 rfl ?_
  refine gf_X5_25 X dX5_passElement_1 ?_
  refine r_iload_n X dX5_passElement_4 rfl 1 rfl ?_
  refine r_callV X 3 6 (by decide) rfl rfl rfl lk_X5_42 (c_X6_standardOf (zl z) X.2.2.2.2.2.2.2.1 N (zD z) (zy z) (zA z) (zS z) a1 σ) ⟨Nat.le_trans (by decide) hR.1, Nat.le_trans (by decide) hR.2⟩ rfl rfl (Nat.le_of_ble_eq_true rfl) dX5_passElement_5 h (fun v1 σ2 h => ?_)
  refine r_bipush X 12 dX5_passElement_8 (by decide) ?_
  refine r_icmp_ne X 22 dX5_passElement_10 (by decide) h (fun g3 h => ?_) (fun g3 h => ?_)
  · refine r_aload_n X dX5_passElement_13 rfl 0 rfl ?_
    refine gf_X5_25 X dX5_passElement_14 ?_
    refine r_iload_n X dX5_passElement_17 rfl 1 rfl ?_
    refine r_callV X 3 6 (by decide) rfl rfl rfl lk_X5_45 (c_X6_firstBehind (zl z) X.2.2.2.2.2.2.2.1 N (zD z) (zy z) (zA z) (zS z) a1 σ2) ⟨Nat.le_trans (by decide) hR.1, Nat.le_trans (by decide) hR.2⟩ rfl rfl (Nat.le_of_ble_eq_true rfl) dX5_passElement_18 h (fun v14 σ15 h => ?_)
    exact r_iret Rt dX5_passElement_21 h
  · refine r_aload_n X dX5_passElement_22 rfl 0 rfl ?_
    refine gf_X5_18 X dX5_passElement_23 h (fun v4 h => ?_)
    refine r_bipush X 60 dX5_passElement_26 (by decide) ?_
    refine r_icmp_ge X 51 dX5_passElement_28 (by decide) h (fun g5 h => ?_) (fun g5 h => ?_)
    · refine r_aload_n X dX5_passElement_51 rfl 0 rfl ?_
      refine gf_X5_25 X dX5_passElement_52 ?_
      refine r_iload_n X dX5_passElement_55 rfl 1 rfl ?_
      refine r_callV X 3 6 (by decide) rfl rfl rfl lk_X5_48 (c_X6_firstIn (zl z) X.2.2.2.2.2.2.2.1 N (zD z) (zy z) (zA z) (zS z) a1 σ2) ⟨Nat.le_trans (by decide) hR.1, Nat.le_trans (by decide) hR.2⟩ rfl rfl (Nat.le_of_ble_eq_true rfl) dX5_passElement_56 h (fun v6 σ7 h => ?_)
      exact r_iret Rt dX5_passElement_59 h
    · refine r_aload_n X dX5_passElement_31 rfl 0 rfl ?_
      refine gf_X5_9 X dX5_passElement_32 ?_
      refine r_aload_n X dX5_passElement_35 rfl 0 rfl ?_
      refine gf_X5_18 X dX5_passElement_36 h (fun v8 h => ?_)
      refine r_iload_n X dX5_passElement_39 rfl 1 rfl ?_
      refine as_10 X dX5_passElement_40 h (fun σ9 h => ?_)
      refine r_aload_n X dX5_passElement_41 rfl 0 rfl ?_
      refine r_dup X dX5_passElement_42 rfl ?_
      refine gf_X5_18 X dX5_passElement_43 h (fun v10 h => ?_)
      refine r_iconst X 1 dX5_passElement_46 (by decide) ?_
      refine r_iadd X dX5_passElement_47 ?_
      refine pf_X5_18 X dX5_passElement_48 h (fun σ11 h => ?_)
      refine r_aload_n X dX5_passElement_51 rfl 0 rfl ?_
      refine gf_X5_25 X dX5_passElement_52 ?_
      refine r_iload_n X dX5_passElement_55 rfl 1 rfl ?_
      refine r_callV X 3 6 (by decide) rfl rfl rfl lk_X5_48 (c_X6_firstIn (zl z) X.2.2.2.2.2.2.2.1 N (zD z) (zy z) (zA z) (zS z) a1 σ11) ⟨Nat.le_trans (by decide) hR.1, Nat.le_trans (by decide) hR.2⟩ rfl rfl (Nat.le_of_ble_eq_true rfl) dX5_passElement_56 h (fun v12 σ13 h => ?_)
      exact r_iret Rt dX5_passElement_59 h
theorem c_X5_passElement (l : Launch) (hl : l.stackTraces = false) (N : Nat) (D : va_G) (cy : Nat → ClassId) (ad sa : Nat → Nat) (a1 : Int32) (σ : Sg) : CtI l yX5_passElement cX5_passElement 2 (some .int) 3 64 D cy ad sa [.ref (ad 9), .int a1] σ (f_X5_passElement N a1 σ) :=
  ct_I hl (by decide +kernel) (Nat.le_of_ble_eq_true rfl) (fun z res e1 e2 e3 e4 e5 e6 X Rt h => by subst e1 e2 e3 e4 e5; exact w_X5_passElement X ⟨e6.1, e6.2⟩ Rt N a1 σ h)
def f_X5_passPart (N : Nat) (a1 : Int32) (σ : Sg) : Option (Int32 × Sg) := lt (σ 9 4) (fun v1 => if 100 ≤ v1 then (cI (f_X6_firstBehind N a1 σ) (fun v3 σ4 => some (v3, σ4))) else (lt (σ 9 4) (fun v5 => cI (f_X6_codeOf N a1 σ) (fun v6 σ7 => wrA 100 σ7 11 v5 v6 (fun σ8 => lt (σ8 9 4) (fun v9 => st (ss σ8 9 4 (v9 + 1)) (fun σ10 => cI (f_X6_firstBehind N a1 σ10) (fun v11 σ12 => some (v11, σ12)))))))))
set_option maxHeartbeats 4000000 in
set_option maxRecDepth 100000 in
theorem w_X5_passPart {z : Cz} (X : Cx z cX5_passPart 2 RX5) (hR : 1 ≤ (zR z).frames ∧ 23 ≤ (zR z).locals) {res : (Int32 × Sg)} (Rt : RtI z cX5_passPart 2 .int res) (N : Nat) (a1 : Int32) (σ : Sg) (h : f_X5_passPart N a1 σ = some res) : V z 0 2 0 [(0, .ref (zA z 9)), (1, .int a1)] [] σ := by
  rw [f_X5_passPart] at h
  refine r_aload_n X dX5_passPart_0 rfl 0 rfl ?_
  refine gf_X5_22 X dX5_passPart_1 h (fun v1 h => ?_)
  refine r_bipush X 100 dX5_passPart_4 (by decide) ?_
  refine r_icmp_ge X 32 dX5_passPart_6 (by decide) h (fun g2 h => ?_) (fun g2 h => ?_)
  · refine r_aload_n X dX5_passPart_32 rfl 0 rfl ?_
    refine gf_X5_25 X dX5_passPart_33 ?_
    refine r_iload_n X dX5_passPart_36 rfl 1 rfl ?_
    refine r_callV X 3 6 (by decide) rfl rfl rfl lk_X5_45 (c_X6_firstBehind (zl z) X.2.2.2.2.2.2.2.1 N (zD z) (zy z) (zA z) (zS z) a1 σ) ⟨Nat.le_trans (by decide) hR.1, Nat.le_trans (by decide) hR.2⟩ rfl rfl (Nat.le_of_ble_eq_true rfl) dX5_passPart_37 h (fun v3 σ4 h => ?_)
    exact r_iret Rt dX5_passPart_40 h
  · refine r_aload_n X dX5_passPart_9 rfl 0 rfl ?_
    refine gf_X5_15 X dX5_passPart_10 ?_
    refine r_aload_n X dX5_passPart_13 rfl 0 rfl ?_
    refine gf_X5_22 X dX5_passPart_14 h (fun v5 h => ?_)
    refine r_iload_n X dX5_passPart_17 rfl 1 rfl ?_
    refine r_callS X lk_X5_51 (c_X6_codeOf (zl z) X.2.2.2.2.2.2.2.1 N (zD z) (zy z) (zA z) (zS z) a1 σ) ⟨Nat.le_trans (by decide) hR.1, Nat.le_trans (by decide) hR.2⟩ rfl rfl (Nat.le_of_ble_eq_true rfl) dX5_passPart_18 h (fun v6 σ7 h => ?_)
    refine as_11 X dX5_passPart_21 h (fun σ8 h => ?_)
    refine r_aload_n X dX5_passPart_22 rfl 0 rfl ?_
    refine r_dup X dX5_passPart_23 rfl ?_
    refine gf_X5_22 X dX5_passPart_24 h (fun v9 h => ?_)
    refine r_iconst X 1 dX5_passPart_27 (by decide) ?_
    refine r_iadd X dX5_passPart_28 ?_
    refine pf_X5_22 X dX5_passPart_29 h (fun σ10 h => ?_)
    refine r_aload_n X dX5_passPart_32 rfl 0 rfl ?_
    refine gf_X5_25 X dX5_passPart_33 ?_
    refine r_iload_n X dX5_passPart_36 rfl 1 rfl ?_
    refine r_callV X 3 6 (by decide) rfl rfl rfl lk_X5_45 (c_X6_firstBehind (zl z) X.2.2.2.2.2.2.2.1 N (zD z) (zy z) (zA z) (zS z) a1 σ10) ⟨Nat.le_trans (by decide) hR.1, Nat.le_trans (by decide) hR.2⟩ rfl rfl (Nat.le_of_ble_eq_true rfl) dX5_passPart_37 h (fun v11 σ12 h => ?_)
    exact r_iret Rt dX5_passPart_40 h
theorem c_X5_passPart (l : Launch) (hl : l.stackTraces = false) (N : Nat) (D : va_G) (cy : Nat → ClassId) (ad sa : Nat → Nat) (a1 : Int32) (σ : Sg) : CtI l yX5_passPart cX5_passPart 2 (some .int) 1 23 D cy ad sa [.ref (ad 9), .int a1] σ (f_X5_passPart N a1 σ) :=
  ct_I hl (by decide +kernel) (Nat.le_of_ble_eq_true rfl) (fun z res e1 e2 e3 e4 e5 e6 X Rt h => by subst e1 e2 e3 e4 e5; exact w_X5_passPart X ⟨e6.1, e6.2⟩ Rt N a1 σ h)
def f_X5_follow_14 (N : Nat) (K : Sg → Option (Int32 × Sg)) : Nat → Int32 → Int32 → Sg → Option (Int32 × Sg)
  | 0, _, _, _ => none
  | n + 1, x1, x2, σ => if 160 ≤ x2 then (K σ) else (if x1 = (-1) then (K σ) else (cI (f_X6_isElement N x1 σ) (fun v5 σ6 => if v5 = 0 then (cI (f_X5_passPart N x1 σ6) (fun v8 σ9 => lt (x2 + 1) (fun v10 => f_X5_follow_14 N K n v8 v10 σ9))) else (cI (f_X5_passElement N x1 σ6) (fun v11 σ12 => lt (x2 + 1) (fun v13 => f_X5_follow_14 N K n v11 v13 σ12))))))
def f_X5_follow (N : Nat) (σ : Sg) : Option (Int32 × Sg) := st (ss σ 9 3 0) (fun σ1 => st (ss σ1 9 4 0) (fun σ2 => f_X5_follow_14 N (fun σ14 => some (0, σ14)) N 0 0 σ2))
set_option maxHeartbeats 4000000 in
set_option maxRecDepth 100000 in
theorem w_X5_follow_14 {z : Cz} (X : Cx z cX5_follow 3 RX5) (hR : 4 ≤ (zR z).frames ∧ 85 ≤ (zR z).locals) {res : (Int32 × Sg)} (N : Nat) (K : Sg → Option (Int32 × Sg)) (kx : ∀ (σ : Sg), K σ = some res → V z 0 3 53 [] [] σ) : ∀ (n : Nat) (x1 : Int32) (x2 : Int32) (σ : Sg), f_X5_follow_14 N K n x1 x2 σ = some res → V z 0 3 14 [(0, .ref (zA z 9)), (1, .int x1), (2, .int x2)] [] σ := by
  intro n
  induction n with
  | zero =>
    intro x1 x2 σ h
    rw [f_X5_follow_14] at h
    cases h
  | succ n ih =>
    intro x1 x2 σ h
    rw [f_X5_follow_14] at h
    refine r_iload_n X dX5_follow_14 rfl 2 rfl ?_
    refine r_sipush X 160 dX5_follow_15 (by decide) ?_
    refine r_icmp_ge X 53 dX5_follow_18 (by decide) h (fun g3 h => ?_) (fun g3 h => ?_)
    · refine r_sub [] rfl ?_
      exact kx  σ h
    · refine r_iload_n X dX5_follow_21 rfl 1 rfl ?_
      refine r_iconst X (-1) dX5_follow_22 (by decide) ?_
      refine r_icmp_eq X 53 dX5_follow_23 (by decide) h (fun g4 h => ?_) (fun g4 h => ?_)
      · refine r_sub [] rfl ?_
        exact kx  σ h
      · refine r_iload_n X dX5_follow_26 rfl 1 rfl ?_
        refine r_callS X lk_X5_29 (c_X6_isElement (zl z) X.2.2.2.2.2.2.2.1 N (zD z) (zy z) (zA z) (zS z) x1 σ) ⟨Nat.le_trans (by decide) hR.1, Nat.le_trans (by decide) hR.2⟩ rfl rfl (Nat.le_of_ble_eq_true rfl) dX5_follow_27 h (fun v5 σ6 h => ?_)
        refine r_if_eq X 41 dX5_follow_30 (by decide) h (fun g7 h => ?_) (fun g7 h => ?_)
        · refine r_aload_n X dX5_follow_41 rfl 0 rfl ?_
          refine r_iload_n X dX5_follow_42 rfl 1 rfl ?_
          refine r_callV X 9 5 (by decide) rfl rfl rfl lk_X5_39 (c_X5_passPart (zl z) X.2.2.2.2.2.2.2.1 N (zD z) (zy z) (zA z) (zS z) x1 σ6) ⟨Nat.le_trans (by decide) hR.1, Nat.le_trans (by decide) hR.2⟩ rfl rfl (Nat.le_of_ble_eq_true rfl) dX5_follow_43 h (fun v8 σ9 h => ?_)
          refine r_istore_n X [(1, .int v8), (0, .ref (zA z 9)), (2, .int x2)] dX5_follow_46 rfl (by decide) rfl ?_
          refine r_iinc X 1 (fun v10 => [(2, .int v10), (1, .int v8), (0, .ref (zA z 9))]) dX5_follow_47 2 rfl (by decide) (by decide) (fun _ => rfl) h (fun v10 h => ?_)
          refine r_goto X 14 dX5_follow_50 (by decide) ?_
          refine r_sub [2, 1, 0] rfl ?_
          exact ih v8 v10 σ9 h
        · refine r_aload_n X dX5_follow_33 rfl 0 rfl ?_
          refine r_iload_n X dX5_follow_34 rfl 1 rfl ?_
          refine r_callV X 9 5 (by decide) rfl rfl rfl lk_X5_35 (c_X5_passElement (zl z) X.2.2.2.2.2.2.2.1 N (zD z) (zy z) (zA z) (zS z) x1 σ6) ⟨Nat.le_trans (by decide) hR.1, Nat.le_trans (by decide) hR.2⟩ rfl rfl (Nat.le_of_ble_eq_true rfl) dX5_follow_35 h (fun v11 σ12 h => ?_)
          refine r_goto X 46 dX5_follow_38 (by decide) ?_
          refine r_istore_n X [(1, .int v11), (0, .ref (zA z 9)), (2, .int x2)] dX5_follow_46 rfl (by decide) rfl ?_
          refine r_iinc X 1 (fun v13 => [(2, .int v13), (1, .int v11), (0, .ref (zA z 9))]) dX5_follow_47 2 rfl (by decide) (by decide) (fun _ => rfl) h (fun v13 h => ?_)
          refine r_goto X 14 dX5_follow_50 (by decide) ?_
          refine r_sub [2, 1, 0] rfl ?_
          exact ih v11 v13 σ12 h
set_option maxHeartbeats 4000000 in
set_option maxRecDepth 100000 in
theorem w_X5_follow {z : Cz} (X : Cx z cX5_follow 3 RX5) (hR : 4 ≤ (zR z).frames ∧ 85 ≤ (zR z).locals) {res : (Int32 × Sg)} (Rt : RtV z cX5_follow 3 res) (N : Nat) (σ : Sg) (h : f_X5_follow N σ = some res) : V z 0 3 0 [(0, .ref (zA z 9))] [] σ := by
  rw [f_X5_follow] at h
  refine r_aload_n X dX5_follow_0 rfl 0 rfl ?_
  refine r_iconst X 0 dX5_follow_1 (by decide) ?_
  refine pf_X5_18 X dX5_follow_2 h (fun σ1 h => ?_)
  refine r_aload_n X dX5_follow_5 rfl 0 rfl ?_
  refine r_iconst X 0 dX5_follow_6 (by decide) ?_
  refine pf_X5_22 X dX5_follow_7 h (fun σ2 h => ?_)
  refine r_iconst X 0 dX5_follow_10 (by decide) ?_
  refine r_istore_n X [(1, .int 0), (0, .ref (zA z 9))] dX5_follow_11 rfl (by decide) rfl ?_
  refine r_iconst X 0 dX5_follow_12 (by decide) ?_
  refine r_istore_n X [(2, .int 0), (1, .int 0), (0, .ref (zA z 9))] dX5_follow_13 rfl (by decide) rfl ?_
  refine r_sub [2, 1, 0] rfl ?_
  refine w_X5_follow_14 X hR N _ (fun σ14 h => ?_) N 0 0 σ2 h
  exact r_vret Rt dX5_follow_53 h
theorem c_X5_follow (l : Launch) (hl : l.stackTraces = false) (N : Nat) (D : va_G) (cy : Nat → ClassId) (ad sa : Nat → Nat) (σ : Sg) : CtV l yX5_follow cX5_follow 3 4 85 D cy ad sa [.ref (ad 9)] σ (f_X5_follow N σ) :=
  ct_V hl (by decide +kernel) (Nat.le_of_ble_eq_true rfl) (fun z res e1 e2 e3 e4 e5 e6 X Rt h => by subst e1 e2 e3 e4 e5; exact w_X5_follow X ⟨e6.1, e6.2⟩ Rt N σ h)
