def f_X8_thrown (N : Nat) (σ : Sg) : Option (Int32 × Sg) := lt (σ 35 0) (fun v1 => some (v1, σ))
set_option maxHeartbeats 4000000 in
set_option maxRecDepth 100000 in
theorem w_X8_thrown {z : Cz} (X : Cx z cX8_thrown 1 RX8) (hR : 0 ≤ (zR z).frames ∧ 0 ≤ (zR z).locals) {res : (Int32 × Sg)} (Rt : RtI z cX8_thrown 1 .int res) (N : Nat) (σ : Sg) (h : f_X8_thrown N σ = some res) : V z 0 1 0 [(0, .ref (zA z 35))] [] σ := by
  rw [f_X8_thrown] at h
  refine r_aload_n X dX8_thrown_0 rfl 0 rfl ?_
  refine gf_X8_78 X dX8_thrown_1 h (fun v1 h => ?_)
  exact r_iret Rt dX8_thrown_4 h
theorem c_X8_thrown (l : Launch) (hl : l.stackTraces = false) (N : Nat) (D : va_G) (cy : Nat → ClassId) (ad sa : Nat → Nat) (σ : Sg) : CtI l yX8_thrown cX8_thrown 1 (some .int) 0 0 D cy ad sa [.ref (ad 35)] σ (f_X8_thrown N σ) :=
  ct_I hl (by decide +kernel) (Nat.le_of_ble_eq_true rfl) (fun z res e1 e2 e3 e4 e5 e6 X Rt h => by subst e1 e2 e3 e4 e5; exact w_X8_thrown X ⟨e6.1, e6.2⟩ Rt N σ h)
def f_X8_in (N : Nat) (a1 : Int32) (a2 : Int32) (a3 : Int32) (σ : Sg) : Option (Int32 × Sg) := if a1 < a2 then (some (0, σ)) else (if a3 < a1 then (some (0, σ)) else (some (1, σ)))
set_option maxHeartbeats 4000000 in
set_option maxRecDepth 100000 in
theorem w_X8_in {z : Cz} (X : Cx z cX8_in 3 RX8) (hR : 0 ≤ (zR z).frames ∧ 0 ≤ (zR z).locals) {res : (Int32 × Sg)} (Rt : RtI z cX8_in 3 .boolean res) (N : Nat) (a1 : Int32) (a2 : Int32) (a3 : Int32) (σ : Sg) (h : f_X8_in N a1 a2 a3 σ = some res) : V z 0 3 0 [(0, .int a1), (1, .int a2), (2, .int a3)] [] σ := by
  rw [f_X8_in] at h
  refine r_iload_n X dX8_in_0 rfl 0 rfl ?_
  refine r_iload_n X dX8_in_1 rfl 1 rfl ?_
  refine r_icmp_lt X 14 dX8_in_2 (by decide) h (fun g1 h => ?_) (fun g1 h => ?_)
  · refine r_iconst X 0 dX8_in_14 (by decide) ?_
    exact r_zretC Rt dX8_in_15 (by decide) h
  · refine r_iload_n X dX8_in_5 rfl 0 rfl ?_
    refine r_iload_n X dX8_in_6 rfl 2 rfl ?_
    refine r_icmp_gt X 14 dX8_in_7 (by decide) h (fun g2 h => ?_) (fun g2 h => ?_)
    · refine r_iconst X 0 dX8_in_14 (by decide) ?_
      exact r_zretC Rt dX8_in_15 (by decide) h
    · refine r_iconst X 1 dX8_in_10 (by decide) ?_
      refine r_goto X 15 dX8_in_11 (by decide) ?_
      exact r_zretC Rt dX8_in_15 (by decide) h
theorem c_X8_in (l : Launch) (hl : l.stackTraces = false) (N : Nat) (D : va_G) (cy : Nat → ClassId) (ad sa : Nat → Nat) (a1 : Int32) (a2 : Int32) (a3 : Int32) (σ : Sg) : CtI l yX8_in cX8_in 3 (some .boolean) 0 0 D cy ad sa [.int a1, .int a2, .int a3] σ (f_X8_in N a1 a2 a3 σ) :=
  ct_I hl (by decide +kernel) (Nat.le_of_ble_eq_true rfl) (fun z res e1 e2 e3 e4 e5 e6 X Rt h => by subst e1 e2 e3 e4 e5; exact w_X8_in X ⟨e6.1, e6.2⟩ Rt N a1 a2 a3 σ h)
def f_X8_isElement (N : Nat) (a1 : Int32) (σ : Sg) : Option (Int32 × Sg) := if a1 < 0 then (some (0, σ)) else (lt (σ 35 1) (fun v2 => if v2 ≤ a1 then (some (0, σ)) else (some (1, σ))))
set_option maxHeartbeats 4000000 in
set_option maxRecDepth 100000 in
theorem w_X8_isElement {z : Cz} (X : Cx z cX8_isElement 2 RX8) (hR : 0 ≤ (zR z).frames ∧ 0 ≤ (zR z).locals) {res : (Int32 × Sg)} (Rt : RtI z cX8_isElement 2 .boolean res) (N : Nat) (a1 : Int32) (σ : Sg) (h : f_X8_isElement N a1 σ = some res) : V z 0 2 0 [(0, .ref (zA z 35)), (1, .int a1)] [] σ := by
  rw [f_X8_isElement] at h
  refine r_iload_n X dX8_isElement_0 rfl 1 rfl ?_
  refine r_if_lt X 16 dX8_isElement_1 (by decide) h (fun g1 h => ?_) (fun g1 h => ?_)
  · refine r_iconst X 0 dX8_isElement_16 (by decide) ?_
    exact r_zretC Rt dX8_isElement_17 (by decide) h
  · refine r_iload_n X dX8_isElement_4 rfl 1 rfl ?_
    refine r_aload_n X dX8_isElement_5 rfl 0 rfl ?_
    refine gf_X8_7 X dX8_isElement_6 h (fun v2 h => ?_)
    refine r_icmp_ge X 16 dX8_isElement_9 (by decide) h (fun g3 h => ?_) (fun g3 h => ?_)
    · refine r_iconst X 0 dX8_isElement_16 (by decide) ?_
      exact r_zretC Rt dX8_isElement_17 (by decide) h
    · refine r_iconst X 1 dX8_isElement_12 (by decide) ?_
      refine r_goto X 17 dX8_isElement_13 (by decide) ?_
      exact r_zretC Rt dX8_isElement_17 (by decide) h
theorem c_X8_isElement (l : Launch) (hl : l.stackTraces = false) (N : Nat) (D : va_G) (cy : Nat → ClassId) (ad sa : Nat → Nat) (a1 : Int32) (σ : Sg) : CtI l yX8_isElement cX8_isElement 2 (some .boolean) 0 0 D cy ad sa [.ref (ad 35), .int a1] σ (f_X8_isElement N a1 σ) :=
  ct_I hl (by decide +kernel) (Nat.le_of_ble_eq_true rfl) (fun z res e1 e2 e3 e4 e5 e6 X Rt h => by subst e1 e2 e3 e4 e5; exact w_X8_isElement X ⟨e6.1, e6.2⟩ Rt N a1 σ h)
def f_X8_element (N : Nat) (a1 : Int32) (a2 : Int32) (σ : Sg) : Option (Int32 × Sg) := cI (f_X8_isElement N a1 σ) (fun v1 σ2 => if v1 = 0 then (st (ss σ2 35 0 1) (fun σ89 => lt (σ89 35 0) (fun v90 => if v90 ≤ 0 then (lt (σ89 35 1) (fun v92 => wrA 60 σ89 36 v92 a2 (fun σ93 => lt (σ93 35 8) (fun v94 => wrA 160 σ93 42 v94 a1 (fun σ95 => lt (σ95 35 8) (fun v96 => lt (σ95 35 1) (fun v97 => wrA 160 σ95 43 v96 v97 (fun σ98 => lt (σ98 35 8) (fun v99 => st (ss σ98 35 8 (v99 + 1)) (fun σ100 => lt (σ100 35 1) (fun v101 => st (ss σ100 35 1 (v101 + 1)) (fun σ102 => lt (σ102 35 1) (fun v103 => some (v103 - 1, σ102)))))))))))))) else (some (0, σ89))))) else (cI (f_X8_in N a2 1 12 σ2) (fun v4 σ5 => if v4 = 0 then (cI (f_X8_in N a2 100 119 σ5) (fun v39 σ40 => if v39 = 0 then (st (ss σ40 35 0 2) (fun σ74 => lt (σ74 35 0) (fun v75 => if v75 ≤ 0 then (lt (σ74 35 1) (fun v77 => wrA 60 σ74 36 v77 a2 (fun σ78 => lt (σ78 35 8) (fun v79 => wrA 160 σ78 42 v79 a1 (fun σ80 => lt (σ80 35 8) (fun v81 => lt (σ80 35 1) (fun v82 => wrA 160 σ80 43 v81 v82 (fun σ83 => lt (σ83 35 8) (fun v84 => st (ss σ83 35 8 (v84 + 1)) (fun σ85 => lt (σ85 35 1) (fun v86 => st (ss σ85 35 1 (v86 + 1)) (fun σ87 => lt (σ87 35 1) (fun v88 => some (v88 - 1, σ87)))))))))))))) else (some (0, σ74))))) else (lt (σ40 35 1) (fun v42 => if v42 = 60 then (st (ss σ40 35 0 3) (fun σ59 => lt (σ59 35 0) (fun v60 => if v60 ≤ 0 then (lt (σ59 35 1) (fun v62 => wrA 60 σ59 36 v62 a2 (fun σ63 => lt (σ63 35 8) (fun v64 => wrA 160 σ63 42 v64 a1 (fun σ65 => lt (σ65 35 8) (fun v66 => lt (σ65 35 1) (fun v67 => wrA 160 σ65 43 v66 v67 (fun σ68 => lt (σ68 35 8) (fun v69 => st (ss σ68 35 8 (v69 + 1)) (fun σ70 => lt (σ70 35 1) (fun v71 => st (ss σ70 35 1 (v71 + 1)) (fun σ72 => lt (σ72 35 1) (fun v73 => some (v73 - 1, σ72)))))))))))))) else (some (0, σ59))))) else (st (ss σ40 35 0 0) (fun σ44 => lt (σ44 35 0) (fun v45 => if v45 ≤ 0 then (lt (σ44 35 1) (fun v47 => wrA 60 σ44 36 v47 a2 (fun σ48 => lt (σ48 35 8) (fun v49 => wrA 160 σ48 42 v49 a1 (fun σ50 => lt (σ50 35 8) (fun v51 => lt (σ50 35 1) (fun v52 => wrA 160 σ50 43 v51 v52 (fun σ53 => lt (σ53 35 8) (fun v54 => st (ss σ53 35 8 (v54 + 1)) (fun σ55 => lt (σ55 35 1) (fun v56 => st (ss σ55 35 1 (v56 + 1)) (fun σ57 => lt (σ57 35 1) (fun v58 => some (v58 - 1, σ57)))))))))))))) else (some (0, σ44))))))))) else (lt (σ5 35 1) (fun v7 => if v7 = 60 then (st (ss σ5 35 0 3) (fun σ24 => lt (σ24 35 0) (fun v25 => if v25 ≤ 0 then (lt (σ24 35 1) (fun v27 => wrA 60 σ24 36 v27 a2 (fun σ28 => lt (σ28 35 8) (fun v29 => wrA 160 σ28 42 v29 a1 (fun σ30 => lt (σ30 35 8) (fun v31 => lt (σ30 35 1) (fun v32 => wrA 160 σ30 43 v31 v32 (fun σ33 => lt (σ33 35 8) (fun v34 => st (ss σ33 35 8 (v34 + 1)) (fun σ35 => lt (σ35 35 1) (fun v36 => st (ss σ35 35 1 (v36 + 1)) (fun σ37 => lt (σ37 35 1) (fun v38 => some (v38 - 1, σ37)))))))))))))) else (some (0, σ24))))) else (st (ss σ5 35 0 0) (fun σ9 => lt (σ9 35 0) (fun v10 => if v10 ≤ 0 then (lt (σ9 35 1) (fun v12 => wrA 60 σ9 36 v12 a2 (fun σ13 => lt (σ13 35 8) (fun v14 => wrA 160 σ13 42 v14 a1 (fun σ15 => lt (σ15 35 8) (fun v16 => lt (σ15 35 1) (fun v17 => wrA 160 σ15 43 v16 v17 (fun σ18 => lt (σ18 35 8) (fun v19 => st (ss σ18 35 8 (v19 + 1)) (fun σ20 => lt (σ20 35 1) (fun v21 => st (ss σ20 35 1 (v21 + 1)) (fun σ22 => lt (σ22 35 1) (fun v23 => some (v23 - 1, σ22)))))))))))))) else (some (0, σ9))))))))))
set_option maxHeartbeats 4000000 in
set_option maxRecDepth 100000 in
theorem w_X8_element {z : Cz} (X : Cx z cX8_element 3 RX8) (hR : 1 ≤ (zR z).frames ∧ 22 ≤ (zR z).locals) {res : (Int32 × Sg)} (Rt : RtI z cX8_element 3 .int res) (N : Nat) (a1 : Int32) (a2 : Int32) (σ : Sg) (h : f_X8_element N a1 a2 σ = some res) : V z 0 3 0 [(0, .ref (zA z 35)), (1, .int a1), (2, .int a2)] [] σ := by
  rw [f_X8_element] at h
  refine r_aload_n X dX8_element_0 rfl 0 rfl ?_
  refine r_aload_n X dX8_element_1 rfl 0 rfl ?_
  refine r_iload_n X dX8_element_2 rfl 1 rfl ?_
  refine r_callV X 35 8 (by decide) rfl rfl rfl lk_X8_81 (c_X8_isElement (zl z) X.2.2.2.2.2.2.2.1 N (zD z) (zy z) (zA z) (zS z) a1 σ) ⟨Nat.le_trans (by decide) hR.1, Nat.le_trans (by decide) hR.2⟩ rfl rfl (Nat.le_of_ble_eq_true rfl) dX8_element_3 h (fun v1 σ2 h => ?_)
  refine r_if_ne X 13 dX8_element_6 (by decide) h (fun g3 h => ?_) (fun g3 h => ?_)
  · refine r_iconst X 1 dX8_element_9 (by decide) ?_
    refine r_goto X 52 dX8_element_10 (by decide) ?_
    refine pf_X8_78 X dX8_element_52 h (fun σ89 h => ?_)
    refine r_aload_n X dX8_element_55 rfl 0 rfl ?_
    refine gf_X8_78 X dX8_element_56 h (fun v90 h => ?_)
    refine r_if_le X 64 dX8_element_59 (by decide) h (fun g91 h => ?_) (fun g91 h => ?_)
    · refine r_aload_n X dX8_element_64 rfl 0 rfl ?_
      refine gf_X8_13 X dX8_element_65 ?_
      refine r_aload_n X dX8_element_68 rfl 0 rfl ?_
      refine gf_X8_7 X dX8_element_69 h (fun v92 h => ?_)
      refine r_iload_n X dX8_element_72 rfl 2 rfl ?_
      refine as_36 X dX8_element_73 h (fun σ93 h => ?_)
      refine r_aload_n X dX8_element_74 rfl 0 rfl ?_
      refine gf_X8_33 X dX8_element_75 ?_
      refine r_aload_n X dX8_element_78 rfl 0 rfl ?_
      refine gf_X8_89 X dX8_element_79 h (fun v94 h => ?_)
      refine r_iload_n X dX8_element_82 rfl 1 rfl ?_
      refine as_42 X dX8_element_83 h (fun σ95 h => ?_)
      refine r_aload_n X dX8_element_84 rfl 0 rfl ?_
      refine gf_X8_36 X dX8_element_85 ?_
      refine r_aload_n X dX8_element_88 rfl 0 rfl ?_
      refine gf_X8_89 X dX8_element_89 h (fun v96 h => ?_)
      refine r_aload_n X dX8_element_92 rfl 0 rfl ?_
      refine gf_X8_7 X dX8_element_93 h (fun v97 h => ?_)
      refine as_43 X dX8_element_96 h (fun σ98 h => ?_)
      refine r_aload_n X dX8_element_97 rfl 0 rfl ?_
      refine r_dup X dX8_element_98 rfl ?_
      refine gf_X8_89 X dX8_element_99 h (fun v99 h => ?_)
      refine r_iconst X 1 dX8_element_102 (by decide) ?_
      refine r_iadd X dX8_element_103 ?_
      refine pf_X8_89 X dX8_element_104 h (fun σ100 h => ?_)
      refine r_aload_n X dX8_element_107 rfl 0 rfl ?_
      refine r_dup X dX8_element_108 rfl ?_
      refine gf_X8_7 X dX8_element_109 h (fun v101 h => ?_)
      refine r_iconst X 1 dX8_element_112 (by decide) ?_
      refine r_iadd X dX8_element_113 ?_
      refine pf_X8_7 X dX8_element_114 h (fun σ102 h => ?_)
      refine r_aload_n X dX8_element_117 rfl 0 rfl ?_
      refine gf_X8_7 X dX8_element_118 h (fun v103 h => ?_)
      refine r_iconst X 1 dX8_element_121 (by decide) ?_
      refine r_isub X dX8_element_122 ?_
      exact r_iret Rt dX8_element_123 h
    · refine r_iconst X 0 dX8_element_62 (by decide) ?_
      exact r_iret Rt dX8_element_63 h
  · refine r_iload_n X dX8_element_13 rfl 2 rfl ?_
    refine r_iconst X 1 dX8_element_14 (by decide) ?_
    refine r_bipush X 12 dX8_element_15 (by decide) ?_
    refine r_callS X lk_X8_85 (c_X8_in (zl z) X.2.2.2.2.2.2.2.1 N (zD z) (zy z) (zA z) (zS z) a2 1 12 σ2) ⟨Nat.le_trans (by decide) hR.1, Nat.le_trans (by decide) hR.2⟩ rfl rfl (Nat.le_of_ble_eq_true rfl) dX8_element_17 h (fun v4 σ5 h => ?_)
    refine r_if_ne X 38 dX8_element_20 (by decide) h (fun g6 h => ?_) (fun g6 h => ?_)
    · refine r_iload_n X dX8_element_23 rfl 2 rfl ?_
      refine r_bipush X 100 dX8_element_24 (by decide) ?_
      refine r_bipush X 119 dX8_element_26 (by decide) ?_
      refine r_callS X lk_X8_85 (c_X8_in (zl z) X.2.2.2.2.2.2.2.1 N (zD z) (zy z) (zA z) (zS z) a2 100 119 σ5) ⟨Nat.le_trans (by decide) hR.1, Nat.le_trans (by decide) hR.2⟩ rfl rfl (Nat.le_of_ble_eq_true rfl) dX8_element_28 h (fun v39 σ40 h => ?_)
      refine r_if_ne X 38 dX8_element_31 (by decide) h (fun g41 h => ?_) (fun g41 h => ?_)
      · refine r_iconst X 2 dX8_element_34 (by decide) ?_
        refine r_goto X 52 dX8_element_35 (by decide) ?_
        refine pf_X8_78 X dX8_element_52 h (fun σ74 h => ?_)
        refine r_aload_n X dX8_element_55 rfl 0 rfl ?_
        refine gf_X8_78 X dX8_element_56 h (fun v75 h => ?_)
        refine r_if_le X 64 dX8_element_59 (by decide) h (fun g76 h => ?_) (fun g76 h => ?_)
        · refine r_aload_n X dX8_element_64 rfl 0 rfl ?_
          refine gf_X8_13 X dX8_element_65 ?_
          refine r_aload_n X dX8_element_68 rfl 0 rfl ?_
          refine gf_X8_7 X dX8_element_69 h (fun v77 h => ?_)
          refine r_iload_n X dX8_element_72 rfl 2 rfl ?_
          refine as_36 X dX8_element_73 h (fun σ78 h => ?_)
          refine r_aload_n X dX8_element_74 rfl 0 rfl ?_
          refine gf_X8_33 X dX8_element_75 ?_
          refine r_aload_n X dX8_element_78 rfl 0 rfl ?_
          refine gf_X8_89 X dX8_element_79 h (fun v79 h => ?_)
          refine r_iload_n X dX8_element_82 rfl 1 rfl ?_
          refine as_42 X dX8_element_83 h (fun σ80 h => ?_)
          refine r_aload_n X dX8_element_84 rfl 0 rfl ?_
          refine gf_X8_36 X dX8_element_85 ?_
          refine r_aload_n X dX8_element_88 rfl 0 rfl ?_
          refine gf_X8_89 X dX8_element_89 h (fun v81 h => ?_)
          refine r_aload_n X dX8_element_92 rfl 0 rfl ?_
          refine gf_X8_7 X dX8_element_93 h (fun v82 h => ?_)
          refine as_43 X dX8_element_96 h (fun σ83 h => ?_)
          refine r_aload_n X dX8_element_97 rfl 0 rfl ?_
          refine r_dup X dX8_element_98 rfl ?_
          refine gf_X8_89 X dX8_element_99 h (fun v84 h => ?_)
          refine r_iconst X 1 dX8_element_102 (by decide) ?_
          refine r_iadd X dX8_element_103 ?_
          refine pf_X8_89 X dX8_element_104 h (fun σ85 h => ?_)
          refine r_aload_n X dX8_element_107 rfl 0 rfl ?_
          refine r_dup X dX8_element_108 rfl ?_
          refine gf_X8_7 X dX8_element_109 h (fun v86 h => ?_)
          refine r_iconst X 1 dX8_element_112 (by decide) ?_
          refine r_iadd X dX8_element_113 ?_
          refine pf_X8_7 X dX8_element_114 h (fun σ87 h => ?_)
          refine r_aload_n X dX8_element_117 rfl 0 rfl ?_
          refine gf_X8_7 X dX8_element_118 h (fun v88 h => ?_)
          refine r_iconst X 1 dX8_element_121 (by decide) ?_
          refine r_isub X dX8_element_122 ?_
          exact r_iret Rt dX8_element_123 h
        · refine r_iconst X 0 dX8_element_62 (by decide) ?_
          exact r_iret Rt dX8_element_63 h
      · refine r_aload_n X dX8_element_38 rfl 0 rfl ?_
        refine gf_X8_7 X dX8_element_39 h (fun v42 h => ?_)
        refine r_bipush X 60 dX8_element_42 (by decide) ?_
        refine r_icmp_ne X 51 dX8_element_44 (by decide) h (fun g43 h => ?_) (fun g43 h => ?_)
        · refine r_iconst X 3 dX8_element_47 (by decide) ?_
          refine r_goto X 52 dX8_element_48 (by decide) ?_
          refine pf_X8_78 X dX8_element_52 h (fun σ59 h => ?_)
          refine r_aload_n X dX8_element_55 rfl 0 rfl ?_
          refine gf_X8_78 X dX8_element_56 h (fun v60 h => ?_)
          refine r_if_le X 64 dX8_element_59 (by decide) h (fun g61 h => ?_) (fun g61 h => ?_)
          · refine r_aload_n X dX8_element_64 rfl 0 rfl ?_
            refine gf_X8_13 X dX8_element_65 ?_
            refine r_aload_n X dX8_element_68 rfl 0 rfl ?_
            refine gf_X8_7 X dX8_element_69 h (fun v62 h => ?_)
            refine r_iload_n X dX8_element_72 rfl 2 rfl ?_
            refine as_36 X dX8_element_73 h (fun σ63 h => ?_)
            refine r_aload_n X dX8_element_74 rfl 0 rfl ?_
            refine gf_X8_33 X dX8_element_75 ?_
            refine r_aload_n X dX8_element_78 rfl 0 rfl ?_
            refine gf_X8_89 X dX8_element_79 h (fun v64 h => ?_)
            refine r_iload_n X dX8_element_82 rfl 1 rfl ?_
            refine as_42 X dX8_element_83 h (fun σ65 h => ?_)
            refine r_aload_n X dX8_element_84 rfl 0 rfl ?_
            refine gf_X8_36 X dX8_element_85 ?_
            refine r_aload_n X dX8_element_88 rfl 0 rfl ?_
            refine gf_X8_89 X dX8_element_89 h (fun v66 h => ?_)
            refine r_aload_n X dX8_element_92 rfl 0 rfl ?_
            refine gf_X8_7 X dX8_element_93 h (fun v67 h => ?_)
            refine as_43 X dX8_element_96 h (fun σ68 h => ?_)
            refine r_aload_n X dX8_element_97 rfl 0 rfl ?_
            refine r_dup X dX8_element_98 rfl ?_
            refine gf_X8_89 X dX8_element_99 h (fun v69 h => ?_)
            refine r_iconst X 1 dX8_element_102 (by decide) ?_
            refine r_iadd X dX8_element_103 ?_
            refine pf_X8_89 X dX8_element_104 h (fun σ70 h => ?_)
            refine r_aload_n X dX8_element_107 rfl 0 rfl ?_
            refine r_dup X dX8_element_108 rfl ?_
            refine gf_X8_7 X dX8_element_109 h (fun v71 h => ?_)
            refine r_iconst X 1 dX8_element_112 (by decide) ?_
            refine r_iadd X dX8_element_113 ?_
            refine pf_X8_7 X dX8_element_114 h (fun σ72 h => ?_)
            refine r_aload_n X dX8_element_117 rfl 0 rfl ?_
            refine gf_X8_7 X dX8_element_118 h (fun v73 h => ?_)
            refine r_iconst X 1 dX8_element_121 (by decide) ?_
            refine r_isub X dX8_element_122 ?_
            exact r_iret Rt dX8_element_123 h
          · refine r_iconst X 0 dX8_element_62 (by decide) ?_
            exact r_iret Rt dX8_element_63 h
        · refine r_iconst X 0 dX8_element_51 (by decide) ?_
          refine pf_X8_78 X dX8_element_52 h (fun σ44 h => ?_)
          refine r_aload_n X dX8_element_55 rfl 0 rfl ?_
          refine gf_X8_78 X dX8_element_56 h (fun v45 h => ?_)
          refine r_if_le X 64 dX8_element_59 (by decide) h (fun g46 h => ?_) (fun g46 h => ?_)
          · refine r_aload_n X dX8_element_64 rfl 0 rfl ?_
            refine gf_X8_13 X dX8_element_65 ?_
            refine r_aload_n X dX8_element_68 rfl 0 rfl ?_
            refine gf_X8_7 X dX8_element_69 h (fun v47 h => ?_)
            refine r_iload_n X dX8_element_72 rfl 2 rfl ?_
            refine as_36 X dX8_element_73 h (fun σ48 h => ?_)
            refine r_aload_n X dX8_element_74 rfl 0 rfl ?_
            refine gf_X8_33 X dX8_element_75 ?_
            refine r_aload_n X dX8_element_78 rfl 0 rfl ?_
            refine gf_X8_89 X dX8_element_79 h (fun v49 h => ?_)
            refine r_iload_n X dX8_element_82 rfl 1 rfl ?_
            refine as_42 X dX8_element_83 h (fun σ50 h => ?_)
            refine r_aload_n X dX8_element_84 rfl 0 rfl ?_
            refine gf_X8_36 X dX8_element_85 ?_
            refine r_aload_n X dX8_element_88 rfl 0 rfl ?_
            refine gf_X8_89 X dX8_element_89 h (fun v51 h => ?_)
            refine r_aload_n X dX8_element_92 rfl 0 rfl ?_
            refine gf_X8_7 X dX8_element_93 h (fun v52 h => ?_)
            refine as_43 X dX8_element_96 h (fun σ53 h => ?_)
            refine r_aload_n X dX8_element_97 rfl 0 rfl ?_
            refine r_dup X dX8_element_98 rfl ?_
            refine gf_X8_89 X dX8_element_99 h (fun v54 h => ?_)
            refine r_iconst X 1 dX8_element_102 (by decide) ?_
            refine r_iadd X dX8_element_103 ?_
            refine pf_X8_89 X dX8_element_104 h (fun σ55 h => ?_)
            refine r_aload_n X dX8_element_107 rfl 0 rfl ?_
            refine r_dup X dX8_element_108 rfl ?_
            refine gf_X8_7 X dX8_element_109 h (fun v56 h => ?_)
            refine r_iconst X 1 dX8_element_112 (by decide) ?_
            refine r_iadd X dX8_element_113 ?_
            refine pf_X8_7 X dX8_element_114 h (fun σ57 h => ?_)
            refine r_aload_n X dX8_element_117 rfl 0 rfl ?_
            refine gf_X8_7 X dX8_element_118 h (fun v58 h => ?_)
            refine r_iconst X 1 dX8_element_121 (by decide) ?_
            refine r_isub X dX8_element_122 ?_
            exact r_iret Rt dX8_element_123 h
          · refine r_iconst X 0 dX8_element_62 (by decide) ?_
            exact r_iret Rt dX8_element_63 h
    · refine r_aload_n X dX8_element_38 rfl 0 rfl ?_
      refine gf_X8_7 X dX8_element_39 h (fun v7 h => ?_)
      refine r_bipush X 60 dX8_element_42 (by decide) ?_
      refine r_icmp_ne X 51 dX8_element_44 (by decide) h (fun g8 h => ?_) (fun g8 h => ?_)
      · refine r_iconst X 3 dX8_element_47 (by decide) ?_
        refine r_goto X 52 dX8_element_48 (by decide) ?_
        refine pf_X8_78 X dX8_element_52 h (fun σ24 h => ?_)
        refine r_aload_n X dX8_element_55 rfl 0 rfl ?_
        refine gf_X8_78 X dX8_element_56 h (fun v25 h => ?_)
        refine r_if_le X 64 dX8_element_59 (by decide) h (fun g26 h => ?_) (fun g26 h => ?_)
        · refine r_aload_n X dX8_element_64 rfl 0 rfl ?_
          refine gf_X8_13 X dX8_element_65 ?_
          refine r_aload_n X dX8_element_68 rfl 0 rfl ?_
          refine gf_X8_7 X dX8_element_69 h (fun v27 h => ?_)
          refine r_iload_n X dX8_element_72 rfl 2 rfl ?_
          refine as_36 X dX8_element_73 h (fun σ28 h => ?_)
          refine r_aload_n X dX8_element_74 rfl 0 rfl ?_
          refine gf_X8_33 X dX8_element_75 ?_
          refine r_aload_n X dX8_element_78 rfl 0 rfl ?_
          refine gf_X8_89 X dX8_element_79 h (fun v29 h => ?_)
          refine r_iload_n X dX8_element_82 rfl 1 rfl ?_
          refine as_42 X dX8_element_83 h (fun σ30 h => ?_)
          refine r_aload_n X dX8_element_84 rfl 0 rfl ?_
          refine gf_X8_36 X dX8_element_85 ?_
          refine r_aload_n X dX8_element_88 rfl 0 rfl ?_
          refine gf_X8_89 X dX8_element_89 h (fun v31 h => ?_)
          refine r_aload_n X dX8_element_92 rfl 0 rfl ?_
          refine gf_X8_7 X dX8_element_93 h (fun v32 h => ?_)
          refine as_43 X dX8_element_96 h (fun σ33 h => ?_)
          refine r_aload_n X dX8_element_97 rfl 0 rfl ?_
          refine r_dup X dX8_element_98 rfl ?_
          refine gf_X8_89 X dX8_element_99 h (fun v34 h => ?_)
          refine r_iconst X 1 dX8_element_102 (by decide) ?_
          refine r_iadd X dX8_element_103 ?_
          refine pf_X8_89 X dX8_element_104 h (fun σ35 h => ?_)
          refine r_aload_n X dX8_element_107 rfl 0 rfl ?_
          refine r_dup X dX8_element_108 rfl ?_
          refine gf_X8_7 X dX8_element_109 h (fun v36 h => ?_)
          refine r_iconst X 1 dX8_element_112 (by decide) ?_
          refine r_iadd X dX8_element_113 ?_
          refine pf_X8_7 X dX8_element_114 h (fun σ37 h => ?_)
          refine r_aload_n X dX8_element_117 rfl 0 rfl ?_
          refine gf_X8_7 X dX8_element_118 h (fun v38 h => ?_)
          refine r_iconst X 1 dX8_element_121 (by decide) ?_
          refine r_isub X dX8_element_122 ?_
          exact r_iret Rt dX8_element_123 h
        · refine r_iconst X 0 dX8_element_62 (by decide) ?_
          exact r_iret Rt dX8_element_63 h
      · refine r_iconst X 0 dX8_element_51 (by decide) ?_
        refine pf_X8_78 X dX8_element_52 h (fun σ9 h => ?_)
        refine r_aload_n X dX8_element_55 rfl 0 rfl ?_
        refine gf_X8_78 X dX8_element_56 h (fun v10 h => ?_)
        refine r_if_le X 64 dX8_element_59 (by decide) h (fun g11 h => ?_) (fun g11 h => ?_)
        · refine r_aload_n X dX8_element_64 rfl 0 rfl ?_
          refine gf_X8_13 X dX8_element_65 ?_
          refine r_aload_n X dX8_element_68 rfl 0 rfl ?_
          refine gf_X8_7 X dX8_element_69 h (fun v12 h => ?_)
          refine r_iload_n X dX8_element_72 rfl 2 rfl ?_
          refine as_36 X dX8_element_73 h (fun σ13 h => ?_)
          refine r_aload_n X dX8_element_74 rfl 0 rfl ?_
          refine gf_X8_33 X dX8_element_75 ?_
          refine r_aload_n X dX8_element_78 rfl 0 rfl ?_
          refine gf_X8_89 X dX8_element_79 h (fun v14 h => ?_)
          refine r_iload_n X dX8_element_82 rfl 1 rfl ?_
          refine as_42 X dX8_element_83 h (fun σ15 h => ?_)
          refine r_aload_n X dX8_element_84 rfl 0 rfl ?_
          refine gf_X8_36 X dX8_element_85 ?_
          refine r_aload_n X dX8_element_88 rfl 0 rfl ?_
          refine gf_X8_89 X dX8_element_89 h (fun v16 h => ?_)
          refine r_aload_n X dX8_element_92 rfl 0 rfl ?_
          refine gf_X8_7 X dX8_element_93 h (fun v17 h => ?_)
          refine as_43 X dX8_element_96 h (fun σ18 h => ?_)
          refine r_aload_n X dX8_element_97 rfl 0 rfl ?_
          refine r_dup X dX8_element_98 rfl ?_
          refine gf_X8_89 X dX8_element_99 h (fun v19 h => ?_)
          refine r_iconst X 1 dX8_element_102 (by decide) ?_
          refine r_iadd X dX8_element_103 ?_
          refine pf_X8_89 X dX8_element_104 h (fun σ20 h => ?_)
          refine r_aload_n X dX8_element_107 rfl 0 rfl ?_
          refine r_dup X dX8_element_108 rfl ?_
          refine gf_X8_7 X dX8_element_109 h (fun v21 h => ?_)
          refine r_iconst X 1 dX8_element_112 (by decide) ?_
          refine r_iadd X dX8_element_113 ?_
          refine pf_X8_7 X dX8_element_114 h (fun σ22 h => ?_)
          refine r_aload_n X dX8_element_117 rfl 0 rfl ?_
          refine gf_X8_7 X dX8_element_118 h (fun v23 h => ?_)
          refine r_iconst X 1 dX8_element_121 (by decide) ?_
          refine r_isub X dX8_element_122 ?_
          exact r_iret Rt dX8_element_123 h
        · refine r_iconst X 0 dX8_element_62 (by decide) ?_
          exact r_iret Rt dX8_element_63 h
theorem c_X8_element (l : Launch) (hl : l.stackTraces = false) (N : Nat) (D : va_G) (cy : Nat → ClassId) (ad sa : Nat → Nat) (a1 : Int32) (a2 : Int32) (σ : Sg) : CtI l yX8_element cX8_element 3 (some .int) 1 22 D cy ad sa [.ref (ad 35), .int a1, .int a2] σ (f_X8_element N a1 a2 σ) :=
  ct_I hl (by decide +kernel) (Nat.le_of_ble_eq_true rfl) (fun z res e1 e2 e3 e4 e5 e6 X Rt h => by subst e1 e2 e3 e4 e5; exact w_X8_element X ⟨e6.1, e6.2⟩ Rt N a1 a2 σ h)
def f_X8_standardOf_2 (N : Nat) (K : Int32 → Sg → Option (Int32 × Sg)) : Nat → Int32 → Sg → Option (Int32 × Sg)
  | 0, _, _ => none
  | n + 1, x2, σ => if x2 ≤ 99 then (K x2 σ) else (rdA 20 (σ 41) (x2 - 100) (fun v2 => f_X8_standardOf_2 N K n v2 σ))
def f_X8_standardOf (N : Nat) (a1 : Int32) (σ : Sg) : Option (Int32 × Sg) := f_X8_standardOf_2 N (fun v3 σ4 => some (v3, σ4)) N a1 σ
set_option maxHeartbeats 4000000 in
set_option maxRecDepth 100000 in
theorem w_X8_standardOf_2 {z : Cz} (X : Cx z cX8_standardOf 3 RX8) (hR : 0 ≤ (zR z).frames ∧ 0 ≤ (zR z).locals) {res : (Int32 × Sg)} (N : Nat) (K : Int32 → Sg → Option (Int32 × Sg)) (kx : ∀ (y2 : Int32) (σ : Sg), K y2 σ = some res → V z 0 3 21 [(2, .int y2)] [] σ) : ∀ (n : Nat) (x2 : Int32) (σ : Sg), f_X8_standardOf_2 N K n x2 σ = some res → V z 0 3 2 [(0, .ref (zA z 35)), (2, .int x2)] [] σ := by
  intro n
  induction n with
  | zero =>
    intro x2 σ h
    rw [f_X8_standardOf_2] at h
    cases h
  | succ n ih =>
    intro x2 σ h
    rw [f_X8_standardOf_2] at h
    refine r_iload_n X dX8_standardOf_2 rfl 1 rfl ?_
    refine r_bipush X 99 dX8_standardOf_3 (by decide) ?_
    refine r_icmp_le X 21 dX8_standardOf_5 (by decide) h (fun g1 h => ?_) (fun g1 h => ?_)
    · refine r_sub [1] rfl ?_
      exact kx x2 σ h
    · refine r_aload_n X dX8_standardOf_8 rfl 0 rfl ?_
      refine gf_X8_30 X dX8_standardOf_9 ?_
      refine r_iload_n X dX8_standardOf_12 rfl 1 rfl ?_
      refine r_bipush X 100 dX8_standardOf_13 (by decide) ?_
      refine r_isub X dX8_standardOf_15 ?_
      refine al_41 X dX8_standardOf_16 h (fun v2 h => ?_)
      refine r_istore_n X [(2, .int v2), (0, .ref (zA z 35))] dX8_standardOf_17 rfl (by decide) rfl ?_
      refine r_goto X 2 dX8_standardOf_18 (by decide) ?_
      refine r_sub [1, 0] rfl ?_
      exact ih v2 σ h
set_option maxHeartbeats 4000000 in
set_option maxRecDepth 100000 in
theorem w_X8_standardOf {z : Cz} (X : Cx z cX8_standardOf 3 RX8) (hR : 0 ≤ (zR z).frames ∧ 0 ≤ (zR z).locals) {res : (Int32 × Sg)} (Rt : RtI z cX8_standardOf 3 .int res) (N : Nat) (a1 : Int32) (σ : Sg) (h : f_X8_standardOf N a1 σ = some res) : V z 0 3 0 [(0, .ref (zA z 35)), (1, .int a1)] [] σ := by
  rw [f_X8_standardOf] at h
  refine r_iload_n X dX8_standardOf_0 rfl 1 rfl ?_
  refine r_istore_n X [(2, .int a1), (0, .ref (zA z 35)), (1, .int a1)] dX8_standardOf_1 rfl (by decide) rfl ?_
  refine r_sub [1, 0] rfl ?_
  refine w_X8_standardOf_2 X hR N _ (fun v3 σ4 h => ?_) N a1 σ h
  refine r_iload_n X dX8_standardOf_21 rfl 0 rfl ?_
  exact r_iret Rt dX8_standardOf_22 h
theorem c_X8_standardOf (l : Launch) (hl : l.stackTraces = false) (N : Nat) (D : va_G) (cy : Nat → ClassId) (ad sa : Nat → Nat) (a1 : Int32) (σ : Sg) : CtI l yX8_standardOf cX8_standardOf 3 (some .int) 0 0 D cy ad sa [.ref (ad 35), .int a1] σ (f_X8_standardOf N a1 σ) :=
  ct_I hl (by decide +kernel) (Nat.le_of_ble_eq_true rfl) (fun z res e1 e2 e3 e4 e5 e6 X Rt h => by subst e1 e2 e3 e4 e5; exact w_X8_standardOf X ⟨e6.1, e6.2⟩ Rt N a1 σ h)
def f_X8_leadsTo_5 (N : Nat) (x2 : Int32) (K : Int32 → Sg → Option (Int32 × Sg)) : Nat → Int32 → Int32 → Sg → Option (Int32 × Sg)
  | 0, _, _, _ => none
  | n + 1, x3, x4, σ => if x3 ≤ 99 then (K x4 σ) else (if x4 = 0 then (if x3 = x2 then (rdA 20 (σ 41) (x3 - 100) (fun v6 => f_X8_leadsTo_5 N x2 K n v6 1 σ)) else (rdA 20 (σ 41) (x3 - 100) (fun v5 => f_X8_leadsTo_5 N x2 K n v5 0 σ))) else (rdA 20 (σ 41) (x3 - 100) (fun v3 => f_X8_leadsTo_5 N x2 K n v3 1 σ)))
def f_X8_leadsTo (N : Nat) (a1 : Int32) (a2 : Int32) (σ : Sg) : Option (Int32 × Sg) := f_X8_leadsTo_5 N a2 (fun v7 σ8 => gd (v7 = 0 ∨ v7 = 1) (some (v7, σ8))) N a1 0 σ
set_option maxHeartbeats 4000000 in
set_option maxRecDepth 100000 in
theorem w_X8_leadsTo_5 {z : Cz} (X : Cx z cX8_leadsTo 5 RX8) (hR : 0 ≤ (zR z).frames ∧ 0 ≤ (zR z).locals) {res : (Int32 × Sg)} (N : Nat) (x2 : Int32) (K : Int32 → Sg → Option (Int32 × Sg)) (kx : ∀ (y4 : Int32) (σ : Sg), K y4 σ = some res → V z 0 5 41 [(4, .int y4)] [] σ) : ∀ (n : Nat) (x3 : Int32) (x4 : Int32) (σ : Sg), f_X8_leadsTo_5 N x2 K n x3 x4 σ = some res → V z 0 5 5 [(0, .ref (zA z 35)), (2, .int x2), (3, .int x3), (4, .int x4)] [] σ := by
  intro n
  induction n with
  | zero =>
    intro x3 x4 σ h
    rw [f_X8_leadsTo_5] at h
    cases h
  | succ n ih =>
    intro x3 x4 σ h
    rw [f_X8_leadsTo_5] at h
    refine r_iload_n X dX8_leadsTo_5 rfl 2 rfl ?_
    refine r_bipush X 99 dX8_leadsTo_6 (by decide) ?_
    refine r_icmp_le X 41 dX8_leadsTo_8 (by decide) h (fun g1 h => ?_) (fun g1 h => ?_)
    · refine r_sub [3] rfl ?_
      exact kx x4 σ h
    · refine r_iload X dX8_leadsTo_11 3 rfl ?_
      refine r_if_ne X 21 dX8_leadsTo_13 (by decide) h (fun g2 h => ?_) (fun g2 h => ?_)
      · refine r_iload_n X dX8_leadsTo_16 rfl 2 rfl ?_
        refine r_iload_n X dX8_leadsTo_17 rfl 1 rfl ?_
        refine r_icmp_ne X 25 dX8_leadsTo_18 (by decide) h (fun g4 h => ?_) (fun g4 h => ?_)
        · refine r_iconst X 1 dX8_leadsTo_21 (by decide) ?_
          refine r_goto X 26 dX8_leadsTo_22 (by decide) ?_
          refine r_istore X [(4, .int 1), (0, .ref (zA z 35)), (2, .int x2), (3, .int x3)] dX8_leadsTo_26 (by decide) rfl ?_
          refine r_aload_n X dX8_leadsTo_28 rfl 1 rfl ?_
          refine gf_X8_30 X dX8_leadsTo_29 ?_
          refine r_iload_n X dX8_leadsTo_32 rfl 3 rfl ?_
          refine r_bipush X 100 dX8_leadsTo_33 (by decide) ?_
          refine r_isub X dX8_leadsTo_35 ?_
          refine al_41 X dX8_leadsTo_36 h (fun v6 h => ?_)
          refine r_istore_n X [(3, .int v6), (4, .int 1), (0, .ref (zA z 35)), (2, .int x2)] dX8_leadsTo_37 rfl (by decide) rfl ?_
          refine r_goto X 5 dX8_leadsTo_38 (by decide) ?_
          refine r_sub [2, 3, 0, 1] rfl ?_
          exact ih v6 1 σ h
        · refine r_iconst X 0 dX8_leadsTo_25 (by decide) ?_
          refine r_istore X [(4, .int 0), (0, .ref (zA z 35)), (2, .int x2), (3, .int x3)] dX8_leadsTo_26 (by decide) rfl ?_
          refine r_aload_n X dX8_leadsTo_28 rfl 1 rfl ?_
          refine gf_X8_30 X dX8_leadsTo_29 ?_
          refine r_iload_n X dX8_leadsTo_32 rfl 3 rfl ?_
          refine r_bipush X 100 dX8_leadsTo_33 (by decide) ?_
          refine r_isub X dX8_leadsTo_35 ?_
          refine al_41 X dX8_leadsTo_36 h (fun v5 h => ?_)
          refine r_istore_n X [(3, .int v5), (4, .int 0), (0, .ref (zA z 35)), (2, .int x2)] dX8_leadsTo_37 rfl (by decide) rfl ?_
          refine r_goto X 5 dX8_leadsTo_38 (by decide) ?_
          refine r_sub [2, 3, 0, 1] rfl ?_
          exact ih v5 0 σ h
      · refine r_iconst X 1 dX8_leadsTo_21 (by decide) ?_
        refine r_goto X 26 dX8_leadsTo_22 (by decide) ?_
        refine r_istore X [(4, .int 1), (0, .ref (zA z 35)), (2, .int x2), (3, .int x3)] dX8_leadsTo_26 (by decide) rfl ?_
        refine r_aload_n X dX8_leadsTo_28 rfl 1 rfl ?_
        refine gf_X8_30 X dX8_leadsTo_29 ?_
        refine r_iload_n X dX8_leadsTo_32 rfl 3 rfl ?_
        refine r_bipush X 100 dX8_leadsTo_33 (by decide) ?_
        refine r_isub X dX8_leadsTo_35 ?_
        refine al_41 X dX8_leadsTo_36 h (fun v3 h => ?_)
        refine r_istore_n X [(3, .int v3), (4, .int 1), (0, .ref (zA z 35)), (2, .int x2)] dX8_leadsTo_37 rfl (by decide) rfl ?_
        refine r_goto X 5 dX8_leadsTo_38 (by decide) ?_
        refine r_sub [2, 3, 0, 1] rfl ?_
        exact ih v3 1 σ h
set_option maxHeartbeats 4000000 in
set_option maxRecDepth 100000 in
theorem w_X8_leadsTo {z : Cz} (X : Cx z cX8_leadsTo 5 RX8) (hR : 0 ≤ (zR z).frames ∧ 0 ≤ (zR z).locals) {res : (Int32 × Sg)} (Rt : RtI z cX8_leadsTo 5 .boolean res) (N : Nat) (a1 : Int32) (a2 : Int32) (σ : Sg) (h : f_X8_leadsTo N a1 a2 σ = some res) : V z 0 5 0 [(0, .ref (zA z 35)), (1, .int a1), (2, .int a2)] [] σ := by
  rw [f_X8_leadsTo] at h
  refine r_iload_n X dX8_leadsTo_0 rfl 1 rfl ?_
  refine r_istore_n X [(3, .int a1), (0, .ref (zA z 35)), (1, .int a1), (2, .int a2)] dX8_leadsTo_1 rfl (by decide) rfl ?_
  refine r_iconst X 0 dX8_leadsTo_2 (by decide) ?_
  refine r_istore X [(4, .int 0), (3, .int a1), (0, .ref (zA z 35)), (1, .int a1), (2, .int a2)] dX8_leadsTo_3 (by decide) rfl ?_
  refine r_sub [2, 4, 1, 0] rfl ?_
  refine w_X8_leadsTo_5 X hR N a2 _ (fun v7 σ8 h => ?_) N a1 0 σ h
  refine r_iload X dX8_leadsTo_41 0 rfl ?_
  exact r_zret Rt dX8_leadsTo_43 h
theorem c_X8_leadsTo (l : Launch) (hl : l.stackTraces = false) (N : Nat) (D : va_G) (cy : Nat → ClassId) (ad sa : Nat → Nat) (a1 : Int32) (a2 : Int32) (σ : Sg) : CtI l yX8_leadsTo cX8_leadsTo 5 (some .boolean) 0 0 D cy ad sa [.ref (ad 35), .int a1, .int a2] σ (f_X8_leadsTo N a1 a2 σ) :=
  ct_I hl (by decide +kernel) (Nat.le_of_ble_eq_true rfl) (fun z res e1 e2 e3 e4 e5 e6 X Rt h => by subst e1 e2 e3 e4 e5; exact w_X8_leadsTo X ⟨e6.1, e6.2⟩ Rt N a1 a2 σ h)
def f_X8_map (N : Nat) (a1 : Int32) (a2 : Int32) (σ : Sg) : Option (Int32 × Sg) := cI (f_X8_in N a1 100 119 σ) (fun v1 σ2 => if v1 = 0 then (st (ss σ2 35 0 1) (fun σ4 => lt (σ4 35 0) (fun v5 => if 0 < v5 then (some (0, σ4)) else (cI (f_X8_leadsTo N a2 a1 σ4) (fun v7 σ8 => if v7 = 0 then (wrA 20 σ8 41 (a1 - 100) a2 (fun σ10 => some (1, σ10))) else (some (0, σ8))))))) else (cI (f_X8_in N a2 0 12 σ2) (fun v11 σ12 => if v11 = 0 then (cI (f_X8_in N a2 100 119 σ12) (fun v21 σ22 => if v21 = 0 then (st (ss σ22 35 0 1) (fun σ24 => lt (σ24 35 0) (fun v25 => if 0 < v25 then (some (0, σ24)) else (cI (f_X8_leadsTo N a2 a1 σ24) (fun v27 σ28 => if v27 = 0 then (wrA 20 σ28 41 (a1 - 100) a2 (fun σ30 => some (1, σ30))) else (some (0, σ28))))))) else (st (ss σ22 35 0 0) (fun σ31 => lt (σ31 35 0) (fun v32 => if 0 < v32 then (some (0, σ31)) else (cI (f_X8_leadsTo N a2 a1 σ31) (fun v34 σ35 => if v34 = 0 then (wrA 20 σ35 41 (a1 - 100) a2 (fun σ37 => some (1, σ37))) else (some (0, σ35))))))))) else (st (ss σ12 35 0 0) (fun σ14 => lt (σ14 35 0) (fun v15 => if 0 < v15 then (some (0, σ14)) else (cI (f_X8_leadsTo N a2 a1 σ14) (fun v17 σ18 => if v17 = 0 then (wrA 20 σ18 41 (a1 - 100) a2 (fun σ20 => some (1, σ20))) else (some (0, σ18))))))))))
set_option maxHeartbeats 4000000 in
set_option maxRecDepth 100000 in
theorem w_X8_map {z : Cz} (X : Cx z cX8_map 3 RX8) (hR : 1 ≤ (zR z).frames ∧ 24 ≤ (zR z).locals) {res : (Int32 × Sg)} (Rt : RtI z cX8_map 3 .int res) (N : Nat) (a1 : Int32) (a2 : Int32) (σ : Sg) (h : f_X8_map N a1 a2 σ = some res) : V z 0 3 0 [(0, .ref (zA z 35)), (1, .int a1), (2, .int a2)] [] σ := by
  rw [f_X8_map] at h
  refine r_aload_n X dX8_map_0 rfl 0 rfl ?_
  refine r_iload_n X dX8_map_1 rfl 1 rfl ?_
  refine r_bipush X 100 dX8_map_2 (by decide) ?_
  refine r_bipush X 119 dX8_map_4 (by decide) ?_
  refine r_callS X lk_X8_85 (c_X8_in (zl z) X.2.2.2.2.2.2.2.1 N (zD z) (zy z) (zA z) (zS z) a1 100 119 σ) ⟨Nat.le_trans (by decide) hR.1, Nat.le_trans (by decide) hR.2⟩ rfl rfl (Nat.le_of_ble_eq_true rfl) dX8_map_6 h (fun v1 σ2 h => ?_)
  refine r_if_eq X 37 dX8_map_9 (by decide) h (fun g3 h => ?_) (fun g3 h => ?_)
  · refine r_iconst X 1 dX8_map_37 (by decide) ?_
    refine pf_X8_78 X dX8_map_38 h (fun σ4 h => ?_)
    refine r_aload_n X dX8_map_41 rfl 0 rfl ?_
    refine gf_X8_78 X dX8_map_42 h (fun v5 h => ?_)
    refine r_if_gt X 57 dX8_map_45 (by decide) h (fun g6 h => ?_) (fun g6 h => ?_)
    · refine r_iconst X 0 dX8_map_57 (by decide) ?_
      exact r_iret Rt dX8_map_58 h
    · refine r_aload_n X dX8_map_48 rfl 0 rfl ?_
      refine r_iload_n X dX8_map_49 rfl 2 rfl ?_
      refine r_iload_n X dX8_map_50 rfl 1 rfl ?_
      refine r_callV X 35 8 (by decide) rfl rfl rfl lk_X8_92 (c_X8_leadsTo (zl z) X.2.2.2.2.2.2.2.1 N (zD z) (zy z) (zA z) (zS z) a2 a1 σ4) ⟨Nat.le_trans (by decide) hR.1, Nat.le_trans (by decide) hR.2⟩ rfl rfl (Nat.le_of_ble_eq_true rfl) dX8_map_51 h (fun v7 σ8 h => ?_)
      refine r_if_eq X 59 dX8_map_54 (by decide) h (fun g9 h => ?_) (fun g9 h => ?_)
      · refine r_aload_n X dX8_map_59 rfl 0 rfl ?_
        refine gf_X8_30 X dX8_map_60 ?_
        refine r_iload_n X dX8_map_63 rfl 1 rfl ?_
        refine r_bipush X 100 dX8_map_64 (by decide) ?_
        refine r_isub X dX8_map_66 ?_
        refine r_iload_n X dX8_map_67 rfl 2 rfl ?_
        refine as_41 X dX8_map_68 h (fun σ10 h => ?_)
        refine r_iconst X 1 dX8_map_69 (by decide) ?_
        exact r_iret Rt dX8_map_70 h
      · refine r_iconst X 0 dX8_map_57 (by decide) ?_
        exact r_iret Rt dX8_map_58 h
  · refine r_iload_n X dX8_map_12 rfl 2 rfl ?_
    refine r_iconst X 0 dX8_map_13 (by decide) ?_
    refine r_bipush X 12 dX8_map_14 (by decide) ?_
    refine r_callS X lk_X8_85 (c_X8_in (zl z) X.2.2.2.2.2.2.2.1 N (zD z) (zy z) (zA z) (zS z) a2 0 12 σ2) ⟨Nat.le_trans (by decide) hR.1, Nat.le_trans (by decide) hR.2⟩ rfl rfl (Nat.le_of_ble_eq_true rfl) dX8_map_16 h (fun v11 σ12 h => ?_)
    refine r_if_ne X 33 dX8_map_19 (by decide) h (fun g13 h => ?_) (fun g13 h => ?_)
    · refine r_iload_n X dX8_map_22 rfl 2 rfl ?_
      refine r_bipush X 100 dX8_map_23 (by decide) ?_
      refine r_bipush X 119 dX8_map_25 (by decide) ?_
      refine r_callS X lk_X8_85 (c_X8_in (zl z) X.2.2.2.2.2.2.2.1 N (zD z) (zy z) (zA z) (zS z) a2 100 119 σ12) ⟨Nat.le_trans (by decide) hR.1, Nat.le_trans (by decide) hR.2⟩ rfl rfl (Nat.le_of_ble_eq_true rfl) dX8_map_27 h (fun v21 σ22 h => ?_)
      refine r_if_eq X 37 dX8_map_30 (by decide) h (fun g23 h => ?_) (fun g23 h => ?_)
      · refine r_iconst X 1 dX8_map_37 (by decide) ?_
        refine pf_X8_78 X dX8_map_38 h (fun σ24 h => ?_)
        refine r_aload_n X dX8_map_41 rfl 0 rfl ?_
        refine gf_X8_78 X dX8_map_42 h (fun v25 h => ?_)
        refine r_if_gt X 57 dX8_map_45 (by decide) h (fun g26 h => ?_) (fun g26 h => ?_)
        · refine r_iconst X 0 dX8_map_57 (by decide) ?_
          exact r_iret Rt dX8_map_58 h
        · refine r_aload_n X dX8_map_48 rfl 0 rfl ?_
          refine r_iload_n X dX8_map_49 rfl 2 rfl ?_
          refine r_iload_n X dX8_map_50 rfl 1 rfl ?_
          refine r_callV X 35 8 (by decide) rfl rfl rfl lk_X8_92 (c_X8_leadsTo (zl z) X.2.2.2.2.2.2.2.1 N (zD z) (zy z) (zA z) (zS z) a2 a1 σ24) ⟨Nat.le_trans (by decide) hR.1, Nat.le_trans (by decide) hR.2⟩ rfl rfl (Nat.le_of_ble_eq_true rfl) dX8_map_51 h (fun v27 σ28 h => ?_)
          refine r_if_eq X 59 dX8_map_54 (by decide) h (fun g29 h => ?_) (fun g29 h => ?_)
          · refine r_aload_n X dX8_map_59 rfl 0 rfl ?_
            refine gf_X8_30 X dX8_map_60 ?_
            refine r_iload_n X dX8_map_63 rfl 1 rfl ?_
            refine r_bipush X 100 dX8_map_64 (by decide) ?_
            refine r_isub X dX8_map_66 ?_
            refine r_iload_n X dX8_map_67 rfl 2 rfl ?_
            refine as_41 X dX8_map_68 h (fun σ30 h => ?_)
            refine r_iconst X 1 dX8_map_69 (by decide) ?_
            exact r_iret Rt dX8_map_70 h
          · refine r_iconst X 0 dX8_map_57 (by decide) ?_
            exact r_iret Rt dX8_map_58 h
      · refine r_iconst X 0 dX8_map_33 (by decide) ?_
        refine r_goto X 38 dX8_map_34 (by decide) ?_
        refine pf_X8_78 X dX8_map_38 h (fun σ31 h => ?_)
        refine r_aload_n X dX8_map_41 rfl 0 rfl ?_
        refine gf_X8_78 X dX8_map_42 h (fun v32 h => ?_)
        refine r_if_gt X 57 dX8_map_45 (by decide) h (fun g33 h => ?_) (fun g33 h => ?_)
        · refine r_iconst X 0 dX8_map_57 (by decide) ?_
          exact r_iret Rt dX8_map_58 h
        · refine r_aload_n X dX8_map_48 rfl 0 rfl ?_
          refine r_iload_n X dX8_map_49 rfl 2 rfl ?_
          refine r_iload_n X dX8_map_50 rfl 1 rfl ?_
          refine r_callV X 35 8 (by decide) rfl rfl rfl lk_X8_92 (c_X8_leadsTo (zl z) X.2.2.2.2.2.2.2.1 N (zD z) (zy z) (zA z) (zS z) a2 a1 σ31) ⟨Nat.le_trans (by decide) hR.1, Nat.le_trans (by decide) hR.2⟩ rfl rfl (Nat.le_of_ble_eq_true rfl) dX8_map_51 h (fun v34 σ35 h => ?_)
          refine r_if_eq X 59 dX8_map_54 (by decide) h (fun g36 h => ?_) (fun g36 h => ?_)
          · refine r_aload_n X dX8_map_59 rfl 0 rfl ?_
            refine gf_X8_30 X dX8_map_60 ?_
            refine r_iload_n X dX8_map_63 rfl 1 rfl ?_
            refine r_bipush X 100 dX8_map_64 (by decide) ?_
            refine r_isub X dX8_map_66 ?_
            refine r_iload_n X dX8_map_67 rfl 2 rfl ?_
            refine as_41 X dX8_map_68 h (fun σ37 h => ?_)
            refine r_iconst X 1 dX8_map_69 (by decide) ?_
            exact r_iret Rt dX8_map_70 h
          · refine r_iconst X 0 dX8_map_57 (by decide) ?_
            exact r_iret Rt dX8_map_58 h
    · refine r_iconst X 0 dX8_map_33 (by decide) ?_
      refine r_goto X 38 dX8_map_34 (by decide) ?_
      refine pf_X8_78 X dX8_map_38 h (fun σ14 h => ?_)
      refine r_aload_n X dX8_map_41 rfl 0 rfl ?_
      refine gf_X8_78 X dX8_map_42 h (fun v15 h => ?_)
      refine r_if_gt X 57 dX8_map_45 (by decide) h (fun g16 h => ?_) (fun g16 h => ?_)
      · refine r_iconst X 0 dX8_map_57 (by decide) ?_
        exact r_iret Rt dX8_map_58 h
      · refine r_aload_n X dX8_map_48 rfl 0 rfl ?_
        refine r_iload_n X dX8_map_49 rfl 2 rfl ?_
        refine r_iload_n X dX8_map_50 rfl 1 rfl ?_
        refine r_callV X 35 8 (by decide) rfl rfl rfl lk_X8_92 (c_X8_leadsTo (zl z) X.2.2.2.2.2.2.2.1 N (zD z) (zy z) (zA z) (zS z) a2 a1 σ14) ⟨Nat.le_trans (by decide) hR.1, Nat.le_trans (by decide) hR.2⟩ rfl rfl (Nat.le_of_ble_eq_true rfl) dX8_map_51 h (fun v17 σ18 h => ?_)
        refine r_if_eq X 59 dX8_map_54 (by decide) h (fun g19 h => ?_) (fun g19 h => ?_)
        · refine r_aload_n X dX8_map_59 rfl 0 rfl ?_
          refine gf_X8_30 X dX8_map_60 ?_
          refine r_iload_n X dX8_map_63 rfl 1 rfl ?_
          refine r_bipush X 100 dX8_map_64 (by decide) ?_
          refine r_isub X dX8_map_66 ?_
          refine r_iload_n X dX8_map_67 rfl 2 rfl ?_
          refine as_41 X dX8_map_68 h (fun σ20 h => ?_)
          refine r_iconst X 1 dX8_map_69 (by decide) ?_
          exact r_iret Rt dX8_map_70 h
        · refine r_iconst X 0 dX8_map_57 (by decide) ?_
          exact r_iret Rt dX8_map_58 h
theorem c_X8_map (l : Launch) (hl : l.stackTraces = false) (N : Nat) (D : va_G) (cy : Nat → ClassId) (ad sa : Nat → Nat) (a1 : Int32) (a2 : Int32) (σ : Sg) : CtI l yX8_map cX8_map 3 (some .int) 1 24 D cy ad sa [.ref (ad 35), .int a1, .int a2] σ (f_X8_map N a1 a2 σ) :=
  ct_I hl (by decide +kernel) (Nat.le_of_ble_eq_true rfl) (fun z res e1 e2 e3 e4 e5 e6 X Rt h => by subst e1 e2 e3 e4 e5; exact w_X8_map X ⟨e6.1, e6.2⟩ Rt N a1 a2 σ h)
def f_X8_ownerOf_4 (N : Nat) (x1 : Int32) (K : Int32 → Sg → Option (Int32 × Sg)) : Nat → Int32 → Int32 → Sg → Option (Int32 × Sg)
  | 0, _, _, _ => none
  | n + 1, x2, x3, σ => lt (σ 35 8) (fun v1 => if v1 ≤ x3 then (K x2 σ) else (rdA 160 (σ 43) x3 (fun v3 => if v3 = (1000 + x1) then (rdA 160 (σ 42) x3 (fun v6 => lt (x3 + 1) (fun v7 => f_X8_ownerOf_4 N x1 K n v6 v7 σ))) else (lt (x3 + 1) (fun v5 => f_X8_ownerOf_4 N x1 K n x2 v5 σ)))))
def f_X8_ownerOf (N : Nat) (a1 : Int32) (σ : Sg) : Option (Int32 × Sg) := f_X8_ownerOf_4 N a1 (fun v8 σ9 => some (v8, σ9)) N (-1) 0 σ
set_option maxHeartbeats 4000000 in
set_option maxRecDepth 100000 in
theorem w_X8_ownerOf_4 {z : Cz} (X : Cx z cX8_ownerOf 4 RX8) (hR : 0 ≤ (zR z).frames ∧ 0 ≤ (zR z).locals) {res : (Int32 × Sg)} (N : Nat) (x1 : Int32) (K : Int32 → Sg → Option (Int32 × Sg)) (kx : ∀ (y2 : Int32) (σ : Sg), K y2 σ = some res → V z 0 4 43 [(2, .int y2)] [] σ) : ∀ (n : Nat) (x2 : Int32) (x3 : Int32) (σ : Sg), f_X8_ownerOf_4 N x1 K n x2 x3 σ = some res → V z 0 4 4 [(0, .ref (zA z 35)), (1, .int x1), (2, .int x2), (3, .int x3)] [] σ := by
  intro n
  induction n with
  | zero =>
    intro x2 x3 σ h
    rw [f_X8_ownerOf_4] at h
    cases h
  | succ n ih =>
    intro x2 x3 σ h
    rw [f_X8_ownerOf_4] at h
    refine r_iload_n X dX8_ownerOf_4 rfl 3 rfl ?_
    refine r_aload_n X dX8_ownerOf_5 rfl 0 rfl ?_
    refine gf_X8_89 X dX8_ownerOf_6 h (fun v1 h => ?_)
    refine r_icmp_ge X 43 dX8_ownerOf_9 (by decide) h (fun g2 h => ?_) (fun g2 h => ?_)
    · refine r_sub [2] rfl ?_
      exact kx x2 σ h
    · refine r_aload_n X dX8_ownerOf_12 rfl 0 rfl ?_
      refine gf_X8_36 X dX8_ownerOf_13 ?_
      refine r_iload_n X dX8_ownerOf_16 rfl 3 rfl ?_
      refine al_43 X dX8_ownerOf_17 h (fun v3 h => ?_)
      refine r_sipush X 1000 dX8_ownerOf_18 (by decide) ?_
      refine r_iload_n X dX8_ownerOf_21 rfl 1 rfl ?_
      refine r_iadd X dX8_ownerOf_22 ?_
      refine r_icmp_ne X 35 dX8_ownerOf_23 (by decide) h (fun g4 h => ?_) (fun g4 h => ?_)
      · refine r_aload_n X dX8_ownerOf_26 rfl 0 rfl ?_
        refine gf_X8_33 X dX8_ownerOf_27 ?_
        refine r_iload_n X dX8_ownerOf_30 rfl 3 rfl ?_
        refine al_42 X dX8_ownerOf_31 h (fun v6 h => ?_)
        refine r_goto X 36 dX8_ownerOf_32 (by decide) ?_
        refine r_istore_n X [(2, .int v6), (0, .ref (zA z 35)), (1, .int x1), (3, .int x3)] dX8_ownerOf_36 rfl (by decide) rfl ?_
        refine r_iinc X 1 (fun v7 => [(3, .int v7), (2, .int v6), (0, .ref (zA z 35)), (1, .int x1)]) dX8_ownerOf_37 3 rfl (by decide) (by decide) (fun _ => rfl) h (fun v7 h => ?_)
        refine r_goto X 4 dX8_ownerOf_40 (by decide) ?_
        refine r_sub [2, 3, 1, 0] rfl ?_
        exact ih v6 v7 σ h
      · refine r_iload_n X dX8_ownerOf_35 rfl 2 rfl ?_
        refine r_istore_n X [(2, .int x2), (0, .ref (zA z 35)), (1, .int x1), (3, .int x3)] dX8_ownerOf_36 rfl (by decide) rfl ?_
        refine r_iinc X 1 (fun v5 => [(3, .int v5), (2, .int x2), (0, .ref (zA z 35)), (1, .int x1)]) dX8_ownerOf_37 3 rfl (by decide) (by decide) (fun _ => rfl) h (fun v5 h => ?_)
        refine r_goto X 4 dX8_ownerOf_40 (by decide) ?_
        refine r_sub [2, 3, 1, 0] rfl ?_
        exact ih x2 v5 σ h
set_option maxHeartbeats 4000000 in
set_option maxRecDepth 100000 in
theorem w_X8_ownerOf {z : Cz} (X : Cx z cX8_ownerOf 4 RX8) (hR : 0 ≤ (zR z).frames ∧ 0 ≤ (zR z).locals) {res : (Int32 × Sg)} (Rt : RtI z cX8_ownerOf 4 .int res) (N : Nat) (a1 : Int32) (σ : Sg) (h : f_X8_ownerOf N a1 σ = some res) : V z 0 4 0 [(0, .ref (zA z 35)), (1, .int a1)] [] σ := by
  rw [f_X8_ownerOf] at h
  refine r_iconst X (-1) dX8_ownerOf_0 (by decide) ?_
  refine r_istore_n X [(2, .int (-1)), (0, .ref (zA z 35)), (1, .int a1)] dX8_ownerOf_1 rfl (by decide) rfl ?_
  refine r_iconst X 0 dX8_ownerOf_2 (by decide) ?_
  refine r_istore_n X [(3, .int 0), (2, .int (-1)), (0, .ref (zA z 35)), (1, .int a1)] dX8_ownerOf_3 rfl (by decide) rfl ?_
  refine r_sub [2, 3, 1, 0] rfl ?_
  refine w_X8_ownerOf_4 X hR N a1 _ (fun v8 σ9 h => ?_) N (-1) 0 σ h
  refine r_iload_n X dX8_ownerOf_43 rfl 0 rfl ?_
  exact r_iret Rt dX8_ownerOf_44 h
theorem c_X8_ownerOf (l : Launch) (hl : l.stackTraces = false) (N : Nat) (D : va_G) (cy : Nat → ClassId) (ad sa : Nat → Nat) (a1 : Int32) (σ : Sg) : CtI l yX8_ownerOf cX8_ownerOf 4 (some .int) 0 0 D cy ad sa [.ref (ad 35), .int a1] σ (f_X8_ownerOf N a1 σ) :=
  ct_I hl (by decide +kernel) (Nat.le_of_ble_eq_true rfl) (fun z res e1 e2 e3 e4 e5 e6 X Rt h => by subst e1 e2 e3 e4 e5; exact w_X8_ownerOf X ⟨e6.1, e6.2⟩ Rt N a1 σ h)
def f_X8_isPart (N : Nat) (a1 : Int32) (a2 : Int32) (σ : Sg) : Option (Int32 × Sg) := cI (f_X8_in N a1 0 9 σ) (fun v1 σ2 => if v1 = 0 then (some (0, σ2)) else (cI (f_X8_in N a2 0 19 σ2) (fun v4 σ5 => if v4 = 0 then (some (0, σ5)) else (some (1, σ5)))))
set_option maxHeartbeats 4000000 in
set_option maxRecDepth 100000 in
theorem w_X8_isPart {z : Cz} (X : Cx z cX8_isPart 2 RX8) (hR : 1 ≤ (zR z).frames ∧ 22 ≤ (zR z).locals) {res : (Int32 × Sg)} (Rt : RtI z cX8_isPart 2 .boolean res) (N : Nat) (a1 : Int32) (a2 : Int32) (σ : Sg) (h : f_X8_isPart N a1 a2 σ = some res) : V z 0 2 0 [(0, .int a1), (1, .int a2)] [] σ := by
  rw [f_X8_isPart] at h
  refine r_iload_n X dX8_isPart_0 rfl 0 rfl ?_
  refine r_iconst X 0 dX8_isPart_1 (by decide) ?_
  refine r_bipush X 9 dX8_isPart_2 (by decide) ?_
  refine r_callS X lk_X8_85 (c_X8_in (zl z) X.2.2.2.2.2.2.2.1 N (zD z) (zy z) (zA z) (zS z) a1 0 9 σ) ⟨Nat.le_trans (by decide) hR.1, Nat.le_trans (by decide) hR.2⟩ rfl rfl (Nat.le_of_ble_eq_true rfl) dX8_isPart_4 h (fun v1 σ2 h => ?_)
  refine r_if_eq X 24 dX8_isPart_7 (by decide) h (fun g3 h => ?_) (fun g3 h => ?_)
  · refine r_iconst X 0 dX8_isPart_24 (by decide) ?_
    exact r_zretC Rt dX8_isPart_25 (by decide) h
  · refine r_iload_n X dX8_isPart_10 rfl 1 rfl ?_
    refine r_iconst X 0 dX8_isPart_11 (by decide) ?_
    refine r_bipush X 19 dX8_isPart_12 (by decide) ?_
    refine r_callS X lk_X8_85 (c_X8_in (zl z) X.2.2.2.2.2.2.2.1 N (zD z) (zy z) (zA z) (zS z) a2 0 19 σ2) ⟨Nat.le_trans (by decide) hR.1, Nat.le_trans (by decide) hR.2⟩ rfl rfl (Nat.le_of_ble_eq_true rfl) dX8_isPart_14 h (fun v4 σ5 h => ?_)
    refine r_if_eq X 24 dX8_isPart_17 (by decide) h (fun g6 h => ?_) (fun g6 h => ?_)
    · refine r_iconst X 0 dX8_isPart_24 (by decide) ?_
      exact r_zretC Rt dX8_isPart_25 (by decide) h
    · refine r_iconst X 1 dX8_isPart_20 (by decide) ?_
      refine r_goto X 25 dX8_isPart_21 (by decide) ?_
      exact r_zretC Rt dX8_isPart_25 (by decide) h
theorem c_X8_isPart (l : Launch) (hl : l.stackTraces = false) (N : Nat) (D : va_G) (cy : Nat → ClassId) (ad sa : Nat → Nat) (a1 : Int32) (a2 : Int32) (σ : Sg) : CtI l yX8_isPart cX8_isPart 2 (some .boolean) 1 22 D cy ad sa [.int a1, .int a2] σ (f_X8_isPart N a1 a2 σ) :=
  ct_I hl (by decide +kernel) (Nat.le_of_ble_eq_true rfl) (fun z res e1 e2 e3 e4 e5 e6 X Rt h => by subst e1 e2 e3 e4 e5; exact w_X8_isPart X ⟨e6.1, e6.2⟩ Rt N a1 a2 σ h)
def f_X8_content (N : Nat) (a1 : Int32) (a2 : Int32) (a3 : Int32) (σ : Sg) : Option (Int32 × Sg) := cI (f_X8_isElement N a1 σ) (fun v1 σ2 => if v1 = 0 then (st (ss σ2 35 0 1) (fun σ85 => lt (σ85 35 0) (fun v86 => if v86 ≤ 0 then (lt ((20 * a2) + a3) (fun v88 => cI (f_X8_ownerOf N v88 σ85) (fun v89 σ90 => if v89 = (-1) then (lt (σ90 35 11) (fun v92 => if v92 = 100 then (st (ss σ90 35 0 3) (fun σ105 => lt (σ105 35 0) (fun v106 => if v106 ≤ 0 then (lt (σ105 35 11) (fun v108 => st (ss σ105 35 11 (v108 + 1)) (fun σ109 => lt (σ109 35 8) (fun v110 => wrA 160 σ109 42 v110 a1 (fun σ111 => lt (σ111 35 8) (fun v112 => wrA 160 σ111 43 v112 (1000 + v88) (fun σ113 => lt (σ113 35 8) (fun v114 => st (ss σ113 35 8 (v114 + 1)) (fun σ115 => some (1, σ115)))))))))) else (some (0, σ105))))) else (st (ss σ90 35 0 0) (fun σ94 => lt (σ94 35 0) (fun v95 => if v95 ≤ 0 then (lt (σ94 35 11) (fun v97 => st (ss σ94 35 11 (v97 + 1)) (fun σ98 => lt (σ98 35 8) (fun v99 => wrA 160 σ98 42 v99 a1 (fun σ100 => lt (σ100 35 8) (fun v101 => wrA 160 σ100 43 v101 (1000 + v88) (fun σ102 => lt (σ102 35 8) (fun v103 => st (ss σ102 35 8 (v103 + 1)) (fun σ104 => some (1, σ104)))))))))) else (some (0, σ94))))))) else (lt (σ90 35 12) (fun v116 => if 40 ≤ v116 then (some (0, σ90)) else (lt (σ90 35 12) (fun v118 => wrA 40 σ90 44 v118 v88 (fun σ119 => lt (σ119 35 12) (fun v120 => wrA 40 σ119 45 v120 a1 (fun σ121 => lt (σ121 35 12) (fun v122 => st (ss σ121 35 12 (v122 + 1)) (fun σ123 => some (0, σ123))))))))))))) else (some (0, σ85))))) else (cI (f_X8_isPart N a2 a3 σ2) (fun v4 σ5 => if v4 = 0 then (st (ss σ5 35 0 2) (fun σ46 => lt (σ46 35 0) (fun v47 => if v47 ≤ 0 then (lt ((20 * a2) + a3) (fun v49 => cI (f_X8_ownerOf N v49 σ46) (fun v50 σ51 => if v50 = (-1) then (lt (σ51 35 11) (fun v53 => if v53 = 100 then (st (ss σ51 35 0 3) (fun σ66 => lt (σ66 35 0) (fun v67 => if v67 ≤ 0 then (lt (σ66 35 11) (fun v69 => st (ss σ66 35 11 (v69 + 1)) (fun σ70 => lt (σ70 35 8) (fun v71 => wrA 160 σ70 42 v71 a1 (fun σ72 => lt (σ72 35 8) (fun v73 => wrA 160 σ72 43 v73 (1000 + v49) (fun σ74 => lt (σ74 35 8) (fun v75 => st (ss σ74 35 8 (v75 + 1)) (fun σ76 => some (1, σ76)))))))))) else (some (0, σ66))))) else (st (ss σ51 35 0 0) (fun σ55 => lt (σ55 35 0) (fun v56 => if v56 ≤ 0 then (lt (σ55 35 11) (fun v58 => st (ss σ55 35 11 (v58 + 1)) (fun σ59 => lt (σ59 35 8) (fun v60 => wrA 160 σ59 42 v60 a1 (fun σ61 => lt (σ61 35 8) (fun v62 => wrA 160 σ61 43 v62 (1000 + v49) (fun σ63 => lt (σ63 35 8) (fun v64 => st (ss σ63 35 8 (v64 + 1)) (fun σ65 => some (1, σ65)))))))))) else (some (0, σ55))))))) else (lt (σ51 35 12) (fun v77 => if 40 ≤ v77 then (some (0, σ51)) else (lt (σ51 35 12) (fun v79 => wrA 40 σ51 44 v79 v49 (fun σ80 => lt (σ80 35 12) (fun v81 => wrA 40 σ80 45 v81 a1 (fun σ82 => lt (σ82 35 12) (fun v83 => st (ss σ82 35 12 (v83 + 1)) (fun σ84 => some (0, σ84))))))))))))) else (some (0, σ46))))) else (st (ss σ5 35 0 0) (fun σ7 => lt (σ7 35 0) (fun v8 => if v8 ≤ 0 then (lt ((20 * a2) + a3) (fun v10 => cI (f_X8_ownerOf N v10 σ7) (fun v11 σ12 => if v11 = (-1) then (lt (σ12 35 11) (fun v14 => if v14 = 100 then (st (ss σ12 35 0 3) (fun σ27 => lt (σ27 35 0) (fun v28 => if v28 ≤ 0 then (lt (σ27 35 11) (fun v30 => st (ss σ27 35 11 (v30 + 1)) (fun σ31 => lt (σ31 35 8) (fun v32 => wrA 160 σ31 42 v32 a1 (fun σ33 => lt (σ33 35 8) (fun v34 => wrA 160 σ33 43 v34 (1000 + v10) (fun σ35 => lt (σ35 35 8) (fun v36 => st (ss σ35 35 8 (v36 + 1)) (fun σ37 => some (1, σ37)))))))))) else (some (0, σ27))))) else (st (ss σ12 35 0 0) (fun σ16 => lt (σ16 35 0) (fun v17 => if v17 ≤ 0 then (lt (σ16 35 11) (fun v19 => st (ss σ16 35 11 (v19 + 1)) (fun σ20 => lt (σ20 35 8) (fun v21 => wrA 160 σ20 42 v21 a1 (fun σ22 => lt (σ22 35 8) (fun v23 => wrA 160 σ22 43 v23 (1000 + v10) (fun σ24 => lt (σ24 35 8) (fun v25 => st (ss σ24 35 8 (v25 + 1)) (fun σ26 => some (1, σ26)))))))))) else (some (0, σ16))))))) else (lt (σ12 35 12) (fun v38 => if 40 ≤ v38 then (some (0, σ12)) else (lt (σ12 35 12) (fun v40 => wrA 40 σ12 44 v40 v10 (fun σ41 => lt (σ41 35 12) (fun v42 => wrA 40 σ41 45 v42 a1 (fun σ43 => lt (σ43 35 12) (fun v44 => st (ss σ43 35 12 (v44 + 1)) (fun σ45 => some (0, σ45))))))))))))) else (some (0, σ7))))))))
set_option maxHeartbeats 4000000 in
set_option maxRecDepth 100000 in
theorem w_X8_content {z : Cz} (X : Cx z cX8_content 5 RX8) (hR : 2 ≤ (zR z).frames ∧ 43 ≤ (zR z).locals) {res : (Int32 × Sg)} (Rt : RtI z cX8_content 5 .int res) (N : Nat) (a1 : Int32) (a2 : Int32) (a3 : Int32) (σ : Sg) (h : f_X8_content N a1 a2 a3 σ = some res) : V z 0 5 0 [(0, .ref (zA z 35)), (1, .int a1), (2, .int a2), (3, .int a3)] [] σ := by
  rw [f_X8_content] at h
  refine r_aload_n X dX8_content_0 rfl 0 rfl ?_
  refine r_aload_n X dX8_content_1 rfl 0 rfl ?_
  refine r_iload_n X dX8_content_2 rfl 1 rfl ?_
  refine r_callV X 35 8 (by decide) rfl rfl rfl lk_X8_81 (c_X8_isElement (zl z) X.2.2.2.2.2.2.2.1 N (zD z) (zy z) (zA z) (zS z) a1 σ) ⟨Nat.le_trans (by decide) hR.1, Nat.le_trans (by decide) hR.2⟩ rfl rfl (Nat.le_of_ble_eq_true rfl) dX8_content_3 h (fun v1 σ2 h => ?_)
  refine r_if_ne X 13 dX8_content_6 (by decide) h (fun g3 h => ?_) (fun g3 h => ?_)
  · refine r_iconst X 1 dX8_content_9 (by decide) ?_
    refine r_goto X 26 dX8_content_10 (by decide) ?_
    refine pf_X8_78 X dX8_content_26 h (fun σ85 h => ?_)
    refine r_aload_n X dX8_content_29 rfl 0 rfl ?_
    refine gf_X8_78 X dX8_content_30 h (fun v86 h => ?_)
    refine r_if_le X 38 dX8_content_33 (by decide) h (fun g87 h => ?_) (fun g87 h => ?_)
    · refine r_bipush X 20 dX8_content_38 (by decide) ?_
      refine r_iload_n X dX8_content_40 rfl 2 rfl ?_
      refine r_imul X dX8_content_41 ?_
      refine r_iload_n X dX8_content_42 rfl 3 rfl ?_
      refine r_iadd X dX8_content_43 ?_
      refine r_lt h (fun v88 h => ?_)
      refine r_istore X [(4, .int v88), (0, .ref (zA z 35)), (1, .int a1), (2, .int a2), (3, .int a3)] dX8_content_44 (by decide) rfl ?_
      refine r_aload_n X dX8_content_46 rfl 1 rfl ?_
      refine r_iload X dX8_content_47 0 rfl ?_
      refine r_callV X 35 8 (by decide) rfl rfl rfl lk_X8_99 (c_X8_ownerOf (zl z) X.2.2.2.2.2.2.2.1 N (zD z) (zy z) (zA z) (zS z) v88 σ85) ⟨Nat.le_trans (by decide) hR.1, Nat.le_trans (by decide) hR.2⟩ rfl rfl (Nat.le_of_ble_eq_true rfl) dX8_content_49 h (fun v89 σ90 h => ?_)
      refine r_iconst X (-1) dX8_content_52 (by decide) ?_
      refine r_icmp_eq X 98 dX8_content_53 (by decide) h (fun g91 h => ?_) (fun g91 h => ?_)
      · refine r_aload_n X dX8_content_98 rfl 1 rfl ?_
        refine r_aload_n X dX8_content_99 rfl 1 rfl ?_
        refine gf_X8_106 X dX8_content_100 h (fun v92 h => ?_)
        refine r_bipush X 100 dX8_content_103 (by decide) ?_
        refine r_icmp_ne X 112 dX8_content_105 (by decide) h (fun g93 h => ?_) (fun g93 h => ?_)
        · refine r_iconst X 3 dX8_content_108 (by decide) ?_
          refine r_goto X 113 dX8_content_109 (by decide) ?_
          refine pf_X8_78 X dX8_content_113 h (fun σ105 h => ?_)
          refine r_aload_n X dX8_content_116 rfl 1 rfl ?_
          refine gf_X8_78 X dX8_content_117 h (fun v106 h => ?_)
          refine r_if_le X 125 dX8_content_120 (by decide) h (fun g107 h => ?_) (fun g107 h => ?_)
          · refine r_aload_n X dX8_content_125 rfl 1 rfl ?_
            refine r_dup X dX8_content_126 rfl ?_
            refine gf_X8_106 X dX8_content_127 h (fun v108 h => ?_)
            refine r_iconst X 1 dX8_content_130 (by decide) ?_
            refine r_iadd X dX8_content_131 ?_
            refine pf_X8_106 X dX8_content_132 h (fun σ109 h => ?_)
            refine r_aload_n X dX8_content_135 rfl 1 rfl ?_
            refine gf_X8_33 X dX8_content_136 ?_
            refine r_aload_n X dX8_content_139 rfl 1 rfl ?_
            refine gf_X8_89 X dX8_content_140 h (fun v110 h => ?_)
            refine r_iload_n X dX8_content_143 rfl 2 rfl ?_
            refine as_42 X dX8_content_144 h (fun σ111 h => ?_)
            refine r_aload_n X dX8_content_145 rfl 1 rfl ?_
            refine gf_X8_36 X dX8_content_146 ?_
            refine r_aload_n X dX8_content_149 rfl 1 rfl ?_
            refine gf_X8_89 X dX8_content_150 h (fun v112 h => ?_)
            refine r_sipush X 1000 dX8_content_153 (by decide) ?_
            refine r_iload X dX8_content_156 0 rfl ?_
            refine r_iadd X dX8_content_158 ?_
            refine as_43 X dX8_content_159 h (fun σ113 h => ?_)
            refine r_aload_n X dX8_content_160 rfl 1 rfl ?_
            refine r_dup X dX8_content_161 rfl ?_
            refine gf_X8_89 X dX8_content_162 h (fun v114 h => ?_)
            refine r_iconst X 1 dX8_content_165 (by decide) ?_
            refine r_iadd X dX8_content_166 ?_
            refine pf_X8_89 X dX8_content_167 h (fun σ115 h => ?_)
            refine r_iconst X 1 dX8_content_170 (by decide) ?_
            exact r_iret Rt dX8_content_171 h
          · refine r_iconst X 0 dX8_content_123 (by decide) ?_
            exact r_iret Rt dX8_content_124 h
        · refine r_iconst X 0 dX8_content_112 (by decide) ?_
          refine pf_X8_78 X dX8_content_113 h (fun σ94 h => ?_)
          refine r_aload_n X dX8_content_116 rfl 1 rfl ?_
          refine gf_X8_78 X dX8_content_117 h (fun v95 h => ?_)
          refine r_if_le X 125 dX8_content_120 (by decide) h (fun g96 h => ?_) (fun g96 h => ?_)
          · refine r_aload_n X dX8_content_125 rfl 1 rfl ?_
            refine r_dup X dX8_content_126 rfl ?_
            refine gf_X8_106 X dX8_content_127 h (fun v97 h => ?_)
            refine r_iconst X 1 dX8_content_130 (by decide) ?_
            refine r_iadd X dX8_content_131 ?_
            refine pf_X8_106 X dX8_content_132 h (fun σ98 h => ?_)
            refine r_aload_n X dX8_content_135 rfl 1 rfl ?_
            refine gf_X8_33 X dX8_content_136 ?_
            refine r_aload_n X dX8_content_139 rfl 1 rfl ?_
            refine gf_X8_89 X dX8_content_140 h (fun v99 h => ?_)
            refine r_iload_n X dX8_content_143 rfl 2 rfl ?_
            refine as_42 X dX8_content_144 h (fun σ100 h => ?_)
            refine r_aload_n X dX8_content_145 rfl 1 rfl ?_
            refine gf_X8_36 X dX8_content_146 ?_
            refine r_aload_n X dX8_content_149 rfl 1 rfl ?_
            refine gf_X8_89 X dX8_content_150 h (fun v101 h => ?_)
            refine r_sipush X 1000 dX8_content_153 (by decide) ?_
            refine r_iload X dX8_content_156 0 rfl ?_
            refine r_iadd X dX8_content_158 ?_
            refine as_43 X dX8_content_159 h (fun σ102 h => ?_)
            refine r_aload_n X dX8_content_160 rfl 1 rfl ?_
            refine r_dup X dX8_content_161 rfl ?_
            refine gf_X8_89 X dX8_content_162 h (fun v103 h => ?_)
            refine r_iconst X 1 dX8_content_165 (by decide) ?_
            refine r_iadd X dX8_content_166 ?_
            refine pf_X8_89 X dX8_content_167 h (fun σ104 h => ?_)
            refine r_iconst X 1 dX8_content_170 (by decide) ?_
            exact r_iret Rt dX8_content_171 h
          · refine r_iconst X 0 dX8_content_123 (by decide) ?_
            exact r_iret Rt dX8_content_124 h
      · refine r_aload_n X dX8_content_56 rfl 1 rfl ?_
        refine gf_X8_103 X dX8_content_57 h (fun v116 h => ?_)
        refine r_bipush X 40 dX8_content_60 (by decide) ?_
        refine r_icmp_ge X 96 dX8_content_62 (by decide) h (fun g117 h => ?_) (fun g117 h => ?_)
        · refine r_iconst X 0 dX8_content_96 (by decide) ?_
          exact r_iret Rt dX8_content_97 h
        · refine r_aload_n X dX8_content_65 rfl 1 rfl ?_
          refine gf_X8_39 X dX8_content_66 ?_
          refine r_aload_n X dX8_content_69 rfl 1 rfl ?_
          refine gf_X8_103 X dX8_content_70 h (fun v118 h => ?_)
          refine r_iload X dX8_content_73 0 rfl ?_
          refine as_44 X dX8_content_75 h (fun σ119 h => ?_)
          refine r_aload_n X dX8_content_76 rfl 1 rfl ?_
          refine gf_X8_42 X dX8_content_77 ?_
          refine r_aload_n X dX8_content_80 rfl 1 rfl ?_
          refine gf_X8_103 X dX8_content_81 h (fun v120 h => ?_)
          refine r_iload_n X dX8_content_84 rfl 2 rfl ?_
          refine as_45 X dX8_content_85 h (fun σ121 h => ?_)
          refine r_aload_n X dX8_content_86 rfl 1 rfl ?_
          refine r_dup X dX8_content_87 rfl ?_
          refine gf_X8_103 X dX8_content_88 h (fun v122 h => ?_)
          refine r_iconst X 1 dX8_content_91 (by decide) ?_
          refine r_iadd X dX8_content_92 ?_
          refine pf_X8_103 X dX8_content_93 h (fun σ123 h => ?_)
          refine r_iconst X 0 dX8_content_96 (by decide) ?_
          exact r_iret Rt dX8_content_97 h
    · refine r_iconst X 0 dX8_content_36 (by decide) ?_
      exact r_iret Rt dX8_content_37 h
  · refine r_iload_n X dX8_content_13 rfl 2 rfl ?_
    refine r_iload_n X dX8_content_14 rfl 3 rfl ?_
    refine r_callS X lk_X8_96 (c_X8_isPart (zl z) X.2.2.2.2.2.2.2.1 N (zD z) (zy z) (zA z) (zS z) a2 a3 σ2) ⟨Nat.le_trans (by decide) hR.1, Nat.le_trans (by decide) hR.2⟩ rfl rfl (Nat.le_of_ble_eq_true rfl) dX8_content_15 h (fun v4 σ5 h => ?_)
    refine r_if_ne X 25 dX8_content_18 (by decide) h (fun g6 h => ?_) (fun g6 h => ?_)
    · refine r_iconst X 2 dX8_content_21 (by decide) ?_
      refine r_goto X 26 dX8_content_22 (by decide) ?_
      refine pf_X8_78 X dX8_content_26 h (fun σ46 h => ?_)
      refine r_aload_n X dX8_content_29 rfl 0 rfl ?_
      refine gf_X8_78 X dX8_content_30 h (fun v47 h => ?_)
      refine r_if_le X 38 dX8_content_33 (by decide) h (fun g48 h => ?_) (fun g48 h => ?_)
      · refine r_bipush X 20 dX8_content_38 (by decide) ?_
        refine r_iload_n X dX8_content_40 rfl 2 rfl ?_
        refine r_imul X dX8_content_41 ?_
        refine r_iload_n X dX8_content_42 rfl 3 rfl ?_
        refine r_iadd X dX8_content_43 ?_
        refine r_lt h (fun v49 h => ?_)
        refine r_istore X [(4, .int v49), (0, .ref (zA z 35)), (1, .int a1), (2, .int a2), (3, .int a3)] dX8_content_44 (by decide) rfl ?_
        refine r_aload_n X dX8_content_46 rfl 1 rfl ?_
        refine r_iload X dX8_content_47 0 rfl ?_
        refine r_callV X 35 8 (by decide) rfl rfl rfl lk_X8_99 (c_X8_ownerOf (zl z) X.2.2.2.2.2.2.2.1 N (zD z) (zy z) (zA z) (zS z) v49 σ46) ⟨Nat.le_trans (by decide) hR.1, Nat.le_trans (by decide) hR.2⟩ rfl rfl (Nat.le_of_ble_eq_true rfl) dX8_content_49 h (fun v50 σ51 h => ?_)
        refine r_iconst X (-1) dX8_content_52 (by decide) ?_
        refine r_icmp_eq X 98 dX8_content_53 (by decide) h (fun g52 h => ?_) (fun g52 h => ?_)
        · refine r_aload_n X dX8_content_98 rfl 1 rfl ?_
          refine r_aload_n X dX8_content_99 rfl 1 rfl ?_
          refine gf_X8_106 X dX8_content_100 h (fun v53 h => ?_)
          refine r_bipush X 100 dX8_content_103 (by decide) ?_
          refine r_icmp_ne X 112 dX8_content_105 (by decide) h (fun g54 h => ?_) (fun g54 h => ?_)
          · refine r_iconst X 3 dX8_content_108 (by decide) ?_
            refine r_goto X 113 dX8_content_109 (by decide) ?_
            refine pf_X8_78 X dX8_content_113 h (fun σ66 h => ?_)
            refine r_aload_n X dX8_content_116 rfl 1 rfl ?_
            refine gf_X8_78 X dX8_content_117 h (fun v67 h => ?_)
            refine r_if_le X 125 dX8_content_120 (by decide) h (fun g68 h => ?_) (fun g68 h => ?_)
            · refine r_aload_n X dX8_content_125 rfl 1 rfl ?_
              refine r_dup X dX8_content_126 rfl ?_
              refine gf_X8_106 X dX8_content_127 h (fun v69 h => ?_)
              refine r_iconst X 1 dX8_content_130 (by decide) ?_
              refine r_iadd X dX8_content_131 ?_
              refine pf_X8_106 X dX8_content_132 h (fun σ70 h => ?_)
              refine r_aload_n X dX8_content_135 rfl 1 rfl ?_
              refine gf_X8_33 X dX8_content_136 ?_
              refine r_aload_n X dX8_content_139 rfl 1 rfl ?_
              refine gf_X8_89 X dX8_content_140 h (fun v71 h => ?_)
              refine r_iload_n X dX8_content_143 rfl 2 rfl ?_
              refine as_42 X dX8_content_144 h (fun σ72 h => ?_)
              refine r_aload_n X dX8_content_145 rfl 1 rfl ?_
              refine gf_X8_36 X dX8_content_146 ?_
              refine r_aload_n X dX8_content_149 rfl 1 rfl ?_
              refine gf_X8_89 X dX8_content_150 h (fun v73 h => ?_)
              refine r_sipush X 1000 dX8_content_153 (by decide) ?_
              refine r_iload X dX8_content_156 0 rfl ?_
              refine r_iadd X dX8_content_158 ?_
              refine as_43 X dX8_content_159 h (fun σ74 h => ?_)
              refine r_aload_n X dX8_content_160 rfl 1 rfl ?_
              refine r_dup X dX8_content_161 rfl ?_
              refine gf_X8_89 X dX8_content_162 h (fun v75 h => ?_)
              refine r_iconst X 1 dX8_content_165 (by decide) ?_
              refine r_iadd X dX8_content_166 ?_
              refine pf_X8_89 X dX8_content_167 h (fun σ76 h => ?_)
              refine r_iconst X 1 dX8_content_170 (by decide) ?_
              exact r_iret Rt dX8_content_171 h
            · refine r_iconst X 0 dX8_content_123 (by decide) ?_
              exact r_iret Rt dX8_content_124 h
          · refine r_iconst X 0 dX8_content_112 (by decide) ?_
            refine pf_X8_78 X dX8_content_113 h (fun σ55 h => ?_)
            refine r_aload_n X dX8_content_116 rfl 1 rfl ?_
            refine gf_X8_78 X dX8_content_117 h (fun v56 h => ?_)
            refine r_if_le X 125 dX8_content_120 (by decide) h (fun g57 h => ?_) (fun g57 h => ?_)
            · refine r_aload_n X dX8_content_125 rfl 1 rfl ?_
              refine r_dup X dX8_content_126 rfl ?_
              refine gf_X8_106 X dX8_content_127 h (fun v58 h => ?_)
              refine r_iconst X 1 dX8_content_130 (by decide) ?_
              refine r_iadd X dX8_content_131 ?_
              refine pf_X8_106 X dX8_content_132 h (fun σ59 h => ?_)
              refine r_aload_n X dX8_content_135 rfl 1 rfl ?_
              refine gf_X8_33 X dX8_content_136 ?_
              refine r_aload_n X dX8_content_139 rfl 1 rfl ?_
              refine gf_X8_89 X dX8_content_140 h (fun v60 h => ?_)
              refine r_iload_n X dX8_content_143 rfl 2 rfl ?_
              refine as_42 X dX8_content_144 h (fun σ61 h => ?_)
              refine r_aload_n X dX8_content_145 rfl 1 rfl ?_
              refine gf_X8_36 X dX8_content_146 ?_
              refine r_aload_n X dX8_content_149 rfl 1 rfl ?_
              refine gf_X8_89 X dX8_content_150 h (fun v62 h => ?_)
              refine r_sipush X 1000 dX8_content_153 (by decide) ?_
              refine r_iload X dX8_content_156 0 rfl ?_
              refine r_iadd X dX8_content_158 ?_
              refine as_43 X dX8_content_159 h (fun σ63 h => ?_)
              refine r_aload_n X dX8_content_160 rfl 1 rfl ?_
              refine r_dup X dX8_content_161 rfl ?_
              refine gf_X8_89 X dX8_content_162 h (fun v64 h => ?_)
              refine r_iconst X 1 dX8_content_165 (by decide) ?_
              refine r_iadd X dX8_content_166 ?_
              refine pf_X8_89 X dX8_content_167 h (fun σ65 h => ?_)
              refine r_iconst X 1 dX8_content_170 (by decide) ?_
              exact r_iret Rt dX8_content_171 h
            · refine r_iconst X 0 dX8_content_123 (by decide) ?_
              exact r_iret Rt dX8_content_124 h
        · refine r_aload_n X dX8_content_56 rfl 1 rfl ?_
          refine gf_X8_103 X dX8_content_57 h (fun v77 h => ?_)
          refine r_bipush X 40 dX8_content_60 (by decide) ?_
          refine r_icmp_ge X 96 dX8_content_62 (by decide) h (fun g78 h => ?_) (fun g78 h => ?_)
          · refine r_iconst X 0 dX8_content_96 (by decide) ?_
            exact r_iret Rt dX8_content_97 h
          · refine r_aload_n X dX8_content_65 rfl 1 rfl ?_
            refine gf_X8_39 X dX8_content_66 ?_
            refine r_aload_n X dX8_content_69 rfl 1 rfl ?_
            refine gf_X8_103 X dX8_content_70 h (fun v79 h => ?_)
            refine r_iload X dX8_content_73 0 rfl ?_
            refine as_44 X dX8_content_75 h (fun σ80 h => ?_)
            refine r_aload_n X dX8_content_76 rfl 1 rfl ?_
            refine gf_X8_42 X dX8_content_77 ?_
            refine r_aload_n X dX8_content_80 rfl 1 rfl ?_
            refine gf_X8_103 X dX8_content_81 h (fun v81 h => ?_)
            refine r_iload_n X dX8_content_84 rfl 2 rfl ?_
            refine as_45 X dX8_content_85 h (fun σ82 h => ?_)
            refine r_aload_n X dX8_content_86 rfl 1 rfl ?_
            refine r_dup X dX8_content_87 rfl ?_
            refine gf_X8_103 X dX8_content_88 h (fun v83 h => ?_)
            refine r_iconst X 1 dX8_content_91 (by decide) ?_
            refine r_iadd X dX8_content_92 ?_
            refine pf_X8_103 X dX8_content_93 h (fun σ84 h => ?_)
            refine r_iconst X 0 dX8_content_96 (by decide) ?_
            exact r_iret Rt dX8_content_97 h
      · refine r_iconst X 0 dX8_content_36 (by decide) ?_
        exact r_iret Rt dX8_content_37 h
    · refine r_iconst X 0 dX8_content_25 (by decide) ?_
      refine pf_X8_78 X dX8_content_26 h (fun σ7 h => ?_)
      refine r_aload_n X dX8_content_29 rfl 0 rfl ?_
      refine gf_X8_78 X dX8_content_30 h (fun v8 h => ?_)
      refine r_if_le X 38 dX8_content_33 (by decide) h (fun g9 h => ?_) (fun g9 h => ?_)
      · refine r_bipush X 20 dX8_content_38 (by decide) ?_
        refine r_iload_n X dX8_content_40 rfl 2 rfl ?_
        refine r_imul X dX8_content_41 ?_
        refine r_iload_n X dX8_content_42 rfl 3 rfl ?_
        refine r_iadd X dX8_content_43 ?_
        refine r_lt h (fun v10 h => ?_)
        refine r_istore X [(4, .int v10), (0, .ref (zA z 35)), (1, .int a1), (2, .int a2), (3, .int a3)] dX8_content_44 (by decide) rfl ?_
        refine r_aload_n X dX8_content_46 rfl 1 rfl ?_
        refine r_iload X dX8_content_47 0 rfl ?_
        refine r_callV X 35 8 (by decide) rfl rfl rfl lk_X8_99 (c_X8_ownerOf (zl z) X.2.2.2.2.2.2.2.1 N (zD z) (zy z) (zA z) (zS z) v10 σ7) ⟨Nat.le_trans (by decide) hR.1, Nat.le_trans (by decide) hR.2⟩ rfl rfl (Nat.le_of_ble_eq_true rfl) dX8_content_49 h (fun v11 σ12 h => ?_)
        refine r_iconst X (-1) dX8_content_52 (by decide) ?_
        refine r_icmp_eq X 98 dX8_content_53 (by decide) h (fun g13 h => ?_) (fun g13 h => ?_)
        · refine r_aload_n X dX8_content_98 rfl 1 rfl ?_
          refine r_aload_n X dX8_content_99 rfl 1 rfl ?_
          refine gf_X8_106 X dX8_content_100 h (fun v14 h => ?_)
          refine r_bipush X 100 dX8_content_103 (by decide) ?_
          refine r_icmp_ne X 112 dX8_content_105 (by decide) h (fun g15 h => ?_) (fun g15 h => ?_)
          · refine r_iconst X 3 dX8_content_108 (by decide) ?_
            refine r_goto X 113 dX8_content_109 (by decide) ?_
            refine pf_X8_78 X dX8_content_113 h (fun σ27 h => ?_)
            refine r_aload_n X dX8_content_116 rfl 1 rfl ?_
            refine gf_X8_78 X dX8_content_117 h (fun v28 h => ?_)
            refine r_if_le X 125 dX8_content_120 (by decide) h (fun g29 h => ?_) (fun g29 h => ?_)
            · refine r_aload_n X dX8_content_125 rfl 1 rfl ?_
              refine r_dup X dX8_content_126 rfl ?_
              refine gf_X8_106 X dX8_content_127 h (fun v30 h => ?_)
              refine r_iconst X 1 dX8_content_130 (by decide) ?_
              refine r_iadd X dX8_content_131 ?_
              refine pf_X8_106 X dX8_content_132 h (fun σ31 h => ?_)
              refine r_aload_n X dX8_content_135 rfl 1 rfl ?_
              refine gf_X8_33 X dX8_content_136 ?_
              refine r_aload_n X dX8_content_139 rfl 1 rfl ?_
              refine gf_X8_89 X dX8_content_140 h (fun v32 h => ?_)
              refine r_iload_n X dX8_content_143 rfl 2 rfl ?_
              refine as_42 X dX8_content_144 h (fun σ33 h => ?_)
              refine r_aload_n X dX8_content_145 rfl 1 rfl ?_
              refine gf_X8_36 X dX8_content_146 ?_
              refine r_aload_n X dX8_content_149 rfl 1 rfl ?_
              refine gf_X8_89 X dX8_content_150 h (fun v34 h => ?_)
              refine r_sipush X 1000 dX8_content_153 (by decide) ?_
              refine r_iload X dX8_content_156 0 rfl ?_
              refine r_iadd X dX8_content_158 ?_
              refine as_43 X dX8_content_159 h (fun σ35 h => ?_)
              refine r_aload_n X dX8_content_160 rfl 1 rfl ?_
              refine r_dup X dX8_content_161 rfl ?_
              refine gf_X8_89 X dX8_content_162 h (fun v36 h => ?_)
              refine r_iconst X 1 dX8_content_165 (by decide) ?_
              refine r_iadd X dX8_content_166 ?_
              refine pf_X8_89 X dX8_content_167 h (fun σ37 h => ?_)
              refine r_iconst X 1 dX8_content_170 (by decide) ?_
              exact r_iret Rt dX8_content_171 h
            · refine r_iconst X 0 dX8_content_123 (by decide) ?_
              exact r_iret Rt dX8_content_124 h
          · refine r_iconst X 0 dX8_content_112 (by decide) ?_
            refine pf_X8_78 X dX8_content_113 h (fun σ16 h => ?_)
            refine r_aload_n X dX8_content_116 rfl 1 rfl ?_
            refine gf_X8_78 X dX8_content_117 h (fun v17 h => ?_)
            refine r_if_le X 125 dX8_content_120 (by decide) h (fun g18 h => ?_) (fun g18 h => ?_)
            · refine r_aload_n X dX8_content_125 rfl 1 rfl ?_
              refine r_dup X dX8_content_126 rfl ?_
              refine gf_X8_106 X dX8_content_127 h (fun v19 h => ?_)
              refine r_iconst X 1 dX8_content_130 (by decide) ?_
              refine r_iadd X dX8_content_131 ?_
              refine pf_X8_106 X dX8_content_132 h (fun σ20 h => ?_)
              refine r_aload_n X dX8_content_135 rfl 1 rfl ?_
              refine gf_X8_33 X dX8_content_136 ?_
              refine r_aload_n X dX8_content_139 rfl 1 rfl ?_
              refine gf_X8_89 X dX8_content_140 h (fun v21 h => ?_)
              refine r_iload_n X dX8_content_143 rfl 2 rfl ?_
              refine as_42 X dX8_content_144 h (fun σ22 h => ?_)
              refine r_aload_n X dX8_content_145 rfl 1 rfl ?_
              refine gf_X8_36 X dX8_content_146 ?_
              refine r_aload_n X dX8_content_149 rfl 1 rfl ?_
              refine gf_X8_89 X dX8_content_150 h (fun v23 h => ?_)
              refine r_sipush X 1000 dX8_content_153 (by decide) ?_
              refine r_iload X dX8_content_156 0 rfl ?_
              refine r_iadd X dX8_content_158 ?_
              refine as_43 X dX8_content_159 h (fun σ24 h => ?_)
              refine r_aload_n X dX8_content_160 rfl 1 rfl ?_
              refine r_dup X dX8_content_161 rfl ?_
              refine gf_X8_89 X dX8_content_162 h (fun v25 h => ?_)
              refine r_iconst X 1 dX8_content_165 (by decide) ?_
              refine r_iadd X dX8_content_166 ?_
              refine pf_X8_89 X dX8_content_167 h (fun σ26 h => ?_)
              refine r_iconst X 1 dX8_content_170 (by decide) ?_
              exact r_iret Rt dX8_content_171 h
            · refine r_iconst X 0 dX8_content_123 (by decide) ?_
              exact r_iret Rt dX8_content_124 h
        · refine r_aload_n X dX8_content_56 rfl 1 rfl ?_
          refine gf_X8_103 X dX8_content_57 h (fun v38 h => ?_)
          refine r_bipush X 40 dX8_content_60 (by decide) ?_
          refine r_icmp_ge X 96 dX8_content_62 (by decide) h (fun g39 h => ?_) (fun g39 h => ?_)
          · refine r_iconst X 0 dX8_content_96 (by decide) ?_
            exact r_iret Rt dX8_content_97 h
          · refine r_aload_n X dX8_content_65 rfl 1 rfl ?_
            refine gf_X8_39 X dX8_content_66 ?_
            refine r_aload_n X dX8_content_69 rfl 1 rfl ?_
            refine gf_X8_103 X dX8_content_70 h (fun v40 h => ?_)
            refine r_iload X dX8_content_73 0 rfl ?_
            refine as_44 X dX8_content_75 h (fun σ41 h => ?_)
            refine r_aload_n X dX8_content_76 rfl 1 rfl ?_
            refine gf_X8_42 X dX8_content_77 ?_
            refine r_aload_n X dX8_content_80 rfl 1 rfl ?_
            refine gf_X8_103 X dX8_content_81 h (fun v42 h => ?_)
            refine r_iload_n X dX8_content_84 rfl 2 rfl ?_
            refine as_45 X dX8_content_85 h (fun σ43 h => ?_)
            refine r_aload_n X dX8_content_86 rfl 1 rfl ?_
            refine r_dup X dX8_content_87 rfl ?_
            refine gf_X8_103 X dX8_content_88 h (fun v44 h => ?_)
            refine r_iconst X 1 dX8_content_91 (by decide) ?_
            refine r_iadd X dX8_content_92 ?_
            refine pf_X8_103 X dX8_content_93 h (fun σ45 h => ?_)
            refine r_iconst X 0 dX8_content_96 (by decide) ?_
            exact r_iret Rt dX8_content_97 h
      · refine r_iconst X 0 dX8_content_36 (by decide) ?_
        exact r_iret Rt dX8_content_37 h
theorem c_X8_content (l : Launch) (hl : l.stackTraces = false) (N : Nat) (D : va_G) (cy : Nat → ClassId) (ad sa : Nat → Nat) (a1 : Int32) (a2 : Int32) (a3 : Int32) (σ : Sg) : CtI l yX8_content cX8_content 5 (some .int) 2 43 D cy ad sa [.ref (ad 35), .int a1, .int a2, .int a3] σ (f_X8_content N a1 a2 a3 σ) :=
  ct_I hl (by decide +kernel) (Nat.le_of_ble_eq_true rfl) (fun z res e1 e2 e3 e4 e5 e6 X Rt h => by subst e1 e2 e3 e4 e5; exact w_X8_content X ⟨e6.1, e6.2⟩ Rt N a1 a2 a3 σ h)
def f_X8_placeOf_7 (N : Nat) (x1 : Int32) (K : Int32 → Sg → Option (Int32 × Sg)) : Nat → Int32 → Int32 → Int32 → Sg → Option (Int32 × Sg)
  | 0, _, _, _, _ => none
  | n + 1, x2, x3, x4, σ => lt (σ 35 15) (fun v1 => if v1 ≤ x4 then (K x3 σ) else (rdA 200 (σ 46) x4 (fun v3 => if (v3 / 20) = (x1 / 20) then (lt (x2 + 1) (fun v9 => rdA 200 (σ 46) x4 (fun v10 => if v10 = x1 then (lt (x4 + 1) (fun v13 => f_X8_placeOf_7 N x1 K n v9 v9 v13 σ)) else (lt (x4 + 1) (fun v12 => f_X8_placeOf_7 N x1 K n v9 x3 v12 σ))))) else (rdA 200 (σ 46) x4 (fun v5 => if v5 = x1 then (lt (x4 + 1) (fun v8 => f_X8_placeOf_7 N x1 K n x2 x2 v8 σ)) else (lt (x4 + 1) (fun v7 => f_X8_placeOf_7 N x1 K n x2 x3 v7 σ)))))))
def f_X8_placeOf (N : Nat) (a1 : Int32) (σ : Sg) : Option (Int32 × Sg) := f_X8_placeOf_7 N a1 (fun v14 σ15 => some (v14, σ15)) N 0 0 0 σ
set_option maxHeartbeats 4000000 in
set_option maxRecDepth 100000 in
theorem w_X8_placeOf_7 {z : Cz} (X : Cx z cX8_placeOf 5 RX8) (hR : 0 ≤ (zR z).frames ∧ 0 ≤ (zR z).locals) {res : (Int32 × Sg)} (N : Nat) (x1 : Int32) (K : Int32 → Sg → Option (Int32 × Sg)) (kx : ∀ (y3 : Int32) (σ : Sg), K y3 σ = some res → V z 0 5 64 [(3, .int y3)] [] σ) : ∀ (n : Nat) (x2 : Int32) (x3 : Int32) (x4 : Int32) (σ : Sg), f_X8_placeOf_7 N x1 K n x2 x3 x4 σ = some res → V z 0 5 7 [(0, .ref (zA z 35)), (1, .int x1), (2, .int x2), (3, .int x3), (4, .int x4)] [] σ := by
  intro n
  induction n with
  | zero =>
    intro x2 x3 x4 σ h
    rw [f_X8_placeOf_7] at h
    cases h
  | succ n ih =>
    intro x2 x3 x4 σ h
    rw [f_X8_placeOf_7] at h
    refine r_iload X dX8_placeOf_7 4 rfl ?_
    refine r_aload_n X dX8_placeOf_9 rfl 0 rfl ?_
    refine gf_X8_109 X dX8_placeOf_10 h (fun v1 h => ?_)
    refine r_icmp_ge X 64 dX8_placeOf_13 (by decide) h (fun g2 h => ?_) (fun g2 h => ?_)
    · refine r_sub [3] rfl ?_
      exact kx x3 σ h
    · refine r_aload_n X dX8_placeOf_16 rfl 0 rfl ?_
      refine gf_X8_45 X dX8_placeOf_17 ?_
      refine r_iload X dX8_placeOf_20 4 rfl ?_
      refine al_46 X dX8_placeOf_22 h (fun v3 h => ?_)
      refine r_bipush X 20 dX8_placeOf_23 (by decide) ?_
      refine r_idiv X dX8_placeOf_25 (by decide) ?_
      refine r_iload_n X dX8_placeOf_26 rfl 1 rfl ?_
      refine r_bipush X 20 dX8_placeOf_27 (by decide) ?_
      refine r_idiv X dX8_placeOf_29 (by decide) ?_
      refine r_icmp_ne X 39 dX8_placeOf_30 (by decide) h (fun g4 h => ?_) (fun g4 h => ?_)
      · refine r_iload_n X dX8_placeOf_33 rfl 2 rfl ?_
        refine r_iconst X 1 dX8_placeOf_34 (by decide) ?_
        refine r_iadd X dX8_placeOf_35 ?_
        refine r_goto X 40 dX8_placeOf_36 (by decide) ?_
        refine r_lt h (fun v9 h => ?_)
        refine r_istore_n X [(2, .int v9), (0, .ref (zA z 35)), (1, .int x1), (3, .int x3), (4, .int x4)] dX8_placeOf_40 rfl (by decide) rfl ?_
        refine r_aload_n X dX8_placeOf_41 rfl 1 rfl ?_
        refine gf_X8_45 X dX8_placeOf_42 ?_
        refine r_iload X dX8_placeOf_45 4 rfl ?_
        refine al_46 X dX8_placeOf_47 h (fun v10 h => ?_)
        refine r_iload_n X dX8_placeOf_48 rfl 2 rfl ?_
        refine r_icmp_ne X 56 dX8_placeOf_49 (by decide) h (fun g11 h => ?_) (fun g11 h => ?_)
        · refine r_iload_n X dX8_placeOf_52 rfl 0 rfl ?_
          refine r_goto X 57 dX8_placeOf_53 (by decide) ?_
          refine r_istore_n X [(3, .int v9), (2, .int v9), (0, .ref (zA z 35)), (1, .int x1), (4, .int x4)] dX8_placeOf_57 rfl (by decide) rfl ?_
          refine r_iinc X 1 (fun v13 => [(4, .int v13), (3, .int v9), (2, .int v9), (0, .ref (zA z 35)), (1, .int x1)]) dX8_placeOf_58 4 rfl (by decide) (by decide) (fun _ => rfl) h (fun v13 h => ?_)
          refine r_goto X 7 dX8_placeOf_61 (by decide) ?_
          refine r_sub [3, 4, 2, 1, 0] rfl ?_
          exact ih v9 v9 v13 σ h
        · refine r_iload_n X dX8_placeOf_56 rfl 3 rfl ?_
          refine r_istore_n X [(3, .int x3), (2, .int v9), (0, .ref (zA z 35)), (1, .int x1), (4, .int x4)] dX8_placeOf_57 rfl (by decide) rfl ?_
          refine r_iinc X 1 (fun v12 => [(4, .int v12), (3, .int x3), (2, .int v9), (0, .ref (zA z 35)), (1, .int x1)]) dX8_placeOf_58 4 rfl (by decide) (by decide) (fun _ => rfl) h (fun v12 h => ?_)
          refine r_goto X 7 dX8_placeOf_61 (by decide) ?_
          refine r_sub [3, 4, 2, 1, 0] rfl ?_
          exact ih v9 x3 v12 σ h
      · refine r_iload_n X dX8_placeOf_39 rfl 2 rfl ?_
        refine r_istore_n X [(2, .int x2), (0, .ref (zA z 35)), (1, .int x1), (3, .int x3), (4, .int x4)] dX8_placeOf_40 rfl (by decide) rfl ?_
        refine r_aload_n X dX8_placeOf_41 rfl 1 rfl ?_
        refine gf_X8_45 X dX8_placeOf_42 ?_
        refine r_iload X dX8_placeOf_45 4 rfl ?_
        refine al_46 X dX8_placeOf_47 h (fun v5 h => ?_)
        refine r_iload_n X dX8_placeOf_48 rfl 2 rfl ?_
        refine r_icmp_ne X 56 dX8_placeOf_49 (by decide) h (fun g6 h => ?_) (fun g6 h => ?_)
        · refine r_iload_n X dX8_placeOf_52 rfl 0 rfl ?_
          refine r_goto X 57 dX8_placeOf_53 (by decide) ?_
          refine r_istore_n X [(3, .int x2), (2, .int x2), (0, .ref (zA z 35)), (1, .int x1), (4, .int x4)] dX8_placeOf_57 rfl (by decide) rfl ?_
          refine r_iinc X 1 (fun v8 => [(4, .int v8), (3, .int x2), (2, .int x2), (0, .ref (zA z 35)), (1, .int x1)]) dX8_placeOf_58 4 rfl (by decide) (by decide) (fun _ => rfl) h (fun v8 h => ?_)
          refine r_goto X 7 dX8_placeOf_61 (by decide) ?_
          refine r_sub [3, 4, 2, 1, 0] rfl ?_
          exact ih x2 x2 v8 σ h
        · refine r_iload_n X dX8_placeOf_56 rfl 3 rfl ?_
          refine r_istore_n X [(3, .int x3), (2, .int x2), (0, .ref (zA z 35)), (1, .int x1), (4, .int x4)] dX8_placeOf_57 rfl (by decide) rfl ?_
          refine r_iinc X 1 (fun v7 => [(4, .int v7), (3, .int x3), (2, .int x2), (0, .ref (zA z 35)), (1, .int x1)]) dX8_placeOf_58 4 rfl (by decide) (by decide) (fun _ => rfl) h (fun v7 h => ?_)
          refine r_goto X 7 dX8_placeOf_61 (by decide) ?_
          refine r_sub [3, 4, 2, 1, 0] rfl ?_
          exact ih x2 x3 v7 σ h
set_option maxHeartbeats 4000000 in
set_option maxRecDepth 100000 in
theorem w_X8_placeOf {z : Cz} (X : Cx z cX8_placeOf 5 RX8) (hR : 0 ≤ (zR z).frames ∧ 0 ≤ (zR z).locals) {res : (Int32 × Sg)} (Rt : RtI z cX8_placeOf 5 .int res) (N : Nat) (a1 : Int32) (σ : Sg) (h : f_X8_placeOf N a1 σ = some res) : V z 0 5 0 [(0, .ref (zA z 35)), (1, .int a1)] [] σ := by
  rw [f_X8_placeOf] at h
  refine r_iconst X 0 dX8_placeOf_0 (by decide) ?_
  refine r_istore_n X [(2, .int 0), (0, .ref (zA z 35)), (1, .int a1)] dX8_placeOf_1 rfl (by decide) rfl ?_
  refine r_iconst X 0 dX8_placeOf_2 (by decide) ?_
  refine r_istore_n X [(3, .int 0), (2, .int 0), (0, .ref (zA z 35)), (1, .int a1)] dX8_placeOf_3 rfl (by decide) rfl ?_
  refine r_iconst X 0 dX8_placeOf_4 (by decide) ?_
  refine r_istore X [(4, .int 0), (3, .int 0), (2, .int 0), (0, .ref (zA z 35)), (1, .int a1)] dX8_placeOf_5 (by decide) rfl ?_
  refine r_sub [3, 4, 2, 1, 0] rfl ?_
  refine w_X8_placeOf_7 X hR N a1 _ (fun v14 σ15 h => ?_) N 0 0 0 σ h
  refine r_iload_n X dX8_placeOf_64 rfl 0 rfl ?_
  exact r_iret Rt dX8_placeOf_65 h
theorem c_X8_placeOf (l : Launch) (hl : l.stackTraces = false) (N : Nat) (D : va_G) (cy : Nat → ClassId) (ad sa : Nat → Nat) (a1 : Int32) (σ : Sg) : CtI l yX8_placeOf cX8_placeOf 5 (some .int) 0 0 D cy ad sa [.ref (ad 35), .int a1] σ (f_X8_placeOf N a1 σ) :=
  ct_I hl (by decide +kernel) (Nat.le_of_ble_eq_true rfl) (fun z res e1 e2 e3 e4 e5 e6 X Rt h => by subst e1 e2 e3 e4 e5; exact w_X8_placeOf X ⟨e6.1, e6.2⟩ Rt N a1 σ h)
def f_X8_shows (N : Nat) (a1 : Int32) (a2 : Int32) (σ : Sg) : Option (Int32 × Sg) := cI (f_X8_isPart N a1 a2 σ) (fun v1 σ2 => if v1 = 0 then (st (ss σ2 35 0 1) (fun σ4 => lt ((20 * a1) + a2) (fun v5 => lt (σ4 35 0) (fun v6 => if 0 < v6 then (some (0, σ4)) else (cI (f_X8_placeOf N v5 σ4) (fun v8 σ9 => if v8 ≤ 0 then (lt (σ9 35 15) (fun v11 => wrA 200 σ9 46 v11 v5 (fun σ12 => lt (σ12 35 15) (fun v13 => st (ss σ12 35 15 (v13 + 1)) (fun σ14 => cI (f_X8_placeOf N v5 σ14) (fun v15 σ16 => some (v15, σ16))))))) else (some (0, σ9)))))))) else (st (ss σ2 35 0 0) (fun σ17 => lt ((20 * a1) + a2) (fun v18 => lt (σ17 35 0) (fun v19 => if 0 < v19 then (some (0, σ17)) else (cI (f_X8_placeOf N v18 σ17) (fun v21 σ22 => if v21 ≤ 0 then (lt (σ22 35 15) (fun v24 => wrA 200 σ22 46 v24 v18 (fun σ25 => lt (σ25 35 15) (fun v26 => st (ss σ25 35 15 (v26 + 1)) (fun σ27 => cI (f_X8_placeOf N v18 σ27) (fun v28 σ29 => some (v28, σ29))))))) else (some (0, σ22)))))))))
set_option maxHeartbeats 4000000 in
set_option maxRecDepth 100000 in
theorem w_X8_shows {z : Cz} (X : Cx z cX8_shows 4 RX8) (hR : 2 ≤ (zR z).frames ∧ 43 ≤ (zR z).locals) {res : (Int32 × Sg)} (Rt : RtI z cX8_shows 4 .int res) (N : Nat) (a1 : Int32) (a2 : Int32) (σ : Sg) (h : f_X8_shows N a1 a2 σ = some res) : V z 0 4 0 [(0, .ref (zA z 35)), (1, .int a1), (2, .int a2)] [] σ := by
  rw [f_X8_shows] at h
  refine r_aload_n X dX8_shows_0 rfl 0 rfl ?_
  refine r_iload_n X dX8_shows_1 rfl 1 rfl ?_
  refine r_iload_n X dX8_shows_2 rfl 2 rfl ?_
  refine r_callS X lk_X8_96 (c_X8_isPart (zl z) X.2.2.2.2.2.2.2.1 N (zD z) (zy z) (zA z) (zS z) a1 a2 σ) ⟨Nat.le_trans (by decide) hR.1, Nat.le_trans (by decide) hR.2⟩ rfl rfl (Nat.le_of_ble_eq_true rfl) dX8_shows_3 h (fun v1 σ2 h => ?_)
  refine r_if_eq X 13 dX8_shows_6 (by decide) h (fun g3 h => ?_) (fun g3 h => ?_)
  · refine r_iconst X 1 dX8_shows_13 (by decide) ?_
    refine pf_X8_78 X dX8_shows_14 h (fun σ4 h => ?_)
    refine r_bipush X 20 dX8_shows_17 (by decide) ?_
    refine r_iload_n X dX8_shows_19 rfl 1 rfl ?_
    refine r_imul X dX8_shows_20 ?_
    refine r_iload_n X dX8_shows_21 rfl 2 rfl ?_
    refine r_iadd X dX8_shows_22 ?_
    refine r_lt h (fun v5 h => ?_)
    refine r_istore_n X [(3, .int v5), (0, .ref (zA z 35)), (1, .int a1), (2, .int a2)] dX8_shows_23 rfl (by decide) rfl ?_
    refine r_aload_n X dX8_shows_24 rfl 1 rfl ?_
    refine gf_X8_78 X dX8_shows_25 h (fun v6 h => ?_)
    refine r_if_gt X 39 dX8_shows_28 (by decide) h (fun g7 h => ?_) (fun g7 h => ?_)
    · refine r_iconst X 0 dX8_shows_39 (by decide) ?_
      exact r_iret Rt dX8_shows_40 h
    · refine r_aload_n X dX8_shows_31 rfl 1 rfl ?_
      refine r_iload_n X dX8_shows_32 rfl 0 rfl ?_
      refine r_callV X 35 8 (by decide) rfl rfl rfl lk_X8_112 (c_X8_placeOf (zl z) X.2.2.2.2.2.2.2.1 N (zD z) (zy z) (zA z) (zS z) v5 σ4) ⟨Nat.le_trans (by decide) hR.1, Nat.le_trans (by decide) hR.2⟩ rfl rfl (Nat.le_of_ble_eq_true rfl) dX8_shows_33 h (fun v8 σ9 h => ?_)
      refine r_if_le X 41 dX8_shows_36 (by decide) h (fun g10 h => ?_) (fun g10 h => ?_)
      · refine r_aload_n X dX8_shows_41 rfl 1 rfl ?_
        refine gf_X8_45 X dX8_shows_42 ?_
        refine r_aload_n X dX8_shows_45 rfl 1 rfl ?_
        refine gf_X8_109 X dX8_shows_46 h (fun v11 h => ?_)
        refine r_iload_n X dX8_shows_49 rfl 0 rfl ?_
        refine as_46 X dX8_shows_50 h (fun σ12 h => ?_)
        refine r_aload_n X dX8_shows_51 rfl 1 rfl ?_
        refine r_dup X dX8_shows_52 rfl ?_
        refine gf_X8_109 X dX8_shows_53 h (fun v13 h => ?_)
        refine r_iconst X 1 dX8_shows_56 (by decide) ?_
        refine r_iadd X dX8_shows_57 ?_
        refine pf_X8_109 X dX8_shows_58 h (fun σ14 h => ?_)
        refine r_aload_n X dX8_shows_61 rfl 1 rfl ?_
        refine r_iload_n X dX8_shows_62 rfl 0 rfl ?_
        refine r_callV X 35 8 (by decide) rfl rfl rfl lk_X8_112 (c_X8_placeOf (zl z) X.2.2.2.2.2.2.2.1 N (zD z) (zy z) (zA z) (zS z) v5 σ14) ⟨Nat.le_trans (by decide) hR.1, Nat.le_trans (by decide) hR.2⟩ rfl rfl (Nat.le_of_ble_eq_true rfl) dX8_shows_63 h (fun v15 σ16 h => ?_)
        exact r_iret Rt dX8_shows_66 h
      · refine r_iconst X 0 dX8_shows_39 (by decide) ?_
        exact r_iret Rt dX8_shows_40 h
  · refine r_iconst X 0 dX8_shows_9 (by decide) ?_
    refine r_goto X 14 dX8_shows_10 (by decide) ?_
    refine pf_X8_78 X dX8_shows_14 h (fun σ17 h => ?_)
    refine r_bipush X 20 dX8_shows_17 (by decide) ?_
    refine r_iload_n X dX8_shows_19 rfl 1 rfl ?_
    refine r_imul X dX8_shows_20 ?_
    refine r_iload_n X dX8_shows_21 rfl 2 rfl ?_
    refine r_iadd X dX8_shows_22 ?_
    refine r_lt h (fun v18 h => ?_)
    refine r_istore_n X [(3, .int v18), (0, .ref (zA z 35)), (1, .int a1), (2, .int a2)] dX8_shows_23 rfl (by decide) rfl ?_
    refine r_aload_n X dX8_shows_24 rfl 1 rfl ?_
    refine gf_X8_78 X dX8_shows_25 h (fun v19 h => ?_)
    refine r_if_gt X 39 dX8_shows_28 (by decide) h (fun g20 h => ?_) (fun g20 h => ?_)
    · refine r_iconst X 0 dX8_shows_39 (by decide) ?_
      exact r_iret Rt dX8_shows_40 h
    · refine r_aload_n X dX8_shows_31 rfl 1 rfl ?_
      refine r_iload_n X dX8_shows_32 rfl 0 rfl ?_
      refine r_callV X 35 8 (by decide) rfl rfl rfl lk_X8_112 (c_X8_placeOf (zl z) X.2.2.2.2.2.2.2.1 N (zD z) (zy z) (zA z) (zS z) v18 σ17) ⟨Nat.le_trans (by decide) hR.1, Nat.le_trans (by decide) hR.2⟩ rfl rfl (Nat.le_of_ble_eq_true rfl) dX8_shows_33 h (fun v21 σ22 h => ?_)
      refine r_if_le X 41 dX8_shows_36 (by decide) h (fun g23 h => ?_) (fun g23 h => ?_)
      · refine r_aload_n X dX8_shows_41 rfl 1 rfl ?_
        refine gf_X8_45 X dX8_shows_42 ?_
        refine r_aload_n X dX8_shows_45 rfl 1 rfl ?_
        refine gf_X8_109 X dX8_shows_46 h (fun v24 h => ?_)
        refine r_iload_n X dX8_shows_49 rfl 0 rfl ?_
        refine as_46 X dX8_shows_50 h (fun σ25 h => ?_)
        refine r_aload_n X dX8_shows_51 rfl 1 rfl ?_
        refine r_dup X dX8_shows_52 rfl ?_
        refine gf_X8_109 X dX8_shows_53 h (fun v26 h => ?_)
        refine r_iconst X 1 dX8_shows_56 (by decide) ?_
        refine r_iadd X dX8_shows_57 ?_
        refine pf_X8_109 X dX8_shows_58 h (fun σ27 h => ?_)
        refine r_aload_n X dX8_shows_61 rfl 1 rfl ?_
        refine r_iload_n X dX8_shows_62 rfl 0 rfl ?_
        refine r_callV X 35 8 (by decide) rfl rfl rfl lk_X8_112 (c_X8_placeOf (zl z) X.2.2.2.2.2.2.2.1 N (zD z) (zy z) (zA z) (zS z) v18 σ27) ⟨Nat.le_trans (by decide) hR.1, Nat.le_trans (by decide) hR.2⟩ rfl rfl (Nat.le_of_ble_eq_true rfl) dX8_shows_63 h (fun v28 σ29 h => ?_)
        exact r_iret Rt dX8_shows_66 h
      · refine r_iconst X 0 dX8_shows_39 (by decide) ?_
        exact r_iret Rt dX8_shows_40 h
theorem c_X8_shows (l : Launch) (hl : l.stackTraces = false) (N : Nat) (D : va_G) (cy : Nat → ClassId) (ad sa : Nat → Nat) (a1 : Int32) (a2 : Int32) (σ : Sg) : CtI l yX8_shows cX8_shows 4 (some .int) 2 43 D cy ad sa [.ref (ad 35), .int a1, .int a2] σ (f_X8_shows N a1 a2 σ) :=
  ct_I hl (by decide +kernel) (Nat.le_of_ble_eq_true rfl) (fun z res e1 e2 e3 e4 e5 e6 X Rt h => by subst e1 e2 e3 e4 e5; exact w_X8_shows X ⟨e6.1, e6.2⟩ Rt N a1 a2 σ h)
def f_X8_is (N : Nat) (a1 : Int32) (a2 : Int32) (σ : Sg) : Option (Int32 × Sg) := rdA 60 (σ 36) a1 (fun v1 => cI (f_X8_standardOf N v1 σ) (fun v2 σ3 => if v2 = a2 then (some (1, σ3)) else (some (0, σ3))))
set_option maxHeartbeats 4000000 in
set_option maxRecDepth 100000 in
theorem w_X8_is {z : Cz} (X : Cx z cX8_is 3 RX8) (hR : 1 ≤ (zR z).frames ∧ 22 ≤ (zR z).locals) {res : (Int32 × Sg)} (Rt : RtI z cX8_is 3 .boolean res) (N : Nat) (a1 : Int32) (a2 : Int32) (σ : Sg) (h : f_X8_is N a1 a2 σ = some res) : V z 0 3 0 [(0, .ref (zA z 35)), (1, .int a1), (2, .int a2)] [] σ := by
  rw [f_X8_is] at h
  refine r_aload_n X dX8_is_0 rfl 0 rfl ?_
  refine r_aload_n X dX8_is_1 rfl 0 rfl ?_
  refine gf_X8_13 X dX8_is_2 ?_
  refine r_iload_n X dX8_is_5 rfl 1 rfl ?_
  refine al_36 X dX8_is_6 h (fun v1 h => ?_)
  refine r_callV X 35 8 (by decide) rfl rfl rfl lk_X8_115 (c_X8_standardOf (zl z) X.2.2.2.2.2.2.2.1 N (zD z) (zy z) (zA z) (zS z) v1 σ) ⟨Nat.le_trans (by decide) hR.1, Nat.le_trans (by decide) hR.2⟩ rfl rfl (Nat.le_of_ble_eq_true rfl) dX8_is_7 h (fun v2 σ3 h => ?_)
  refine r_iload_n X dX8_is_10 rfl 2 rfl ?_
  refine r_icmp_ne X 18 dX8_is_11 (by decide) h (fun g4 h => ?_) (fun g4 h => ?_)
  · refine r_iconst X 1 dX8_is_14 (by decide) ?_
    refine r_goto X 19 dX8_is_15 (by decide) ?_
    exact r_zretC Rt dX8_is_19 (by decide) h
  · refine r_iconst X 0 dX8_is_18 (by decide) ?_
    exact r_zretC Rt dX8_is_19 (by decide) h
theorem c_X8_is (l : Launch) (hl : l.stackTraces = false) (N : Nat) (D : va_G) (cy : Nat → ClassId) (ad sa : Nat → Nat) (a1 : Int32) (a2 : Int32) (σ : Sg) : CtI l yX8_is cX8_is 3 (some .boolean) 1 22 D cy ad sa [.ref (ad 35), .int a1, .int a2] σ (f_X8_is N a1 a2 σ) :=
  ct_I hl (by decide +kernel) (Nat.le_of_ble_eq_true rfl) (fun z res e1 e2 e3 e4 e5 e6 X Rt h => by subst e1 e2 e3 e4 e5; exact w_X8_is X ⟨e6.1, e6.2⟩ Rt N a1 a2 σ h)
def f_X8_nextKid_2 (N : Nat) (x1 : Int32) (K : Int32 → Sg → Option (Int32 × Sg)) : Nat → Int32 → Sg → Option (Int32 × Sg)
  | 0, _, _ => none
  | n + 1, x3, σ => lt (σ 35 8) (fun v1 => if v1 ≤ x3 then (K x3 σ) else (rdA 160 (σ 42) x3 (fun v3 => if v3 = x1 then (K x3 σ) else (lt (x3 + 1) (fun v5 => f_X8_nextKid_2 N x1 K n v5 σ)))))
def f_X8_nextKid (N : Nat) (a1 : Int32) (a2 : Int32) (σ : Sg) : Option (Int32 × Sg) := f_X8_nextKid_2 N a1 (fun v6 σ7 => some (v6, σ7)) N a2 σ
set_option maxHeartbeats 4000000 in
set_option maxRecDepth 100000 in
theorem w_X8_nextKid_2 {z : Cz} (X : Cx z cX8_nextKid 4 RX8) (hR : 0 ≤ (zR z).frames ∧ 0 ≤ (zR z).locals) {res : (Int32 × Sg)} (N : Nat) (x1 : Int32) (K : Int32 → Sg → Option (Int32 × Sg)) (kx : ∀ (y3 : Int32) (σ : Sg), K y3 σ = some res → V z 0 4 26 [(3, .int y3)] [] σ) : ∀ (n : Nat) (x3 : Int32) (σ : Sg), f_X8_nextKid_2 N x1 K n x3 σ = some res → V z 0 4 2 [(0, .ref (zA z 35)), (1, .int x1), (3, .int x3)] [] σ := by
  intro n
  induction n with
  | zero =>
    intro x3 σ h
    rw [f_X8_nextKid_2] at h
    cases h
  | succ n ih =>
    intro x3 σ h
    rw [f_X8_nextKid_2] at h
    refine r_iload_n X dX8_nextKid_2 rfl 2 rfl ?_
    refine r_aload_n X dX8_nextKid_3 rfl 0 rfl ?_
    refine gf_X8_89 X dX8_nextKid_4 h (fun v1 h => ?_)
    refine r_icmp_ge X 26 dX8_nextKid_7 (by decide) h (fun g2 h => ?_) (fun g2 h => ?_)
    · refine r_sub [2] rfl ?_
      exact kx x3 σ h
    · refine r_aload_n X dX8_nextKid_10 rfl 0 rfl ?_
      refine gf_X8_33 X dX8_nextKid_11 ?_
      refine r_iload_n X dX8_nextKid_14 rfl 2 rfl ?_
      refine al_42 X dX8_nextKid_15 h (fun v3 h => ?_)
      refine r_iload_n X dX8_nextKid_16 rfl 1 rfl ?_
      refine r_icmp_eq X 26 dX8_nextKid_17 (by decide) h (fun g4 h => ?_) (fun g4 h => ?_)
      · refine r_sub [2] rfl ?_
        exact kx x3 σ h
      · refine r_iinc X 1 (fun v5 => [(3, .int v5), (0, .ref (zA z 35)), (1, .int x1)]) dX8_nextKid_20 2 rfl (by decide) (by decide) (fun _ => rfl) h (fun v5 h => ?_)
        refine r_goto X 2 dX8_nextKid_23 (by decide) ?_
        refine r_sub [1, 2, 0] rfl ?_
        exact ih v5 σ h
set_option maxHeartbeats 4000000 in
set_option maxRecDepth 100000 in
theorem w_X8_nextKid {z : Cz} (X : Cx z cX8_nextKid 4 RX8) (hR : 0 ≤ (zR z).frames ∧ 0 ≤ (zR z).locals) {res : (Int32 × Sg)} (Rt : RtI z cX8_nextKid 4 .int res) (N : Nat) (a1 : Int32) (a2 : Int32) (σ : Sg) (h : f_X8_nextKid N a1 a2 σ = some res) : V z 0 4 0 [(0, .ref (zA z 35)), (1, .int a1), (2, .int a2)] [] σ := by
  rw [f_X8_nextKid] at h
  refine r_iload_n X dX8_nextKid_0 rfl 2 rfl ?_
  refine r_istore_n X [(3, .int a2), (0, .ref (zA z 35)), (1, .int a1), (2, .int a2)] dX8_nextKid_1 rfl (by decide) rfl ?_
  refine r_sub [1, 2, 0] rfl ?_
  refine w_X8_nextKid_2 X hR N a1 _ (fun v6 σ7 h => ?_) N a2 σ h
  refine r_iload_n X dX8_nextKid_26 rfl 0 rfl ?_
  exact r_iret Rt dX8_nextKid_27 h
theorem c_X8_nextKid (l : Launch) (hl : l.stackTraces = false) (N : Nat) (D : va_G) (cy : Nat → ClassId) (ad sa : Nat → Nat) (a1 : Int32) (a2 : Int32) (σ : Sg) : CtI l yX8_nextKid cX8_nextKid 4 (some .int) 0 0 D cy ad sa [.ref (ad 35), .int a1, .int a2] σ (f_X8_nextKid N a1 a2 σ) :=
  ct_I hl (by decide +kernel) (Nat.le_of_ble_eq_true rfl) (fun z res e1 e2 e3 e4 e5 e6 X Rt h => by subst e1 e2 e3 e4 e5; exact w_X8_nextKid X ⟨e6.1, e6.2⟩ Rt N a1 a2 σ h)
def f_X8_meet (N : Nat) (a1 : Int32) (a2 : Int32) (σ : Sg) : Option (Int32 × Sg) := lt (σ 35 17) (fun v1 => wrA 160 σ 47 v1 a1 (fun σ2 => lt (σ2 35 17) (fun v3 => wrA 160 σ2 48 v3 a2 (fun σ4 => lt (σ4 35 17) (fun v5 => st (ss σ4 35 17 (v5 + 1)) (fun σ6 => some (0, σ6)))))))
set_option maxHeartbeats 4000000 in
set_option maxRecDepth 100000 in
theorem w_X8_meet {z : Cz} (X : Cx z cX8_meet 3 RX8) (hR : 0 ≤ (zR z).frames ∧ 0 ≤ (zR z).locals) {res : (Int32 × Sg)} (Rt : RtV z cX8_meet 3 res) (N : Nat) (a1 : Int32) (a2 : Int32) (σ : Sg) (h : f_X8_meet N a1 a2 σ = some res) : V z 0 3 0 [(0, .ref (zA z 35)), (1, .int a1), (2, .int a2)] [] σ := by
  rw [f_X8_meet] at h
  refine r_aload_n X dX8_meet_0 rfl 0 rfl ?_
  refine gf_X8_48 X dX8_meet_1 ?_
  refine r_aload_n X dX8_meet_4 rfl 0 rfl ?_
  refine gf_X8_118 X dX8_meet_5 h (fun v1 h => ?_)
  refine r_iload_n X dX8_meet_8 rfl 1 rfl ?_
  refine as_47 X dX8_meet_9 h (fun σ2 h => ?_)
  refine r_aload_n X dX8_meet_10 rfl 0 rfl ?_
  refine gf_X8_51 X dX8_meet_11 ?_
  refine r_aload_n X dX8_meet_14 rfl 0 rfl ?_
  refine gf_X8_118 X dX8_meet_15 h (fun v3 h => ?_)
  refine r_iload_n X dX8_meet_18 rfl 2 rfl ?_
  refine as_48 X dX8_meet_19 h (fun σ4 h => ?_)
  refine r_aload_n X dX8_meet_20 rfl 0 rfl ?_
  refine r_dup X dX8_meet_21 rfl ?_
  refine gf_X8_118 X dX8_meet_22 h (fun v5 h => ?_)
  refine r_iconst X 1 dX8_meet_25 (by decide) ?_
  refine r_iadd X dX8_meet_26 ?_
  refine pf_X8_118 X dX8_meet_27 h (fun σ6 h => ?_)
  exact r_vret Rt dX8_meet_30 h
theorem c_X8_meet (l : Launch) (hl : l.stackTraces = false) (N : Nat) (D : va_G) (cy : Nat → ClassId) (ad sa : Nat → Nat) (a1 : Int32) (a2 : Int32) (σ : Sg) : CtV l yX8_meet cX8_meet 3 0 0 D cy ad sa [.ref (ad 35), .int a1, .int a2] σ (f_X8_meet N a1 a2 σ) :=
  ct_V hl (by decide +kernel) (Nat.le_of_ble_eq_true rfl) (fun z res e1 e2 e3 e4 e5 e6 X Rt h => by subst e1 e2 e3 e4 e5; exact w_X8_meet X ⟨e6.1, e6.2⟩ Rt N a1 a2 σ h)
def f_X8_go_27 (N : Nat) (K : Sg → Option (Int32 × Sg)) : Nat → Int32 → Sg → Option (Int32 × Sg)
  | 0, _, _ => none
  | n + 1, x1, σ => if x1 < 0 then (K σ) else (rdA 61 (σ 49) x1 (fun v7 => rdA 61 (σ 50) x1 (fun v8 => cI (f_X8_nextKid N v7 v8 σ) (fun v9 σ10 => wrA 61 σ10 50 x1 (v9 + 1) (fun σ11 => lt (σ11 35 8) (fun v12 => if v9 = v12 then (lt (x1 + (-1)) (fun v30 => f_X8_go_27 N K n v30 σ11)) else (rdA 160 (σ11 43) v9 (fun v14 => if v14 < 1000 then (rdA 160 (σ11 43) v9 (fun v16 => cI (f_X8_is N v16 12 σ11) (fun v17 σ18 => if v17 = 0 then (lt (x1 + 1) (fun v20 => rdA 160 (σ18 43) v9 (fun v21 => wrA 61 σ18 49 v20 v21 (fun σ22 => wrA 61 σ22 50 v20 0 (fun σ23 => rdA 160 (σ23 43) v9 (fun v24 => cI (f_X8_meet N v24 v7 σ23) (fun v25 σ26 => f_X8_go_27 N K n v20 σ26))))))) else (f_X8_go_27 N K n x1 σ18)))) else (rdA 160 (σ11 43) v9 (fun v27 => cI (f_X8_meet N v27 v7 σ11) (fun v28 σ29 => f_X8_go_27 N K n x1 σ29)))))))))))
def f_X8_go_208 (N : Nat) (x2 : Int32) (x3 : Int32) (K : Int32 → Sg → Option (Int32 × Sg)) : Nat → Int32 → Int32 → Sg → Option (Int32 × Sg)
  | 0, _, _, _ => none
  | n + 1, x4, x5, σ => if x5 < 0 then (K x4 σ) else (if x4 = 0 then (rdA 60 (σ 51) x5 (fun v49 => rdA 60 (σ 37) v49 (fun v50 => rdA 60 (σ 37) x3 (fun v51 => if v51 ≤ v50 then (lt (x5 + (-1)) (fun v53 => f_X8_go_208 N x2 x3 K n 0 v53 σ)) else (rdA 60 (σ 52) x5 (fun v54 => lt (v54 + 1) (fun v55 => lt (x5 + (-1)) (fun v56 => f_X8_go_208 N x2 x3 K n v55 v56 σ)))))))) else (K x4 σ))
def f_X8_go_157 (N : Nat) (K : Sg → Option (Int32 × Sg)) : Nat → Int32 → Sg → Option (Int32 × Sg)
  | 0, _, _ => none
  | n + 1, x2, σ => lt (σ 35 17) (fun v33 => if v33 ≤ x2 then (K σ) else (rdA 160 (σ 47) x2 (fun v35 => if 1000 ≤ v35 then (lt (x2 + 1) (fun v37 => f_X8_go_157 N K n v37 σ)) else (cI (f_X8_is N v35 2 σ) (fun v38 σ39 => if v38 = 0 then (lt (x2 + 1) (fun v41 => f_X8_go_157 N K n v41 σ39)) else (rdA 60 (σ39 37) v35 (fun v42 => if v42 ≤ 0 then (lt (x2 + 1) (fun v44 => f_X8_go_157 N K n v44 σ39)) else (lt (σ39 35 22) (fun v45 => lt (v45 - 1) (fun v46 => f_X8_go_208 N x2 v35 (fun v57 σ58 => lt (σ58 35 22) (fun v59 => wrA 60 σ58 51 v59 v35 (fun σ60 => lt (σ60 35 22) (fun v61 => wrA 60 σ60 52 v61 v57 (fun σ62 => lt (σ62 35 22) (fun v63 => st (ss σ62 35 22 (v63 + 1)) (fun σ64 => lt (x2 + 1) (fun v65 => f_X8_go_157 N K n v65 σ64)))))))) N 0 v46 σ39))))))))))
def f_X8_go (N : Nat) (σ : Sg) : Option (Int32 × Sg) := st (ss σ 35 17 0) (fun σ1 => wrA 61 σ1 49 0 0 (fun σ2 => wrA 61 σ2 50 0 0 (fun σ3 => cI (f_X8_meet N 0 0 σ3) (fun v4 σ5 => f_X8_go_27 N (fun σ31 => st (ss σ31 35 22 0) (fun σ32 => f_X8_go_157 N (fun σ66 => some (0, σ66)) N 0 σ32)) N 0 σ5))))
set_option maxHeartbeats 4000000 in
set_option maxRecDepth 100000 in
theorem w_X8_go_27 {z : Cz} (X : Cx z cX8_go 6 RX8) (hR : 2 ≤ (zR z).frames ∧ 44 ≤ (zR z).locals) {res : (Int32 × Sg)} (N : Nat) (K : Sg → Option (Int32 × Sg)) (kx : ∀ (σ : Sg), K σ = some res → V z 0 6 150 [(0, .ref (zA z 35))] [] σ) : ∀ (n : Nat) (x1 : Int32) (σ : Sg), f_X8_go_27 N K n x1 σ = some res → V z 0 6 27 [(0, .ref (zA z 35)), (1, .int x1)] [] σ := by
  intro n
  induction n with
  | zero =>
    intro x1 σ h
    rw [f_X8_go_27] at h
    cases h
  | succ n ih =>
    intro x1 σ h
    rw [f_X8_go_27] at h
    refine r_iload_n X dX8_go_27 rfl 1 rfl ?_
    refine r_if_lt X 150 dX8_go_28 (by decide) h (fun g6 h => ?_) (fun g6 h => ?_)
    · refine r_sub [0] rfl ?_
      exact kx  σ h
    · refine r_aload_n X dX8_go_31 rfl 0 rfl ?_
      refine gf_X8_54 X dX8_go_32 ?_
      refine r_iload_n X dX8_go_35 rfl 1 rfl ?_
      refine al_49 X dX8_go_36 h (fun v7 h => ?_)
      refine r_istore_n X [(2, .int v7), (0, .ref (zA z 35)), (1, .int x1)] dX8_go_37 rfl (by decide) rfl ?_
      refine r_aload_n X dX8_go_38 rfl 1 rfl ?_
      refine r_iload_n X dX8_go_39 rfl 0 rfl ?_
      refine r_aload_n X dX8_go_40 rfl 1 rfl ?_
      refine gf_X8_57 X dX8_go_41 ?_
      refine r_iload_n X dX8_go_44 rfl 2 rfl ?_
      refine al_50 X dX8_go_45 h (fun v8 h => ?_)
      refine r_callV X 35 8 (by decide) rfl rfl rfl lk_X8_125 (c_X8_nextKid (zl z) X.2.2.2.2.2.2.2.1 N (zD z) (zy z) (zA z) (zS z) v7 v8 σ) ⟨Nat.le_trans (by decide) hR.1, Nat.le_trans (by decide) hR.2⟩ rfl rfl (Nat.le_of_ble_eq_true rfl) dX8_go_46 h (fun v9 σ10 h => ?_)
      refine r_istore_n X [(3, .int v9), (2, .int v7), (0, .ref (zA z 35)), (1, .int x1)] dX8_go_49 rfl (by decide) rfl ?_
      refine r_aload_n X dX8_go_50 rfl 2 rfl ?_
      refine gf_X8_57 X dX8_go_51 ?_
      refine r_iload_n X dX8_go_54 rfl 3 rfl ?_
      refine r_iload_n X dX8_go_55 rfl 0 rfl ?_
      refine r_iconst X 1 dX8_go_56 (by decide) ?_
      refine r_iadd X dX8_go_57 ?_
      refine as_50 X dX8_go_58 h (fun σ11 h => ?_)
      refine r_iload_n X dX8_go_59 rfl 0 rfl ?_
      refine r_aload_n X dX8_go_60 rfl 2 rfl ?_
      refine gf_X8_89 X dX8_go_61 h (fun v12 h => ?_)
      refine r_icmp_ne X 73 dX8_go_64 (by decide) h (fun g13 h => ?_) (fun g13 h => ?_)
      · refine r_iinc X (-1) (fun v30 => [(1, .int v30), (3, .int v9), (2, .int v7), (0, .ref (zA z 35))]) dX8_go_67 3 rfl (by decide) (by decide) (fun _ => rfl) h (fun v30 h => ?_)
        refine r_goto X 147 dX8_go_70 (by decide) ?_
        refine r_goto X 27 dX8_go_147 (by decide) ?_
        refine r_sub [3, 0] rfl ?_
        exact ih v30 σ11 h
      · refine r_aload_n X dX8_go_73 rfl 2 rfl ?_
        refine gf_X8_36 X dX8_go_74 ?_
        refine r_iload_n X dX8_go_77 rfl 0 rfl ?_
        refine al_43 X dX8_go_78 h (fun v14 h => ?_)
        refine r_sipush X 1000 dX8_go_79 (by decide) ?_
        refine r_icmp_lt X 99 dX8_go_82 (by decide) h (fun g15 h => ?_) (fun g15 h => ?_)
        · refine r_aload_n X dX8_go_99 rfl 2 rfl ?_
          refine r_aload_n X dX8_go_100 rfl 2 rfl ?_
          refine gf_X8_36 X dX8_go_101 ?_
          refine r_iload_n X dX8_go_104 rfl 0 rfl ?_
          refine al_43 X dX8_go_105 h (fun v16 h => ?_)
          refine r_bipush X 12 dX8_go_106 (by decide) ?_
          refine r_callV X 35 8 (by decide) rfl rfl rfl lk_X8_129 (c_X8_is (zl z) X.2.2.2.2.2.2.2.1 N (zD z) (zy z) (zA z) (zS z) v16 12 σ11) ⟨Nat.le_trans (by decide) hR.1, Nat.le_trans (by decide) hR.2⟩ rfl rfl (Nat.le_of_ble_eq_true rfl) dX8_go_108 h (fun v17 σ18 h => ?_)
          refine r_if_ne X 147 dX8_go_111 (by decide) h (fun g19 h => ?_) (fun g19 h => ?_)
          · refine r_iinc X 1 (fun v20 => [(1, .int v20), (3, .int v9), (2, .int v7), (0, .ref (zA z 35))]) dX8_go_114 3 rfl (by decide) (by decide) (fun _ => rfl) h (fun v20 h => ?_)
            refine r_aload_n X dX8_go_117 rfl 3 rfl ?_
            refine gf_X8_54 X dX8_go_118 ?_
            refine r_iload_n X dX8_go_121 rfl 0 rfl ?_
            refine r_aload_n X dX8_go_122 rfl 3 rfl ?_
            refine gf_X8_36 X dX8_go_123 ?_
            refine r_iload_n X dX8_go_126 rfl 1 rfl ?_
            refine al_43 X dX8_go_127 h (fun v21 h => ?_)
            refine as_49 X dX8_go_128 h (fun σ22 h => ?_)
            refine r_aload_n X dX8_go_129 rfl 3 rfl ?_
            refine gf_X8_57 X dX8_go_130 ?_
            refine r_iload_n X dX8_go_133 rfl 0 rfl ?_
            refine r_iconst X 0 dX8_go_134 (by decide) ?_
            refine as_50 X dX8_go_135 h (fun σ23 h => ?_)
            refine r_aload_n X dX8_go_136 rfl 3 rfl ?_
            refine r_aload_n X dX8_go_137 rfl 3 rfl ?_
            refine gf_X8_36 X dX8_go_138 ?_
            refine r_iload_n X dX8_go_141 rfl 1 rfl ?_
            refine al_43 X dX8_go_142 h (fun v24 h => ?_)
            refine r_iload_n X dX8_go_143 rfl 2 rfl ?_
            refine r_callVv X 35 8 (by decide) rfl rfl rfl lk_X8_121 (c_X8_meet (zl z) X.2.2.2.2.2.2.2.1 N (zD z) (zy z) (zA z) (zS z) v24 v7 σ23) ⟨Nat.le_trans (by decide) hR.1, Nat.le_trans (by decide) hR.2⟩ rfl rfl (Nat.le_of_ble_eq_true rfl) dX8_go_144 h (fun v25 σ26 h => ?_)
            refine r_goto X 27 dX8_go_147 (by decide) ?_
            refine r_sub [3, 0] rfl ?_
            exact ih v20 σ26 h
          · refine r_goto X 27 dX8_go_147 (by decide) ?_
            refine r_sub [2, 3] rfl ?_
            exact ih x1 σ18 h
        · refine r_aload_n X dX8_go_85 rfl 2 rfl ?_
          refine r_aload_n X dX8_go_86 rfl 2 rfl ?_
          refine gf_X8_36 X dX8_go_87 ?_
          refine r_iload_n X dX8_go_90 rfl 0 rfl ?_
          refine al_43 X dX8_go_91 h (fun v27 h => ?_)
          refine r_iload_n X dX8_go_92 rfl 1 rfl ?_
          refine r_callVv X 35 8 (by decide) rfl rfl rfl lk_X8_121 (c_X8_meet (zl z) X.2.2.2.2.2.2.2.1 N (zD z) (zy z) (zA z) (zS z) v27 v7 σ11) ⟨Nat.le_trans (by decide) hR.1, Nat.le_trans (by decide) hR.2⟩ rfl rfl (Nat.le_of_ble_eq_true rfl) dX8_go_93 h (fun v28 σ29 h => ?_)
          refine r_goto X 147 dX8_go_96 (by decide) ?_
          refine r_goto X 27 dX8_go_147 (by decide) ?_
          refine r_sub [2, 3] rfl ?_
          exact ih x1 σ29 h
set_option maxHeartbeats 4000000 in
set_option maxRecDepth 100000 in
theorem w_X8_go_208 {z : Cz} (X : Cx z cX8_go 6 RX8) (hR : 2 ≤ (zR z).frames ∧ 44 ≤ (zR z).locals) {res : (Int32 × Sg)} (N : Nat) (x2 : Int32) (x3 : Int32) (K : Int32 → Sg → Option (Int32 × Sg)) (kx : ∀ (y4 : Int32) (σ : Sg), K y4 σ = some res → V z 0 6 260 [(0, .ref (zA z 35)), (2, .int x2), (3, .int x3), (4, .int y4)] [] σ) : ∀ (n : Nat) (x4 : Int32) (x5 : Int32) (σ : Sg), f_X8_go_208 N x2 x3 K n x4 x5 σ = some res → V z 0 6 208 [(0, .ref (zA z 35)), (2, .int x2), (3, .int x3), (4, .int x4), (5, .int x5)] [] σ := by
  intro n
  induction n with
  | zero =>
    intro x4 x5 σ h
    rw [f_X8_go_208] at h
    cases h
  | succ n ih =>
    intro x4 x5 σ h
    rw [f_X8_go_208] at h
    refine r_iload X dX8_go_208 4 rfl ?_
    refine r_if_lt X 260 dX8_go_210 (by decide) h (fun g47 h => ?_) (fun g47 h => ?_)
    · refine r_sub [0, 1, 2, 3] rfl ?_
      exact kx x4 σ h
    · refine r_iload X dX8_go_213 3 rfl ?_
      refine r_if_ne X 260 dX8_go_215 (by decide) h (fun g48 h => ?_) (fun g48 h => ?_)
      · refine r_aload_n X dX8_go_218 rfl 0 rfl ?_
        refine gf_X8_17 X dX8_go_219 ?_
        refine r_aload_n X dX8_go_222 rfl 0 rfl ?_
        refine gf_X8_60 X dX8_go_223 ?_
        refine r_iload X dX8_go_226 4 rfl ?_
        refine al_51 X dX8_go_228 h (fun v49 h => ?_)
        refine al_37 X dX8_go_229 h (fun v50 h => ?_)
        refine r_aload_n X dX8_go_230 rfl 0 rfl ?_
        refine gf_X8_17 X dX8_go_231 ?_
        refine r_iload_n X dX8_go_234 rfl 2 rfl ?_
        refine al_37 X dX8_go_235 h (fun v51 h => ?_)
        refine r_icmp_ge X 251 dX8_go_236 (by decide) h (fun g52 h => ?_) (fun g52 h => ?_)
        · refine r_iconst X 0 dX8_go_251 (by decide) ?_
          refine r_istore X [(4, .int 0), (0, .ref (zA z 35)), (2, .int x2), (3, .int x3), (5, .int x5)] dX8_go_252 (by decide) rfl ?_
          refine r_iinc X (-1) (fun v53 => [(5, .int v53), (4, .int 0), (0, .ref (zA z 35)), (2, .int x2), (3, .int x3)]) dX8_go_254 4 rfl (by decide) (by decide) (fun _ => rfl) h (fun v53 h => ?_)
          refine r_goto X 208 dX8_go_257 (by decide) ?_
          refine r_sub [2, 3, 4, 1, 0] rfl ?_
          exact ih 0 v53 σ h
        · refine r_aload_n X dX8_go_239 rfl 0 rfl ?_
          refine gf_X8_63 X dX8_go_240 ?_
          refine r_iload X dX8_go_243 4 rfl ?_
          refine al_52 X dX8_go_245 h (fun v54 h => ?_)
          refine r_iconst X 1 dX8_go_246 (by decide) ?_
          refine r_iadd X dX8_go_247 ?_
          refine r_goto X 252 dX8_go_248 (by decide) ?_
          refine r_lt h (fun v55 h => ?_)
          refine r_istore X [(4, .int v55), (0, .ref (zA z 35)), (2, .int x2), (3, .int x3), (5, .int x5)] dX8_go_252 (by decide) rfl ?_
          refine r_iinc X (-1) (fun v56 => [(5, .int v56), (4, .int v55), (0, .ref (zA z 35)), (2, .int x2), (3, .int x3)]) dX8_go_254 4 rfl (by decide) (by decide) (fun _ => rfl) h (fun v56 h => ?_)
          refine r_goto X 208 dX8_go_257 (by decide) ?_
          refine r_sub [2, 3, 4, 1, 0] rfl ?_
          exact ih v55 v56 σ h
      · refine r_sub [0, 1, 2, 3] rfl ?_
        exact kx x4 σ h
set_option maxHeartbeats 4000000 in
set_option maxRecDepth 100000 in
theorem w_X8_go_157 {z : Cz} (X : Cx z cX8_go 6 RX8) (hR : 2 ≤ (zR z).frames ∧ 44 ≤ (zR z).locals) {res : (Int32 × Sg)} (N : Nat) (K : Sg → Option (Int32 × Sg)) (kx : ∀ (σ : Sg), K σ = some res → V z 0 6 297 [] [] σ) : ∀ (n : Nat) (x2 : Int32) (σ : Sg), f_X8_go_157 N K n x2 σ = some res → V z 0 6 157 [(0, .ref (zA z 35)), (2, .int x2)] [] σ := by
  intro n
  induction n with
  | zero =>
    intro x2 σ h
    rw [f_X8_go_157] at h
    cases h
  | succ n ih =>
    intro x2 σ h
    rw [f_X8_go_157] at h
    refine r_iload_n X dX8_go_157 rfl 1 rfl ?_
    refine r_aload_n X dX8_go_158 rfl 0 rfl ?_
    refine gf_X8_118 X dX8_go_159 h (fun v33 h => ?_)
    refine r_icmp_ge X 297 dX8_go_162 (by decide) h (fun g34 h => ?_) (fun g34 h => ?_)
    · refine r_sub [] rfl ?_
      exact kx  σ h
    · refine r_aload_n X dX8_go_165 rfl 0 rfl ?_
      refine gf_X8_48 X dX8_go_166 ?_
      refine r_iload_n X dX8_go_169 rfl 1 rfl ?_
      refine al_47 X dX8_go_170 h (fun v35 h => ?_)
      refine r_istore_n X [(3, .int v35), (0, .ref (zA z 35)), (2, .int x2)] dX8_go_171 rfl (by decide) rfl ?_
      refine r_iload_n X dX8_go_172 rfl 0 rfl ?_
      refine r_sipush X 1000 dX8_go_173 (by decide) ?_
      refine r_icmp_ge X 291 dX8_go_176 (by decide) h (fun g36 h => ?_) (fun g36 h => ?_)
      · refine r_iinc X 1 (fun v37 => [(2, .int v37), (3, .int v35), (0, .ref (zA z 35))]) dX8_go_291 2 rfl (by decide) (by decide) (fun _ => rfl) h (fun v37 h => ?_)
        refine r_goto X 157 dX8_go_294 (by decide) ?_
        refine r_sub [2, 0] rfl ?_
        exact ih v37 σ h
      · refine r_aload_n X dX8_go_179 rfl 1 rfl ?_
        refine r_iload_n X dX8_go_180 rfl 0 rfl ?_
        refine r_iconst X 2 dX8_go_181 (by decide) ?_
        refine r_callV X 35 8 (by decide) rfl rfl rfl lk_X8_129 (c_X8_is (zl z) X.2.2.2.2.2.2.2.1 N (zD z) (zy z) (zA z) (zS z) v35 2 σ) ⟨Nat.le_trans (by decide) hR.1, Nat.le_trans (by decide) hR.2⟩ rfl rfl (Nat.le_of_ble_eq_true rfl) dX8_go_182 h (fun v38 σ39 h => ?_)
        refine r_if_eq X 291 dX8_go_185 (by decide) h (fun g40 h => ?_) (fun g40 h => ?_)
        · refine r_iinc X 1 (fun v41 => [(2, .int v41), (3, .int v35), (0, .ref (zA z 35))]) dX8_go_291 2 rfl (by decide) (by decide) (fun _ => rfl) h (fun v41 h => ?_)
          refine r_goto X 157 dX8_go_294 (by decide) ?_
          refine r_sub [2, 0] rfl ?_
          exact ih v41 σ39 h
        · refine r_aload_n X dX8_go_188 rfl 1 rfl ?_
          refine gf_X8_17 X dX8_go_189 ?_
          refine r_iload_n X dX8_go_192 rfl 0 rfl ?_
          refine al_37 X dX8_go_193 h (fun v42 h => ?_)
          refine r_if_le X 291 dX8_go_194 (by decide) h (fun g43 h => ?_) (fun g43 h => ?_)
          · refine r_iinc X 1 (fun v44 => [(2, .int v44), (3, .int v35), (0, .ref (zA z 35))]) dX8_go_291 2 rfl (by decide) (by decide) (fun _ => rfl) h (fun v44 h => ?_)
            refine r_goto X 157 dX8_go_294 (by decide) ?_
            refine r_sub [2, 0] rfl ?_
            exact ih v44 σ39 h
          · refine r_iconst X 0 dX8_go_197 (by decide) ?_
            refine r_istore X [(4, .int 0), (3, .int v35), (0, .ref (zA z 35)), (2, .int x2)] dX8_go_198 (by decide) rfl ?_
            refine r_aload_n X dX8_go_200 rfl 2 rfl ?_
            refine gf_X8_132 X dX8_go_201 h (fun v45 h => ?_)
            refine r_iconst X 1 dX8_go_204 (by decide) ?_
            refine r_isub X dX8_go_205 ?_
            refine r_lt h (fun v46 h => ?_)
            refine r_istore X [(5, .int v46), (4, .int 0), (3, .int v35), (0, .ref (zA z 35)), (2, .int x2)] dX8_go_206 (by decide) rfl ?_
            refine r_sub [3, 4, 2, 1, 0] rfl ?_
            refine w_X8_go_208 X hR N x2 v35 _ (fun v57 σ58 h => ?_) N 0 v46 σ39 h
            refine r_aload_n X dX8_go_260 rfl 0 rfl ?_
            refine gf_X8_60 X dX8_go_261 ?_
            refine r_aload_n X dX8_go_264 rfl 0 rfl ?_
            refine gf_X8_132 X dX8_go_265 h (fun v59 h => ?_)
            refine r_iload_n X dX8_go_268 rfl 2 rfl ?_
            refine as_51 X dX8_go_269 h (fun σ60 h => ?_)
            refine r_aload_n X dX8_go_270 rfl 0 rfl ?_
            refine gf_X8_63 X dX8_go_271 ?_
            refine r_aload_n X dX8_go_274 rfl 0 rfl ?_
            refine gf_X8_132 X dX8_go_275 h (fun v61 h => ?_)
            refine r_iload X dX8_go_278 3 rfl ?_
            refine as_52 X dX8_go_280 h (fun σ62 h => ?_)
            refine r_aload_n X dX8_go_281 rfl 0 rfl ?_
            refine r_dup X dX8_go_282 rfl ?_
            refine gf_X8_132 X dX8_go_283 h (fun v63 h => ?_)
            refine r_iconst X 1 dX8_go_286 (by decide) ?_
            refine r_iadd X dX8_go_287 ?_
            refine pf_X8_132 X dX8_go_288 h (fun σ64 h => ?_)
            refine r_iinc X 1 (fun v65 => [(2, .int v65), (0, .ref (zA z 35)), (3, .int v35), (4, .int v57)]) dX8_go_291 1 rfl (by decide) (by decide) (fun _ => rfl) h (fun v65 h => ?_)
            refine r_goto X 157 dX8_go_294 (by decide) ?_
            refine r_sub [1, 0] rfl ?_
            exact ih v65 σ64 h
set_option maxHeartbeats 4000000 in
set_option maxRecDepth 100000 in
theorem w_X8_go {z : Cz} (X : Cx z cX8_go 6 RX8) (hR : 2 ≤ (zR z).frames ∧ 44 ≤ (zR z).locals) {res : (Int32 × Sg)} (Rt : RtV z cX8_go 6 res) (N : Nat) (σ : Sg) (h : f_X8_go N σ = some res) : V z 0 6 0 [(0, .ref (zA z 35))] [] σ := by
  rw [f_X8_go] at h
  refine r_aload_n X dX8_go_0 rfl 0 rfl ?_
  refine r_iconst X 0 dX8_go_1 (by decide) ?_
  refine pf_X8_118 X dX8_go_2 h (fun σ1 h => ?_)
  refine r_iconst X 0 dX8_go_5 (by decide) ?_
  refine r_istore_n X [(1, .int 0), (0, .ref (zA z 35))] dX8_go_6 rfl (by decide) rfl ?_
  refine r_aload_n X dX8_go_7 rfl 1 rfl ?_
  refine gf_X8_54 X dX8_go_8 ?_
  refine r_iconst X 0 dX8_go_11 (by decide) ?_
  refine r_iconst X 0 dX8_go_12 (by decide) ?_
  refine as_49 X dX8_go_13 h (fun σ2 h => ?_)
  refine r_aload_n X dX8_go_14 rfl 1 rfl ?_
  refine gf_X8_57 X dX8_go_15 ?_
  refine r_iconst X 0 dX8_go_18 (by decide) ?_
  refine r_iconst X 0 dX8_go_19 (by decide) ?_
  refine as_50 X dX8_go_20 h (fun σ3 h => ?_)
  refine r_aload_n X dX8_go_21 rfl 1 rfl ?_
  refine r_iconst X 0 dX8_go_22 (by decide) ?_
  refine r_iconst X 0 dX8_go_23 (by decide) ?_
  refine r_callVv X 35 8 (by decide) rfl rfl rfl lk_X8_121 (c_X8_meet (zl z) X.2.2.2.2.2.2.2.1 N (zD z) (zy z) (zA z) (zS z) 0 0 σ3) ⟨Nat.le_trans (by decide) hR.1, Nat.le_trans (by decide) hR.2⟩ rfl rfl (Nat.le_of_ble_eq_true rfl) dX8_go_24 h (fun v4 σ5 h => ?_)
  refine r_sub [1, 0] rfl ?_
  refine w_X8_go_27 X hR N _ (fun σ31 h => ?_) N 0 σ5 h
  refine r_aload_n X dX8_go_150 rfl 0 rfl ?_
  refine r_iconst X 0 dX8_go_151 (by decide) ?_
  refine pf_X8_132 X dX8_go_152 h (fun σ32 h => ?_)
  refine r_iconst X 0 dX8_go_155 (by decide) ?_
  refine r_istore_n X [(2, .int 0), (0, .ref (zA z 35))] dX8_go_156 rfl (by decide) rfl ?_
  refine r_sub [1, 0] rfl ?_
  refine w_X8_go_157 X hR N _ (fun σ66 h => ?_) N 0 σ32 h
  exact r_vret Rt dX8_go_297 h
theorem c_X8_go (l : Launch) (hl : l.stackTraces = false) (N : Nat) (D : va_G) (cy : Nat → ClassId) (ad sa : Nat → Nat) (σ : Sg) : CtV l yX8_go cX8_go 6 2 44 D cy ad sa [.ref (ad 35)] σ (f_X8_go N σ) :=
  ct_V hl (by decide +kernel) (Nat.le_of_ble_eq_true rfl) (fun z res e1 e2 e3 e4 e5 e6 X Rt h => by subst e1 e2 e3 e4 e5; exact w_X8_go X ⟨e6.1, e6.2⟩ Rt N σ h)
def f_X8_partAt_7 (N : Nat) (x1 : Int32) (K : Int32 → Int32 → Sg → Option (Int32 × Sg)) : Nat → Int32 → Int32 → Int32 → Sg → Option (Int32 × Sg)
  | 0, _, _, _, _ => none
  | n + 1, x2, x3, x4, σ => lt (σ 35 17) (fun v1 => if v1 ≤ x4 then (K x2 x3 σ) else (rdA 160 (σ 47) x4 (fun v3 => if v3 < 1000 then (lt (x4 + 1) (fun v5 => f_X8_partAt_7 N x1 K n x2 x3 v5 σ)) else (if x2 = x1 then (lt (x2 + 1) (fun v9 => lt (x4 + 1) (fun v10 => f_X8_partAt_7 N x1 K n v9 x4 v10 σ))) else (lt (x2 + 1) (fun v7 => lt (x4 + 1) (fun v8 => f_X8_partAt_7 N x1 K n v7 x3 v8 σ)))))))
def f_X8_partAt (N : Nat) (a1 : Int32) (σ : Sg) : Option (Int32 × Sg) := f_X8_partAt_7 N a1 (fun v11 v12 σ13 => if a1 = (-1) then (some (v11, σ13)) else (some (v12, σ13))) N 0 (-1) 0 σ
set_option maxHeartbeats 4000000 in
set_option maxRecDepth 100000 in
theorem w_X8_partAt_7 {z : Cz} (X : Cx z cX8_partAt 5 RX8) (hR : 0 ≤ (zR z).frames ∧ 0 ≤ (zR z).locals) {res : (Int32 × Sg)} (N : Nat) (x1 : Int32) (K : Int32 → Int32 → Sg → Option (Int32 × Sg)) (kx : ∀ (y2 : Int32) (y3 : Int32) (σ : Sg), K y2 y3 σ = some res → V z 0 5 50 [(1, .int x1), (2, .int y2), (3, .int y3)] [] σ) : ∀ (n : Nat) (x2 : Int32) (x3 : Int32) (x4 : Int32) (σ : Sg), f_X8_partAt_7 N x1 K n x2 x3 x4 σ = some res → V z 0 5 7 [(0, .ref (zA z 35)), (1, .int x1), (2, .int x2), (3, .int x3), (4, .int x4)] [] σ := by
  intro n
  induction n with
  | zero =>
    intro x2 x3 x4 σ h
    rw [f_X8_partAt_7] at h
    cases h
  | succ n ih =>
    intro x2 x3 x4 σ h
    rw [f_X8_partAt_7] at h
    refine r_iload X dX8_partAt_7 4 rfl ?_
    refine r_aload_n X dX8_partAt_9 rfl 0 rfl ?_
    refine gf_X8_118 X dX8_partAt_10 h (fun v1 h => ?_)
    refine r_icmp_ge X 50 dX8_partAt_13 (by decide) h (fun g2 h => ?_) (fun g2 h => ?_)
    · refine r_sub [1, 2, 3] rfl ?_
      exact kx x2 x3 σ h
    · refine r_aload_n X dX8_partAt_16 rfl 0 rfl ?_
      refine gf_X8_48 X dX8_partAt_17 ?_
      refine r_iload X dX8_partAt_20 4 rfl ?_
      refine al_47 X dX8_partAt_22 h (fun v3 h => ?_)
      refine r_sipush X 1000 dX8_partAt_23 (by decide) ?_
      refine r_icmp_lt X 44 dX8_partAt_26 (by decide) h (fun g4 h => ?_) (fun g4 h => ?_)
      · refine r_iinc X 1 (fun v5 => [(4, .int v5), (0, .ref (zA z 35)), (1, .int x1), (2, .int x2), (3, .int x3)]) dX8_partAt_44 4 rfl (by decide) (by decide) (fun _ => rfl) h (fun v5 h => ?_)
        refine r_goto X 7 dX8_partAt_47 (by decide) ?_
        refine r_sub [1, 2, 3, 4, 0] rfl ?_
        exact ih x2 x3 v5 σ h
      · refine r_iload_n X dX8_partAt_29 rfl 2 rfl ?_
        refine r_iload_n X dX8_partAt_30 rfl 1 rfl ?_
        refine r_icmp_ne X 39 dX8_partAt_31 (by decide) h (fun g6 h => ?_) (fun g6 h => ?_)
        · refine r_iload X dX8_partAt_34 4 rfl ?_
          refine r_goto X 40 dX8_partAt_36 (by decide) ?_
          refine r_istore_n X [(3, .int x4), (0, .ref (zA z 35)), (1, .int x1), (2, .int x2), (4, .int x4)] dX8_partAt_40 rfl (by decide) rfl ?_
          refine r_iinc X 1 (fun v9 => [(2, .int v9), (3, .int x4), (0, .ref (zA z 35)), (1, .int x1), (4, .int x4)]) dX8_partAt_41 3 rfl (by decide) (by decide) (fun _ => rfl) h (fun v9 h => ?_)
          refine r_iinc X 1 (fun v10 => [(4, .int v10), (2, .int v9), (3, .int x4), (0, .ref (zA z 35)), (1, .int x1)]) dX8_partAt_44 4 rfl (by decide) (by decide) (fun _ => rfl) h (fun v10 h => ?_)
          refine r_goto X 7 dX8_partAt_47 (by decide) ?_
          refine r_sub [3, 4, 1, 2, 0] rfl ?_
          exact ih v9 x4 v10 σ h
        · refine r_iload_n X dX8_partAt_39 rfl 3 rfl ?_
          refine r_istore_n X [(3, .int x3), (0, .ref (zA z 35)), (1, .int x1), (2, .int x2), (4, .int x4)] dX8_partAt_40 rfl (by decide) rfl ?_
          refine r_iinc X 1 (fun v7 => [(2, .int v7), (3, .int x3), (0, .ref (zA z 35)), (1, .int x1), (4, .int x4)]) dX8_partAt_41 3 rfl (by decide) (by decide) (fun _ => rfl) h (fun v7 h => ?_)
          refine r_iinc X 1 (fun v8 => [(4, .int v8), (2, .int v7), (3, .int x3), (0, .ref (zA z 35)), (1, .int x1)]) dX8_partAt_44 4 rfl (by decide) (by decide) (fun _ => rfl) h (fun v8 h => ?_)
          refine r_goto X 7 dX8_partAt_47 (by decide) ?_
          refine r_sub [3, 4, 1, 2, 0] rfl ?_
          exact ih v7 x3 v8 σ h
set_option maxHeartbeats 4000000 in
set_option maxRecDepth 100000 in
theorem w_X8_partAt {z : Cz} (X : Cx z cX8_partAt 5 RX8) (hR : 0 ≤ (zR z).frames ∧ 0 ≤ (zR z).locals) {res : (Int32 × Sg)} (Rt : RtI z cX8_partAt 5 .int res) (N : Nat) (a1 : Int32) (σ : Sg) (h : f_X8_partAt N a1 σ = some res) : V z 0 5 0 [(0, .ref (zA z 35)), (1, .int a1)] [] σ := by
  rw [f_X8_partAt] at h
  refine r_iconst X 0 dX8_partAt_0 (by decide) ?_
  refine r_istore_n X [(2, .int 0), (0, .ref (zA z 35)), (1, .int a1)] dX8_partAt_1 rfl (by decide) rfl ?_
  refine r_iconst X (-1) dX8_partAt_2 (by decide) ?_
  refine r_istore_n X [(3, .int (-1)), (2, .int 0), (0, .ref (zA z 35)), (1, .int a1)] dX8_partAt_3 rfl (by decide) rfl ?_
  refine r_iconst X 0 dX8_partAt_4 (by decide) ?_
  refine r_istore X [(4, .int 0), (3, .int (-1)), (2, .int 0), (0, .ref (zA z 35)), (1, .int a1)] dX8_partAt_5 (by decide) rfl ?_
  refine r_sub [3, 4, 2, 1, 0] rfl ?_
  refine w_X8_partAt_7 X hR N a1 _ (fun v11 v12 σ13 h => ?_) N 0 (-1) 0 σ h
  refine r_iload_n X dX8_partAt_50 rfl 0 rfl ?_
  refine r_iconst X (-1) dX8_partAt_51 (by decide) ?_
  refine r_icmp_ne X 59 dX8_partAt_52 (by decide) h (fun g14 h => ?_) (fun g14 h => ?_)
  · refine r_iload_n X dX8_partAt_55 rfl 1 rfl ?_
    refine r_goto X 60 dX8_partAt_56 (by decide) ?_
    exact r_iret Rt dX8_partAt_60 h
  · refine r_iload_n X dX8_partAt_59 rfl 2 rfl ?_
    exact r_iret Rt dX8_partAt_60 h
theorem c_X8_partAt (l : Launch) (hl : l.stackTraces = false) (N : Nat) (D : va_G) (cy : Nat → ClassId) (ad sa : Nat → Nat) (a1 : Int32) (σ : Sg) : CtI l yX8_partAt cX8_partAt 5 (some .int) 0 0 D cy ad sa [.ref (ad 35), .int a1] σ (f_X8_partAt N a1 σ) :=
  ct_I hl (by decide +kernel) (Nat.le_of_ble_eq_true rfl) (fun z res e1 e2 e3 e4 e5 e6 X Rt h => by subst e1 e2 e3 e4 e5; exact w_X8_partAt X ⟨e6.1, e6.2⟩ Rt N a1 σ h)
def f_X8_walk (N : Nat) (σ : Sg) : Option (Int32 × Sg) := st (ss σ 35 0 0) (fun σ1 => cI (f_X8_go N σ1) (fun v2 σ3 => cI (f_X8_partAt N (-1) σ3) (fun v4 σ5 => some (v4, σ5))))
set_option maxHeartbeats 4000000 in
set_option maxRecDepth 100000 in
theorem w_X8_walk {z : Cz} (X : Cx z cX8_walk 1 RX8) (hR : 3 ≤ (zR z).frames ∧ 69 ≤ (zR z).locals) {res : (Int32 × Sg)} (Rt : RtI z cX8_walk 1 .int res) (N : Nat) (σ : Sg) (h : f_X8_walk N σ = some res) : V z 0 1 0 [(0, .ref (zA z 35))] [] σ := by
  rw [f_X8_walk] at h
  refine r_aload_n X dX8_walk_0 rfl 0 rfl ?_
  refine r_iconst X 0 dX8_walk_1 (by decide) ?_
  refine pf_X8_78 X dX8_walk_2 h (fun σ1 h => ?_)
  refine r_aload_n X dX8_walk_5 rfl 0 rfl ?_
  refine r_callVv X 35 8 (by decide) rfl rfl rfl lk_X8_135 (c_X8_go (zl z) X.2.2.2.2.2.2.2.1 N (zD z) (zy z) (zA z) (zS z) σ1) ⟨Nat.le_trans (by decide) hR.1, Nat.le_trans (by decide) hR.2⟩ rfl rfl (Nat.le_of_ble_eq_true rfl) dX8_walk_6 h (fun v2 σ3 h => ?_)
  refine r_aload_n X dX8_walk_9 rfl 0 rfl ?_
  refine r_iconst X (-1) dX8_walk_10 (by decide) ?_
  refine r_callV X 35 8 (by decide) rfl rfl rfl lk_X8_138 (c_X8_partAt (zl z) X.2.2.2.2.2.2.2.1 N (zD z) (zy z) (zA z) (zS z) (-1) σ3) ⟨Nat.le_trans (by decide) hR.1, Nat.le_trans (by decide) hR.2⟩ rfl rfl (Nat.le_of_ble_eq_true rfl) dX8_walk_11 h (fun v4 σ5 h => ?_)
  exact r_iret Rt dX8_walk_14 h
theorem c_X8_walk (l : Launch) (hl : l.stackTraces = false) (N : Nat) (D : va_G) (cy : Nat → ClassId) (ad sa : Nat → Nat) (σ : Sg) : CtI l yX8_walk cX8_walk 1 (some .int) 3 69 D cy ad sa [.ref (ad 35)] σ (f_X8_walk N σ) :=
  ct_I hl (by decide +kernel) (Nat.le_of_ble_eq_true rfl) (fun z res e1 e2 e3 e4 e5 e6 X Rt h => by subst e1 e2 e3 e4 e5; exact w_X8_walk X ⟨e6.1, e6.2⟩ Rt N σ h)
def f_X8_at (N : Nat) (a1 : Int32) (a2 : Int32) (σ : Sg) : Option (Int32 × Sg) := cI (f_X8_go N σ) (fun v1 σ2 => if 0 ≤ a1 then (cI (f_X8_partAt N a1 σ2) (fun v4 σ5 => if v4 = (-1) then (st (ss σ5 35 0 1) (fun σ7 => lt (σ7 35 0) (fun v8 => if v8 ≤ 0 then (rdA 160 (σ7 47) v4 (fun v10 => lt (v10 - 1000) (fun v11 => if a2 = 0 then (some (v11 / 20, σ7)) else (if a2 = 1 then (some (v11 - v11 / 20 * 20, σ7)) else (rdA 160 (σ7 48) v4 (fun v14 => some (v14, σ7))))))) else (some (0, σ7))))) else (cI (f_X8_in N a2 0 2 σ5) (fun v15 σ16 => if v15 = 0 then (st (ss σ16 35 0 1) (fun σ26 => lt (σ26 35 0) (fun v27 => if v27 ≤ 0 then (rdA 160 (σ26 47) v4 (fun v29 => lt (v29 - 1000) (fun v30 => if a2 = 0 then (some (v30 / 20, σ26)) else (if a2 = 1 then (some (v30 - v30 / 20 * 20, σ26)) else (rdA 160 (σ26 48) v4 (fun v33 => some (v33, σ26))))))) else (some (0, σ26))))) else (st (ss σ16 35 0 0) (fun σ18 => lt (σ18 35 0) (fun v19 => if v19 ≤ 0 then (rdA 160 (σ18 47) v4 (fun v21 => lt (v21 - 1000) (fun v22 => if a2 = 0 then (some (v22 / 20, σ18)) else (if a2 = 1 then (some (v22 - v22 / 20 * 20, σ18)) else (rdA 160 (σ18 48) v4 (fun v25 => some (v25, σ18))))))) else (some (0, σ18))))))))) else (st (ss σ2 35 0 1) (fun σ34 => lt (σ34 35 0) (fun v35 => if v35 ≤ 0 then (rdA 160 (σ34 47) (-1) (fun v37 => lt (v37 - 1000) (fun v38 => if a2 = 0 then (some (v38 / 20, σ34)) else (if a2 = 1 then (some (v38 - v38 / 20 * 20, σ34)) else (rdA 160 (σ34 48) (-1) (fun v41 => some (v41, σ34))))))) else (some (0, σ34))))))
set_option maxHeartbeats 4000000 in
set_option maxRecDepth 100000 in
theorem w_X8_at {z : Cz} (X : Cx z cX8_at 5 RX8) (hR : 3 ≤ (zR z).frames ∧ 69 ≤ (zR z).locals) {res : (Int32 × Sg)} (Rt : RtI z cX8_at 5 .int res) (N : Nat) (a1 : Int32) (a2 : Int32) (σ : Sg) (h : f_X8_at N a1 a2 σ = some res) : V z 0 5 0 [(0, .ref (zA z 35)), (1, .int a1), (2, .int a2)] [] σ := by
  rw [f_X8_at] at h
  refine r_aload_n X dX8_at_0 rfl 0 rfl ?_
  refine r_callVv X 35 8 (by decide) rfl rfl rfl lk_X8_135 (c_X8_go (zl z) X.2.2.2.2.2.2.2.1 N (zD z) (zy z) (zA z) (zS z) σ) ⟨Nat.le_trans (by decide) hR.1, Nat.le_trans (by decide) hR.2⟩ rfl rfl (Nat.le_of_ble_eq_true rfl) dX8_at_1 h (fun v1 σ2 h => ?_)
  refine r_iload_n X dX8_at_4 rfl 1 rfl ?_
  refine r_if_ge X 12 dX8_at_5 (by decide) h (fun g3 h => ?_) (fun g3 h => ?_)
  · refine r_aload_n X dX8_at_12 rfl 0 rfl ?_
    refine r_iload_n X dX8_at_13 rfl 1 rfl ?_
    refine r_callV X 35 8 (by decide) rfl rfl rfl lk_X8_138 (c_X8_partAt (zl z) X.2.2.2.2.2.2.2.1 N (zD z) (zy z) (zA z) (zS z) a1 σ2) ⟨Nat.le_trans (by decide) hR.1, Nat.le_trans (by decide) hR.2⟩ rfl rfl (Nat.le_of_ble_eq_true rfl) dX8_at_14 h (fun v4 σ5 h => ?_)
    refine r_istore_n X [(3, .int v4), (0, .ref (zA z 35)), (1, .int a1), (2, .int a2)] dX8_at_17 rfl (by decide) rfl ?_
    refine r_aload_n X dX8_at_18 rfl 1 rfl ?_
    refine r_iload_n X dX8_at_19 rfl 0 rfl ?_
    refine r_iconst X (-1) dX8_at_20 (by decide) ?_
    refine r_icmp_eq X 33 dX8_at_21 (by decide) h (fun g6 h => ?_) (fun g6 h => ?_)
    · refine r_iconst X 1 dX8_at_33 (by decide) ?_
      refine r_goto X 38 dX8_at_34 (by decide) ?_
      refine pf_X8_78 X dX8_at_38 h (fun σ7 h => ?_)
      refine r_aload_n X dX8_at_41 rfl 1 rfl ?_
      refine gf_X8_78 X dX8_at_42 h (fun v8 h => ?_)
      refine r_if_le X 50 dX8_at_45 (by decide) h (fun g9 h => ?_) (fun g9 h => ?_)
      · refine r_aload_n X dX8_at_50 rfl 1 rfl ?_
        refine gf_X8_48 X dX8_at_51 ?_
        refine r_iload_n X dX8_at_54 rfl 0 rfl ?_
        refine al_47 X dX8_at_55 h (fun v10 h => ?_)
        refine r_sipush X 1000 dX8_at_56 (by decide) ?_
        refine r_isub X dX8_at_59 ?_
        refine r_lt h (fun v11 h => ?_)
        refine r_istore X [(4, .int v11), (3, .int v4), (0, .ref (zA z 35)), (1, .int a1), (2, .int a2)] dX8_at_60 (by decide) rfl ?_
        refine r_iload_n X dX8_at_62 rfl 4 rfl ?_
        refine r_if_ne X 74 dX8_at_63 (by decide) h (fun g12 h => ?_) (fun g12 h => ?_)
        · refine r_iload X dX8_at_66 0 rfl ?_
          refine r_bipush X 20 dX8_at_68 (by decide) ?_
          refine r_idiv X dX8_at_70 (by decide) ?_
          refine r_goto X 93 dX8_at_71 (by decide) ?_
          exact r_iret Rt dX8_at_93 h
        · refine r_iload_n X dX8_at_74 rfl 4 rfl ?_
          refine r_iconst X 1 dX8_at_75 (by decide) ?_
          refine r_icmp_ne X 87 dX8_at_76 (by decide) h (fun g13 h => ?_) (fun g13 h => ?_)
          · refine r_iload X dX8_at_79 0 rfl ?_
            refine r_bipush X 20 dX8_at_81 (by decide) ?_
            refine r_irem X dX8_at_83 (by decide) ?_
            refine r_goto X 93 dX8_at_84 (by decide) ?_
            exact r_iret Rt dX8_at_93 h
          · refine r_aload_n X dX8_at_87 rfl 2 rfl ?_
            refine gf_X8_51 X dX8_at_88 ?_
            refine r_iload_n X dX8_at_91 rfl 1 rfl ?_
            refine al_48 X dX8_at_92 h (fun v14 h => ?_)
            exact r_iret Rt dX8_at_93 h
      · refine r_iconst X 0 dX8_at_48 (by decide) ?_
        exact r_iret Rt dX8_at_49 h
    · refine r_iload_n X dX8_at_24 rfl 3 rfl ?_
      refine r_iconst X 0 dX8_at_25 (by decide) ?_
      refine r_iconst X 2 dX8_at_26 (by decide) ?_
      refine r_callS X lk_X8_85 (c_X8_in (zl z) X.2.2.2.2.2.2.2.1 N (zD z) (zy z) (zA z) (zS z) a2 0 2 σ5) ⟨Nat.le_trans (by decide) hR.1, Nat.le_trans (by decide) hR.2⟩ rfl rfl (Nat.le_of_ble_eq_true rfl) dX8_at_27 h (fun v15 σ16 h => ?_)
      refine r_if_ne X 37 dX8_at_30 (by decide) h (fun g17 h => ?_) (fun g17 h => ?_)
      · refine r_iconst X 1 dX8_at_33 (by decide) ?_
        refine r_goto X 38 dX8_at_34 (by decide) ?_
        refine pf_X8_78 X dX8_at_38 h (fun σ26 h => ?_)
        refine r_aload_n X dX8_at_41 rfl 1 rfl ?_
        refine gf_X8_78 X dX8_at_42 h (fun v27 h => ?_)
        refine r_if_le X 50 dX8_at_45 (by decide) h (fun g28 h => ?_) (fun g28 h => ?_)
        · refine r_aload_n X dX8_at_50 rfl 1 rfl ?_
          refine gf_X8_48 X dX8_at_51 ?_
          refine r_iload_n X dX8_at_54 rfl 0 rfl ?_
          refine al_47 X dX8_at_55 h (fun v29 h => ?_)
          refine r_sipush X 1000 dX8_at_56 (by decide) ?_
          refine r_isub X dX8_at_59 ?_
          refine r_lt h (fun v30 h => ?_)
          refine r_istore X [(4, .int v30), (3, .int v4), (0, .ref (zA z 35)), (1, .int a1), (2, .int a2)] dX8_at_60 (by decide) rfl ?_
          refine r_iload_n X dX8_at_62 rfl 4 rfl ?_
          refine r_if_ne X 74 dX8_at_63 (by decide) h (fun g31 h => ?_) (fun g31 h => ?_)
          · refine r_iload X dX8_at_66 0 rfl ?_
            refine r_bipush X 20 dX8_at_68 (by decide) ?_
            refine r_idiv X dX8_at_70 (by decide) ?_
            refine r_goto X 93 dX8_at_71 (by decide) ?_
            exact r_iret Rt dX8_at_93 h
          · refine r_iload_n X dX8_at_74 rfl 4 rfl ?_
            refine r_iconst X 1 dX8_at_75 (by decide) ?_
            refine r_icmp_ne X 87 dX8_at_76 (by decide) h (fun g32 h => ?_) (fun g32 h => ?_)
            · refine r_iload X dX8_at_79 0 rfl ?_
              refine r_bipush X 20 dX8_at_81 (by decide) ?_
              refine r_irem X dX8_at_83 (by decide) ?_
              refine r_goto X 93 dX8_at_84 (by decide) ?_
              exact r_iret Rt dX8_at_93 h
            · refine r_aload_n X dX8_at_87 rfl 2 rfl ?_
              refine gf_X8_51 X dX8_at_88 ?_
              refine r_iload_n X dX8_at_91 rfl 1 rfl ?_
              refine al_48 X dX8_at_92 h (fun v33 h => ?_)
              exact r_iret Rt dX8_at_93 h
        · refine r_iconst X 0 dX8_at_48 (by decide) ?_
          exact r_iret Rt dX8_at_49 h
      · refine r_iconst X 0 dX8_at_37 (by decide) ?_
        refine pf_X8_78 X dX8_at_38 h (fun σ18 h => ?_)
        refine r_aload_n X dX8_at_41 rfl 1 rfl ?_
        refine gf_X8_78 X dX8_at_42 h (fun v19 h => ?_)
        refine r_if_le X 50 dX8_at_45 (by decide) h (fun g20 h => ?_) (fun g20 h => ?_)
        · refine r_aload_n X dX8_at_50 rfl 1 rfl ?_
          refine gf_X8_48 X dX8_at_51 ?_
          refine r_iload_n X dX8_at_54 rfl 0 rfl ?_
          refine al_47 X dX8_at_55 h (fun v21 h => ?_)
          refine r_sipush X 1000 dX8_at_56 (by decide) ?_
          refine r_isub X dX8_at_59 ?_
          refine r_lt h (fun v22 h => ?_)
          refine r_istore X [(4, .int v22), (3, .int v4), (0, .ref (zA z 35)), (1, .int a1), (2, .int a2)] dX8_at_60 (by decide) rfl ?_
          refine r_iload_n X dX8_at_62 rfl 4 rfl ?_
          refine r_if_ne X 74 dX8_at_63 (by decide) h (fun g23 h => ?_) (fun g23 h => ?_)
          · refine r_iload X dX8_at_66 0 rfl ?_
            refine r_bipush X 20 dX8_at_68 (by decide) ?_
            refine r_idiv X dX8_at_70 (by decide) ?_
            refine r_goto X 93 dX8_at_71 (by decide) ?_
            exact r_iret Rt dX8_at_93 h
          · refine r_iload_n X dX8_at_74 rfl 4 rfl ?_
            refine r_iconst X 1 dX8_at_75 (by decide) ?_
            refine r_icmp_ne X 87 dX8_at_76 (by decide) h (fun g24 h => ?_) (fun g24 h => ?_)
            · refine r_iload X dX8_at_79 0 rfl ?_
              refine r_bipush X 20 dX8_at_81 (by decide) ?_
              refine r_irem X dX8_at_83 (by decide) ?_
              refine r_goto X 93 dX8_at_84 (by decide) ?_
              exact r_iret Rt dX8_at_93 h
            · refine r_aload_n X dX8_at_87 rfl 2 rfl ?_
              refine gf_X8_51 X dX8_at_88 ?_
              refine r_iload_n X dX8_at_91 rfl 1 rfl ?_
              refine al_48 X dX8_at_92 h (fun v25 h => ?_)
              exact r_iret Rt dX8_at_93 h
        · refine r_iconst X 0 dX8_at_48 (by decide) ?_
          exact r_iret Rt dX8_at_49 h
  · refine r_iconst X (-1) dX8_at_8 (by decide) ?_
    refine r_goto X 17 dX8_at_9 (by decide) ?_
    refine r_istore_n X [(3, .int (-1)), (0, .ref (zA z 35)), (1, .int a1), (2, .int a2)] dX8_at_17 rfl (by decide) rfl ?_
    refine r_aload_n X dX8_at_18 rfl 1 rfl ?_
    refine r_iload_n X dX8_at_19 rfl 0 rfl ?_
    refine r_iconst X (-1) dX8_at_20 (by decide) ?_
    refine r_icmp_eq_t X 33 dX8_at_21 (by decide) (by decide) ?_
    refine r_iconst X 1 dX8_at_33 (by decide) ?_
    refine r_goto X 38 dX8_at_34 (by decide) ?_
    refine pf_X8_78 X dX8_at_38 h (fun σ34 h => ?_)
    refine r_aload_n X dX8_at_41 rfl 1 rfl ?_
    refine gf_X8_78 X dX8_at_42 h (fun v35 h => ?_)
    refine r_if_le X 50 dX8_at_45 (by decide) h (fun g36 h => ?_) (fun g36 h => ?_)
    · refine r_aload_n X dX8_at_50 rfl 1 rfl ?_
      refine gf_X8_48 X dX8_at_51 ?_
      refine r_iload_n X dX8_at_54 rfl 0 rfl ?_
      refine al_47 X dX8_at_55 h (fun v37 h => ?_)
      refine r_sipush X 1000 dX8_at_56 (by decide) ?_
      refine r_isub X dX8_at_59 ?_
      refine r_lt h (fun v38 h => ?_)
      refine r_istore X [(4, .int v38), (3, .int (-1)), (0, .ref (zA z 35)), (1, .int a1), (2, .int a2)] dX8_at_60 (by decide) rfl ?_
      refine r_iload_n X dX8_at_62 rfl 4 rfl ?_
      refine r_if_ne X 74 dX8_at_63 (by decide) h (fun g39 h => ?_) (fun g39 h => ?_)
      · refine r_iload X dX8_at_66 0 rfl ?_
        refine r_bipush X 20 dX8_at_68 (by decide) ?_
        refine r_idiv X dX8_at_70 (by decide) ?_
        refine r_goto X 93 dX8_at_71 (by decide) ?_
        exact r_iret Rt dX8_at_93 h
      · refine r_iload_n X dX8_at_74 rfl 4 rfl ?_
        refine r_iconst X 1 dX8_at_75 (by decide) ?_
        refine r_icmp_ne X 87 dX8_at_76 (by decide) h (fun g40 h => ?_) (fun g40 h => ?_)
        · refine r_iload X dX8_at_79 0 rfl ?_
          refine r_bipush X 20 dX8_at_81 (by decide) ?_
          refine r_irem X dX8_at_83 (by decide) ?_
          refine r_goto X 93 dX8_at_84 (by decide) ?_
          exact r_iret Rt dX8_at_93 h
        · refine r_aload_n X dX8_at_87 rfl 2 rfl ?_
          refine gf_X8_51 X dX8_at_88 ?_
          refine r_iload_n X dX8_at_91 rfl 1 rfl ?_
          refine al_48 X dX8_at_92 h (fun v41 h => ?_)
          exact r_iret Rt dX8_at_93 h
    · refine r_iconst X 0 dX8_at_48 (by decide) ?_
      exact r_iret Rt dX8_at_49 h
theorem c_X8_at (l : Launch) (hl : l.stackTraces = false) (N : Nat) (D : va_G) (cy : Nat → ClassId) (ad sa : Nat → Nat) (a1 : Int32) (a2 : Int32) (σ : Sg) : CtI l yX8_at cX8_at 5 (some .int) 3 69 D cy ad sa [.ref (ad 35), .int a1, .int a2] σ (f_X8_at N a1 a2 σ) :=
  ct_I hl (by decide +kernel) (Nat.le_of_ble_eq_true rfl) (fun z res e1 e2 e3 e4 e5 e6 X Rt h => by subst e1 e2 e3 e4 e5; exact w_X8_at X ⟨e6.1, e6.2⟩ Rt N a1 a2 σ h)
