def f_X7_needElement (N : Nat) (a1 : Int32) (σ : Sg) : Option Out := if a1 < 0 then (some (.inl "java/util/NoSuchElementException", σ)) else (lt (σ 3 6) (fun v2 => if a1 < v2 then (some (.inr 0, σ)) else (some (.inl "java/util/NoSuchElementException", σ))))
set_option maxHeartbeats 4000000 in
set_option maxRecDepth 100000 in
theorem w_X7_needElement {z : Cz} (X : Cx z cX7_needElement 2 RX7) (hR : 6 ≤ (zR z).frames ∧ 90 ≤ (zR z).locals) {res : Out} (Rt : RtU z cX7_needElement 2 res) (Th : ThT z res) (N : Nat) (a1 : Int32) (σ : Sg) (h : f_X7_needElement N a1 σ = some res) : V z 0 2 0 [(0, .ref (zA z 0)), (1, .int a1)] [] σ := by
  rw [f_X7_needElement] at h
  refine r_iload_n X dX7_needElement_0 rfl 1 rfl ?_
  refine r_if_lt X 15 dX7_needElement_1 (by decide) h (fun g1 h => ?_) (fun g1 h => ?_)
  · exact r_throw X Th hR (by decide) (Nat.le_of_ble_eq_true rfl) (List.mem_of_getElem? (i := 10) rfl) tw_240_244 h dX7_needElement_15 dX7_needElement_18 dX7_needElement_19 dX7_needElement_21 dX7_needElement_24
  · refine r_iload_n X dX7_needElement_4 rfl 1 rfl ?_
    refine r_aload_n X dX7_needElement_5 rfl 0 rfl ?_
    refine gf_X7_21 X dX7_needElement_6 ?_
    refine gf_X7_116 X dX7_needElement_9 h (fun v2 h => ?_)
    refine r_icmp_lt X 25 dX7_needElement_12 (by decide) h (fun g3 h => ?_) (fun g3 h => ?_)
    · exact r_uret Rt dX7_needElement_25 h
    · exact r_throw X Th hR (by decide) (Nat.le_of_ble_eq_true rfl) (List.mem_of_getElem? (i := 10) rfl) tw_240_244 h dX7_needElement_15 dX7_needElement_18 dX7_needElement_19 dX7_needElement_21 dX7_needElement_24
theorem c_X7_needElement (l : Launch) (hl : l.stackTraces = false) (N : Nat) (D : va_G) (cy : Nat → ClassId) (ad sa : Nat → Nat) (a1 : Int32) (σ : Sg) : CtU l yX7_needElement cX7_needElement 2 6 90 D cy ad sa [.ref (ad 0), .int a1] σ (f_X7_needElement N a1 σ) :=
  ct_U hl (by decide +kernel) (Nat.le_of_ble_eq_true rfl) (fun z res e1 e2 e3 e4 e5 e6 X Rt Th h => by subst e1 e2 e3 e4 e5; exact w_X7_needElement X ⟨e6.1, e6.2⟩ Rt Th N a1 σ h)
def f_X7_element (N : Nat) (a1 : Int32) (a2 : Int32) (σ : Sg) : Option Out := cT (f_X7_needElement N a1 σ) (fun v1 σ2 => if a2 = 0 then (some (.inl "java/lang/IllegalArgumentException", σ2)) else (cI (f_X4_isRole N a2 σ2) (fun v4 σ5 => if v4 = 0 then (some (.inl "java/lang/IllegalArgumentException", σ5)) else (lt (σ5 3 6) (fun v7 => if v7 < 60 then (cI (f_X6_addElement N a1 a2 σ5) (fun v9 σ10 => some (.inr v9, σ10))) else (some (.inl "java/lang/UnsupportedOperationException", σ5)))))))
set_option maxHeartbeats 4000000 in
set_option maxRecDepth 100000 in
theorem w_X7_element {z : Cz} (X : Cx z cX7_element 3 RX7) (hR : 7 ≤ (zR z).frames ∧ 111 ≤ (zR z).locals) {res : Out} (Rt : RtT z cX7_element 3 res) (Th : ThT z res) (N : Nat) (a1 : Int32) (a2 : Int32) (σ : Sg) (h : f_X7_element N a1 a2 σ = some res) : V z 0 3 0 [(0, .ref (zA z 0)), (1, .int a1), (2, .int a2)] [] σ := by
  rw [f_X7_element] at h
  refine r_aload_n X dX7_element_0 rfl 0 rfl ?_
  refine r_iload_n X dX7_element_1 rfl 1 rfl ?_
  refine r_callVu X Th 0 7 (by decide) rfl rfl rfl lk_X7_101 (c_X7_needElement (zl z) X.2.2.2.2.2.2.2.1 N (zD z) (zy z) (zA z) (zS z) a1 σ) ⟨Nat.le_trans (by decide) hR.1, Nat.le_trans (by decide) hR.2⟩ rfl rfl (Nat.le_of_ble_eq_true rfl) dX7_element_2 h (fun v1 σ2 h => ?_)
  refine r_iload_n X dX7_element_5 rfl 2 rfl ?_
  refine r_if_eq X 16 dX7_element_6 (by decide) h (fun g3 h => ?_) (fun g3 h => ?_)
  · exact r_throw X Th hR (by decide) (Nat.le_of_ble_eq_true rfl) (List.mem_of_getElem? (i := 0) rfl) tw_109_113 h dX7_element_16 dX7_element_19 dX7_element_20 dX7_element_22 dX7_element_25
  · refine r_iload_n X dX7_element_9 rfl 2 rfl ?_
    refine r_callS X lk_X7_105 (c_X4_isRole (zl z) X.2.2.2.2.2.2.2.1 N (zD z) (zy z) (zA z) (zS z) a2 σ2) ⟨Nat.le_trans (by decide) hR.1, Nat.le_trans (by decide) hR.2⟩ rfl rfl (Nat.le_of_ble_eq_true rfl) dX7_element_10 h (fun v4 σ5 h => ?_)
    refine r_if_ne X 26 dX7_element_13 (by decide) h (fun g6 h => ?_) (fun g6 h => ?_)
    · exact r_throw X Th hR (by decide) (Nat.le_of_ble_eq_true rfl) (List.mem_of_getElem? (i := 0) rfl) tw_109_113 h dX7_element_16 dX7_element_19 dX7_element_20 dX7_element_22 dX7_element_25
    · refine r_aload_n X dX7_element_26 rfl 0 rfl ?_
      refine gf_X7_21 X dX7_element_27 ?_
      refine gf_X7_116 X dX7_element_30 h (fun v7 h => ?_)
      refine r_bipush X 60 dX7_element_33 (by decide) ?_
      refine r_icmp_lt X 48 dX7_element_35 (by decide) h (fun g8 h => ?_) (fun g8 h => ?_)
      · refine r_aload_n X dX7_element_48 rfl 0 rfl ?_
        refine gf_X7_21 X dX7_element_49 ?_
        refine r_iload_n X dX7_element_52 rfl 1 rfl ?_
        refine r_iload_n X dX7_element_53 rfl 2 rfl ?_
        refine r_callV X 3 6 (by decide) rfl rfl rfl lk_X7_124 (c_X6_addElement (zl z) X.2.2.2.2.2.2.2.1 N (zD z) (zy z) (zA z) (zS z) a1 a2 σ5) ⟨Nat.le_trans (by decide) hR.1, Nat.le_trans (by decide) hR.2⟩ rfl rfl (Nat.le_of_ble_eq_true rfl) dX7_element_54 h (fun v9 σ10 h => ?_)
        exact r_tret Rt dX7_element_57 h
      · exact r_throw X Th hR (by decide) (Nat.le_of_ble_eq_true rfl) (List.mem_of_getElem? (i := 1) rfl) tw_119_123 h dX7_element_38 dX7_element_41 dX7_element_42 dX7_element_44 dX7_element_47
theorem c_X7_element (l : Launch) (hl : l.stackTraces = false) (N : Nat) (D : va_G) (cy : Nat → ClassId) (ad sa : Nat → Nat) (a1 : Int32) (a2 : Int32) (σ : Sg) : CtT l yX7_element cX7_element 3 (some .int) 7 111 D cy ad sa [.ref (ad 0), .int a1, .int a2] σ (f_X7_element N a1 a2 σ) :=
  ct_T hl (by decide +kernel) (Nat.le_of_ble_eq_true rfl) (fun z res e1 e2 e3 e4 e5 e6 X Rt Th h => by subst e1 e2 e3 e4 e5; exact w_X7_element X ⟨e6.1, e6.2⟩ Rt Th N a1 a2 σ h)
def f_X7_map (N : Nat) (a1 : Int32) (a2 : Int32) (σ : Sg) : Option Out := cI (f_X4_isOwn N a1 σ) (fun v1 σ2 => if v1 = 0 then (some (.inl "java/lang/IllegalArgumentException", σ2)) else (cI (f_X4_isRole N a2 σ2) (fun v4 σ5 => if v4 = 0 then (some (.inl "java/lang/IllegalArgumentException", σ5)) else (cI (f_X4_leads N a2 a1 σ5) (fun v7 σ8 => if v7 = 0 then (cI (f_X4_lead N a1 a2 σ8) (fun v10 σ11 => some (.inr 1, σ11))) else (some (.inr 0, σ8)))))))
set_option maxHeartbeats 4000000 in
set_option maxRecDepth 100000 in
theorem w_X7_map {z : Cz} (X : Cx z cX7_map 3 RX7) (hR : 6 ≤ (zR z).frames ∧ 90 ≤ (zR z).locals) {res : Out} (Rt : RtT z cX7_map 3 res) (Th : ThT z res) (N : Nat) (a1 : Int32) (a2 : Int32) (σ : Sg) (h : f_X7_map N a1 a2 σ = some res) : V z 0 3 0 [(0, .ref (zA z 0)), (1, .int a1), (2, .int a2)] [] σ := by
  rw [f_X7_map] at h
  refine r_iload_n X dX7_map_0 rfl 1 rfl ?_
  refine r_callS X lk_X7_128 (c_X4_isOwn (zl z) X.2.2.2.2.2.2.2.1 N (zD z) (zy z) (zA z) (zS z) a1 σ) ⟨Nat.le_trans (by decide) hR.1, Nat.le_trans (by decide) hR.2⟩ rfl rfl (Nat.le_of_ble_eq_true rfl) dX7_map_1 h (fun v1 σ2 h => ?_)
  refine r_if_eq X 14 dX7_map_4 (by decide) h (fun g3 h => ?_) (fun g3 h => ?_)
  · exact r_throw X Th hR (by decide) (Nat.le_of_ble_eq_true rfl) (List.mem_of_getElem? (i := 2) rfl) tw_109_113 h dX7_map_14 dX7_map_17 dX7_map_18 dX7_map_20 dX7_map_23
  · refine r_iload_n X dX7_map_7 rfl 2 rfl ?_
    refine r_callS X lk_X7_105 (c_X4_isRole (zl z) X.2.2.2.2.2.2.2.1 N (zD z) (zy z) (zA z) (zS z) a2 σ2) ⟨Nat.le_trans (by decide) hR.1, Nat.le_trans (by decide) hR.2⟩ rfl rfl (Nat.le_of_ble_eq_true rfl) dX7_map_8 h (fun v4 σ5 h => ?_)
    refine r_if_ne X 24 dX7_map_11 (by decide) h (fun g6 h => ?_) (fun g6 h => ?_)
    · exact r_throw X Th hR (by decide) (Nat.le_of_ble_eq_true rfl) (List.mem_of_getElem? (i := 2) rfl) tw_109_113 h dX7_map_14 dX7_map_17 dX7_map_18 dX7_map_20 dX7_map_23
    · refine r_aload_n X dX7_map_24 rfl 0 rfl ?_
      refine gf_X7_12 X dX7_map_25 ?_
      refine r_iload_n X dX7_map_28 rfl 2 rfl ?_
      refine r_iload_n X dX7_map_29 rfl 1 rfl ?_
      refine r_callV X 1 4 (by decide) rfl rfl rfl lk_X7_133 (c_X4_leads (zl z) X.2.2.2.2.2.2.2.1 N (zD z) (zy z) (zA z) (zS z) a2 a1 σ5) ⟨Nat.le_trans (by decide) hR.1, Nat.le_trans (by decide) hR.2⟩ rfl rfl (Nat.le_of_ble_eq_true rfl) dX7_map_30 h (fun v7 σ8 h => ?_)
      refine r_if_eq X 38 dX7_map_33 (by decide) h (fun g9 h => ?_) (fun g9 h => ?_)
      · refine r_aload_n X dX7_map_38 rfl 0 rfl ?_
        refine gf_X7_12 X dX7_map_39 ?_
        refine r_iload_n X dX7_map_42 rfl 1 rfl ?_
        refine r_iload_n X dX7_map_43 rfl 2 rfl ?_
        refine r_callVv X 1 4 (by decide) rfl rfl rfl lk_X7_137 (c_X4_lead (zl z) X.2.2.2.2.2.2.2.1 N (zD z) (zy z) (zA z) (zS z) a1 a2 σ8) ⟨Nat.le_trans (by decide) hR.1, Nat.le_trans (by decide) hR.2⟩ rfl rfl (Nat.le_of_ble_eq_true rfl) dX7_map_44 h (fun v10 σ11 h => ?_)
        refine r_iconst X 1 dX7_map_47 (by decide) ?_
        exact r_tret Rt dX7_map_48 h
      · refine r_iconst X 0 dX7_map_36 (by decide) ?_
        exact r_tret Rt dX7_map_37 h
theorem c_X7_map (l : Launch) (hl : l.stackTraces = false) (N : Nat) (D : va_G) (cy : Nat → ClassId) (ad sa : Nat → Nat) (a1 : Int32) (a2 : Int32) (σ : Sg) : CtT l yX7_map cX7_map 3 (some .int) 6 90 D cy ad sa [.ref (ad 0), .int a1, .int a2] σ (f_X7_map N a1 a2 σ) :=
  ct_T hl (by decide +kernel) (Nat.le_of_ble_eq_true rfl) (fun z res e1 e2 e3 e4 e5 e6 X Rt Th h => by subst e1 e2 e3 e4 e5; exact w_X7_map X ⟨e6.1, e6.2⟩ Rt Th N a1 a2 σ h)
def f_X7_needCode (N : Nat) (a1 : Int32) (a2 : Int32) (σ : Sg) : Option Out := if a1 < 0 then (some (.inl "java/lang/IllegalArgumentException", σ)) else (if 10 ≤ a1 then (some (.inl "java/lang/IllegalArgumentException", σ)) else (if a2 < 0 then (some (.inl "java/lang/IllegalArgumentException", σ)) else (if a2 < 20 then (some (.inr ((a1 * 20) + a2), σ)) else (some (.inl "java/lang/IllegalArgumentException", σ)))))
set_option maxHeartbeats 4000000 in
set_option maxRecDepth 100000 in
theorem w_X7_needCode {z : Cz} (X : Cx z cX7_needCode 2 RX7) (hR : 6 ≤ (zR z).frames ∧ 90 ≤ (zR z).locals) {res : Out} (Rt : RtT z cX7_needCode 2 res) (Th : ThT z res) (N : Nat) (a1 : Int32) (a2 : Int32) (σ : Sg) (h : f_X7_needCode N a1 a2 σ = some res) : V z 0 2 0 [(0, .int a1), (1, .int a2)] [] σ := by
  rw [f_X7_needCode] at h
  refine r_iload_n X dX7_needCode_0 rfl 0 rfl ?_
  refine r_if_lt X 20 dX7_needCode_1 (by decide) h (fun g1 h => ?_) (fun g1 h => ?_)
  · exact r_throw X Th hR (by decide) (Nat.le_of_ble_eq_true rfl) (List.mem_of_getElem? (i := 11) rfl) tw_109_113 h dX7_needCode_20 dX7_needCode_23 dX7_needCode_24 dX7_needCode_26 dX7_needCode_29
  · refine r_iload_n X dX7_needCode_4 rfl 0 rfl ?_
    refine r_bipush X 10 dX7_needCode_5 (by decide) ?_
    refine r_icmp_ge X 20 dX7_needCode_7 (by decide) h (fun g2 h => ?_) (fun g2 h => ?_)
    · exact r_throw X Th hR (by decide) (Nat.le_of_ble_eq_true rfl) (List.mem_of_getElem? (i := 11) rfl) tw_109_113 h dX7_needCode_20 dX7_needCode_23 dX7_needCode_24 dX7_needCode_26 dX7_needCode_29
    · refine r_iload_n X dX7_needCode_10 rfl 1 rfl ?_
      refine r_if_lt X 20 dX7_needCode_11 (by decide) h (fun g3 h => ?_) (fun g3 h => ?_)
      · exact r_throw X Th hR (by decide) (Nat.le_of_ble_eq_true rfl) (List.mem_of_getElem? (i := 11) rfl) tw_109_113 h dX7_needCode_20 dX7_needCode_23 dX7_needCode_24 dX7_needCode_26 dX7_needCode_29
      · refine r_iload_n X dX7_needCode_14 rfl 1 rfl ?_
        refine r_bipush X 20 dX7_needCode_15 (by decide) ?_
        refine r_icmp_lt X 30 dX7_needCode_17 (by decide) h (fun g4 h => ?_) (fun g4 h => ?_)
        · refine r_iload_n X dX7_needCode_30 rfl 0 rfl ?_
          refine r_bipush X 20 dX7_needCode_31 (by decide) ?_
          refine r_imul X dX7_needCode_33 ?_
          refine r_iload_n X dX7_needCode_34 rfl 1 rfl ?_
          refine r_iadd X dX7_needCode_35 ?_
          exact r_tret Rt dX7_needCode_36 h
        · exact r_throw X Th hR (by decide) (Nat.le_of_ble_eq_true rfl) (List.mem_of_getElem? (i := 11) rfl) tw_109_113 h dX7_needCode_20 dX7_needCode_23 dX7_needCode_24 dX7_needCode_26 dX7_needCode_29
theorem c_X7_needCode (l : Launch) (hl : l.stackTraces = false) (N : Nat) (D : va_G) (cy : Nat → ClassId) (ad sa : Nat → Nat) (a1 : Int32) (a2 : Int32) (σ : Sg) : CtT l yX7_needCode cX7_needCode 2 (some .int) 6 90 D cy ad sa [.int a1, .int a2] σ (f_X7_needCode N a1 a2 σ) :=
  ct_T hl (by decide +kernel) (Nat.le_of_ble_eq_true rfl) (fun z res e1 e2 e3 e4 e5 e6 X Rt Th h => by subst e1 e2 e3 e4 e5; exact w_X7_needCode X ⟨e6.1, e6.2⟩ Rt Th N a1 a2 σ h)
def f_X7_keepRepeat (N : Nat) (a1 : Int32) (a2 : Int32) (σ : Sg) : Option (Int32 × Sg) := lt (σ 0 13) (fun v1 => if 40 ≤ v1 then (some (0, σ)) else (lt (σ 0 13) (fun v3 => wrA 40 σ 30 v3 a1 (fun σ4 => lt (σ4 0 13) (fun v5 => wrA 40 σ4 31 v5 a2 (fun σ6 => lt (σ6 0 13) (fun v7 => st (ss σ6 0 13 (v7 + 1)) (fun σ8 => some (0, σ8)))))))))
set_option maxHeartbeats 4000000 in
set_option maxRecDepth 100000 in
theorem w_X7_keepRepeat {z : Cz} (X : Cx z cX7_keepRepeat 3 RX7) (hR : 0 ≤ (zR z).frames ∧ 0 ≤ (zR z).locals) {res : (Int32 × Sg)} (Rt : RtV z cX7_keepRepeat 3 res) (N : Nat) (a1 : Int32) (a2 : Int32) (σ : Sg) (h : f_X7_keepRepeat N a1 a2 σ = some res) : V z 0 3 0 [(0, .ref (zA z 0)), (1, .int a1), (2, .int a2)] [] σ := by
  rw [f_X7_keepRepeat] at h
  refine r_aload_n X dX7_keepRepeat_0 rfl 0 rfl ?_
  refine gf_X7_82 X dX7_keepRepeat_1 h (fun v1 h => ?_)
  refine r_bipush X 40 dX7_keepRepeat_4 (by decide) ?_
  refine r_icmp_ge X 39 dX7_keepRepeat_6 (by decide) h (fun g2 h => ?_) (fun g2 h => ?_)
  · exact r_vret Rt dX7_keepRepeat_39 h
  · refine r_aload_n X dX7_keepRepeat_9 rfl 0 rfl ?_
    refine gf_X7_76 X dX7_keepRepeat_10 ?_
    refine r_aload_n X dX7_keepRepeat_13 rfl 0 rfl ?_
    refine gf_X7_82 X dX7_keepRepeat_14 h (fun v3 h => ?_)
    refine r_iload_n X dX7_keepRepeat_17 rfl 1 rfl ?_
    refine as_30 X dX7_keepRepeat_18 h (fun σ4 h => ?_)
    refine r_aload_n X dX7_keepRepeat_19 rfl 0 rfl ?_
    refine gf_X7_79 X dX7_keepRepeat_20 ?_
    refine r_aload_n X dX7_keepRepeat_23 rfl 0 rfl ?_
    refine gf_X7_82 X dX7_keepRepeat_24 h (fun v5 h => ?_)
    refine r_iload_n X dX7_keepRepeat_27 rfl 2 rfl ?_
    refine as_31 X dX7_keepRepeat_28 h (fun σ6 h => ?_)
    refine r_aload_n X dX7_keepRepeat_29 rfl 0 rfl ?_
    refine r_dup X dX7_keepRepeat_30 rfl ?_
    refine gf_X7_82 X dX7_keepRepeat_31 h (fun v7 h => ?_)
    refine r_iconst X 1 dX7_keepRepeat_34 (by decide) ?_
    refine r_iadd X dX7_keepRepeat_35 ?_
    refine pf_X7_82 X dX7_keepRepeat_36 h (fun σ8 h => ?_)
    exact r_vret Rt dX7_keepRepeat_39 h
theorem c_X7_keepRepeat (l : Launch) (hl : l.stackTraces = false) (N : Nat) (D : va_G) (cy : Nat → ClassId) (ad sa : Nat → Nat) (a1 : Int32) (a2 : Int32) (σ : Sg) : CtV l yX7_keepRepeat cX7_keepRepeat 3 0 0 D cy ad sa [.ref (ad 0), .int a1, .int a2] σ (f_X7_keepRepeat N a1 a2 σ) :=
  ct_V hl (by decide +kernel) (Nat.le_of_ble_eq_true rfl) (fun z res e1 e2 e3 e4 e5 e6 X Rt h => by subst e1 e2 e3 e4 e5; exact w_X7_keepRepeat X ⟨e6.1, e6.2⟩ Rt N a1 a2 σ h)
def f_X7_content (N : Nat) (a1 : Int32) (a2 : Int32) (a3 : Int32) (σ : Sg) : Option Out := cT (f_X7_needElement N a1 σ) (fun v1 σ2 => cT (f_X7_needCode N a2 a3 σ2) (fun v3 σ4 => cI (f_X6_holderOf N v3 σ4) (fun v5 σ6 => if v5 = (-1) then (lt (σ6 3 7) (fun v8 => if v8 < 100 then (cI (f_X6_addPart N a1 v3 σ6) (fun v10 σ11 => some (.inr 1, σ11))) else (some (.inl "java/lang/UnsupportedOperationException", σ6)))) else (cI (f_X7_keepRepeat N a1 v3 σ6) (fun v12 σ13 => some (.inr 0, σ13))))))
set_option maxHeartbeats 4000000 in
set_option maxRecDepth 100000 in
theorem w_X7_content {z : Cz} (X : Cx z cX7_content 5 RX7) (hR : 7 ≤ (zR z).frames ∧ 111 ≤ (zR z).locals) {res : Out} (Rt : RtT z cX7_content 5 res) (Th : ThT z res) (N : Nat) (a1 : Int32) (a2 : Int32) (a3 : Int32) (σ : Sg) (h : f_X7_content N a1 a2 a3 σ = some res) : V z 0 5 0 [(0, .ref (zA z 0)), (1, .int a1), (2, .int a2), (3, .int a3)] [] σ := by
  rw [f_X7_content] at h
  refine r_aload_n X dX7_content_0 rfl 0 rfl ?_
  refine r_iload_n X dX7_content_1 rfl 1 rfl ?_
  refine r_callVu X Th 0 7 (by decide) rfl rfl rfl lk_X7_101 (c_X7_needElement (zl z) X.2.2.2.2.2.2.2.1 N (zD z) (zy z) (zA z) (zS z) a1 σ) ⟨Nat.le_trans (by decide) hR.1, Nat.le_trans (by decide) hR.2⟩ rfl rfl (Nat.le_of_ble_eq_true rfl) dX7_content_2 h (fun v1 σ2 h => ?_)
  refine r_iload_n X dX7_content_5 rfl 2 rfl ?_
  refine r_iload_n X dX7_content_6 rfl 3 rfl ?_
  refine r_callSt X Th lk_X7_141 (c_X7_needCode (zl z) X.2.2.2.2.2.2.2.1 N (zD z) (zy z) (zA z) (zS z) a2 a3 σ2) ⟨Nat.le_trans (by decide) hR.1, Nat.le_trans (by decide) hR.2⟩ rfl rfl (Nat.le_of_ble_eq_true rfl) dX7_content_7 h (fun v3 σ4 h => ?_)
  refine r_istore X [(4, .int v3), (0, .ref (zA z 0)), (1, .int a1), (2, .int a2), (3, .int a3)] dX7_content_10 (by decide) rfl ?_
  refine r_aload_n X dX7_content_12 rfl 1 rfl ?_
  refine gf_X7_21 X dX7_content_13 ?_
  refine r_iload X dX7_content_16 0 rfl ?_
  refine r_callV X 3 6 (by decide) rfl rfl rfl lk_X7_144 (c_X6_holderOf (zl z) X.2.2.2.2.2.2.2.1 N (zD z) (zy z) (zA z) (zS z) v3 σ4) ⟨Nat.le_trans (by decide) hR.1, Nat.le_trans (by decide) hR.2⟩ rfl rfl (Nat.le_of_ble_eq_true rfl) dX7_content_18 h (fun v5 σ6 h => ?_)
  refine r_iconst X (-1) dX7_content_21 (by decide) ?_
  refine r_icmp_eq X 34 dX7_content_22 (by decide) h (fun g7 h => ?_) (fun g7 h => ?_)
  · refine r_aload_n X dX7_content_34 rfl 1 rfl ?_
    refine gf_X7_21 X dX7_content_35 ?_
    refine gf_X7_151 X dX7_content_38 h (fun v8 h => ?_)
    refine r_bipush X 100 dX7_content_41 (by decide) ?_
    refine r_icmp_lt X 56 dX7_content_43 (by decide) h (fun g9 h => ?_) (fun g9 h => ?_)
    · refine r_aload_n X dX7_content_56 rfl 1 rfl ?_
      refine gf_X7_21 X dX7_content_57 ?_
      refine r_iload_n X dX7_content_60 rfl 2 rfl ?_
      refine r_iload X dX7_content_61 0 rfl ?_
      refine r_callVv X 3 6 (by decide) rfl rfl rfl lk_X7_156 (c_X6_addPart (zl z) X.2.2.2.2.2.2.2.1 N (zD z) (zy z) (zA z) (zS z) a1 v3 σ6) ⟨Nat.le_trans (by decide) hR.1, Nat.le_trans (by decide) hR.2⟩ rfl rfl (Nat.le_of_ble_eq_true rfl) dX7_content_63 h (fun v10 σ11 h => ?_)
      refine r_iconst X 1 dX7_content_66 (by decide) ?_
      exact r_tret Rt dX7_content_67 h
    · exact r_throw X Th hR (by decide) (Nat.le_of_ble_eq_true rfl) (List.mem_of_getElem? (i := 3) rfl) tw_119_123 h dX7_content_46 dX7_content_49 dX7_content_50 dX7_content_52 dX7_content_55
  · refine r_aload_n X dX7_content_25 rfl 1 rfl ?_
    refine r_iload_n X dX7_content_26 rfl 2 rfl ?_
    refine r_iload X dX7_content_27 0 rfl ?_
    refine r_callVv X 0 7 (by decide) rfl rfl rfl lk_X7_148 (c_X7_keepRepeat (zl z) X.2.2.2.2.2.2.2.1 N (zD z) (zy z) (zA z) (zS z) a1 v3 σ6) ⟨Nat.le_trans (by decide) hR.1, Nat.le_trans (by decide) hR.2⟩ rfl rfl (Nat.le_of_ble_eq_true rfl) dX7_content_29 h (fun v12 σ13 h => ?_)
    refine r_iconst X 0 dX7_content_32 (by decide) ?_
    exact r_tret Rt dX7_content_33 h
theorem c_X7_content (l : Launch) (hl : l.stackTraces = false) (N : Nat) (D : va_G) (cy : Nat → ClassId) (ad sa : Nat → Nat) (a1 : Int32) (a2 : Int32) (a3 : Int32) (σ : Sg) : CtT l yX7_content cX7_content 5 (some .int) 7 111 D cy ad sa [.ref (ad 0), .int a1, .int a2, .int a3] σ (f_X7_content N a1 a2 a3 σ) :=
  ct_T hl (by decide +kernel) (Nat.le_of_ble_eq_true rfl) (fun z res e1 e2 e3 e4 e5 e6 X Rt Th h => by subst e1 e2 e3 e4 e5; exact w_X7_content X ⟨e6.1, e6.2⟩ Rt Th N a1 a2 a3 σ h)
def f_X7_shows (N : Nat) (a1 : Int32) (a2 : Int32) (σ : Sg) : Option Out := cT (f_X7_needCode N a1 a2 σ) (fun v1 σ2 => cI (f_X3_show N a1 a2 σ2) (fun v3 σ4 => some (.inr v3, σ4)))
set_option maxHeartbeats 4000000 in
set_option maxRecDepth 100000 in
theorem w_X7_shows {z : Cz} (X : Cx z cX7_shows 3 RX7) (hR : 7 ≤ (zR z).frames ∧ 111 ≤ (zR z).locals) {res : Out} (Rt : RtT z cX7_shows 3 res) (Th : ThT z res) (N : Nat) (a1 : Int32) (a2 : Int32) (σ : Sg) (h : f_X7_shows N a1 a2 σ = some res) : V z 0 3 0 [(0, .ref (zA z 0)), (1, .int a1), (2, .int a2)] [] σ := by
  rw [f_X7_shows] at h
  refine r_iload_n X dX7_shows_0 rfl 1 rfl ?_
  refine r_iload_n X dX7_shows_1 rfl 2 rfl ?_
  refine r_callSt X Th lk_X7_141 (c_X7_needCode (zl z) X.2.2.2.2.2.2.2.1 N (zD z) (zy z) (zA z) (zS z) a1 a2 σ) ⟨Nat.le_trans (by decide) hR.1, Nat.le_trans (by decide) hR.2⟩ rfl rfl (Nat.le_of_ble_eq_true rfl) dX7_shows_2 h (fun v1 σ2 h => ?_)
  refine r_pop X dX7_shows_5 rfl ?_
  refine r_aload_n X dX7_shows_6 rfl 0 rfl ?_
  refine gf_X7_37 X dX7_shows_7 ?_
  refine r_iload_n X dX7_shows_10 rfl 1 rfl ?_
  refine r_iload_n X dX7_shows_11 rfl 2 rfl ?_
  refine r_callV X 12 3 (by decide) rfl rfl rfl lk_X7_159 (c_X3_show (zl z) X.2.2.2.2.2.2.2.1 N (zD z) (zy z) (zA z) (zS z) a1 a2 σ2) ⟨Nat.le_trans (by decide) hR.1, Nat.le_trans (by decide) hR.2⟩ rfl rfl (Nat.le_of_ble_eq_true rfl) dX7_shows_12 h (fun v3 σ4 h => ?_)
  exact r_tret Rt dX7_shows_15 h
theorem c_X7_shows (l : Launch) (hl : l.stackTraces = false) (N : Nat) (D : va_G) (cy : Nat → ClassId) (ad sa : Nat → Nat) (a1 : Int32) (a2 : Int32) (σ : Sg) : CtT l yX7_shows cX7_shows 3 (some .int) 7 111 D cy ad sa [.ref (ad 0), .int a1, .int a2] σ (f_X7_shows N a1 a2 σ) :=
  ct_T hl (by decide +kernel) (Nat.le_of_ble_eq_true rfl) (fun z res e1 e2 e3 e4 e5 e6 X Rt Th h => by subst e1 e2 e3 e4 e5; exact w_X7_shows X ⟨e6.1, e6.2⟩ Rt Th N a1 a2 σ h)
def f_X7_walk (N : Nat) (σ : Sg) : Option (Int32 × Sg) := cI (f_X5_follow N σ) (fun v1 σ2 => lt (σ2 9 4) (fun v3 => some (v3, σ2)))
set_option maxHeartbeats 4000000 in
set_option maxRecDepth 100000 in
theorem w_X7_walk {z : Cz} (X : Cx z cX7_walk 1 RX7) (hR : 5 ≤ (zR z).frames ∧ 107 ≤ (zR z).locals) {res : (Int32 × Sg)} (Rt : RtI z cX7_walk 1 .int res) (N : Nat) (σ : Sg) (h : f_X7_walk N σ = some res) : V z 0 1 0 [(0, .ref (zA z 0))] [] σ := by
  rw [f_X7_walk] at h
  refine r_aload_n X dX7_walk_0 rfl 0 rfl ?_
  refine gf_X7_30 X dX7_walk_1 ?_
  refine r_callVv X 9 5 (by decide) rfl rfl rfl lk_X7_162 (c_X5_follow (zl z) X.2.2.2.2.2.2.2.1 N (zD z) (zy z) (zA z) (zS z) σ) ⟨Nat.le_trans (by decide) hR.1, Nat.le_trans (by decide) hR.2⟩ rfl rfl (Nat.le_of_ble_eq_true rfl) dX7_walk_4 h (fun v1 σ2 h => ?_)
  refine r_aload_n X dX7_walk_7 rfl 0 rfl ?_
  refine gf_X7_30 X dX7_walk_8 ?_
  refine gf_X7_165 X dX7_walk_11 h (fun v3 h => ?_)
  exact r_iret Rt dX7_walk_14 h
theorem c_X7_walk (l : Launch) (hl : l.stackTraces = false) (N : Nat) (D : va_G) (cy : Nat → ClassId) (ad sa : Nat → Nat) (σ : Sg) : CtI l yX7_walk cX7_walk 1 (some .int) 5 107 D cy ad sa [.ref (ad 0)] σ (f_X7_walk N σ) :=
  ct_I hl (by decide +kernel) (Nat.le_of_ble_eq_true rfl) (fun z res e1 e2 e3 e4 e5 e6 X Rt h => by subst e1 e2 e3 e4 e5; exact w_X7_walk X ⟨e6.1, e6.2⟩ Rt N σ h)
def f_X7_needWhat (N : Nat) (a1 : Int32) (σ : Sg) : Option Out := if a1 < 0 then (some (.inl "java/lang/IndexOutOfBoundsException", σ)) else (if a1 ≤ 2 then (some (.inr 0, σ)) else (some (.inl "java/lang/IndexOutOfBoundsException", σ)))
set_option maxHeartbeats 4000000 in
set_option maxRecDepth 100000 in
theorem w_X7_needWhat {z : Cz} (X : Cx z cX7_needWhat 1 RX7) (hR : 6 ≤ (zR z).frames ∧ 90 ≤ (zR z).locals) {res : Out} (Rt : RtU z cX7_needWhat 1 res) (Th : ThT z res) (N : Nat) (a1 : Int32) (σ : Sg) (h : f_X7_needWhat N a1 σ = some res) : V z 0 1 0 [(0, .int a1)] [] σ := by
  rw [f_X7_needWhat] at h
  refine r_iload_n X dX7_needWhat_0 rfl 0 rfl ?_
  refine r_if_lt X 9 dX7_needWhat_1 (by decide) h (fun g1 h => ?_) (fun g1 h => ?_)
  · exact r_throw X Th hR (by decide) (Nat.le_of_ble_eq_true rfl) (List.mem_of_getElem? (i := 12) rfl) tw_169_173 h dX7_needWhat_9 dX7_needWhat_12 dX7_needWhat_13 dX7_needWhat_15 dX7_needWhat_18
  · refine r_iload_n X dX7_needWhat_4 rfl 0 rfl ?_
    refine r_iconst X 2 dX7_needWhat_5 (by decide) ?_
    refine r_icmp_le X 19 dX7_needWhat_6 (by decide) h (fun g2 h => ?_) (fun g2 h => ?_)
    · exact r_uret Rt dX7_needWhat_19 h
    · exact r_throw X Th hR (by decide) (Nat.le_of_ble_eq_true rfl) (List.mem_of_getElem? (i := 12) rfl) tw_169_173 h dX7_needWhat_9 dX7_needWhat_12 dX7_needWhat_13 dX7_needWhat_15 dX7_needWhat_18
theorem c_X7_needWhat (l : Launch) (hl : l.stackTraces = false) (N : Nat) (D : va_G) (cy : Nat → ClassId) (ad sa : Nat → Nat) (a1 : Int32) (σ : Sg) : CtU l yX7_needWhat cX7_needWhat 1 6 90 D cy ad sa [.int a1] σ (f_X7_needWhat N a1 σ) :=
  ct_U hl (by decide +kernel) (Nat.le_of_ble_eq_true rfl) (fun z res e1 e2 e3 e4 e5 e6 X Rt Th h => by subst e1 e2 e3 e4 e5; exact w_X7_needWhat X ⟨e6.1, e6.2⟩ Rt Th N a1 σ h)
def f_X7_at (N : Nat) (a1 : Int32) (a2 : Int32) (σ : Sg) : Option Out := cT (f_X7_needWhat N a2 σ) (fun v1 σ2 => cI (f_X5_follow N σ2) (fun v3 σ4 => if a1 < 0 then (some (.inl "java/lang/IndexOutOfBoundsException", σ4)) else (lt (σ4 9 4) (fun v6 => if a1 < v6 then (rdA 100 (σ4 11) a1 (fun v8 => if a2 = 0 then (some (.inr (v8 / 20), σ4)) else (if a2 = 1 then (some (.inr (v8 - v8 / 20 * 20), σ4)) else (cI (f_X6_holderOf N v8 σ4) (fun v11 σ12 => some (.inr v11, σ12)))))) else (some (.inl "java/lang/IndexOutOfBoundsException", σ4))))))
set_option maxHeartbeats 4000000 in
set_option maxRecDepth 100000 in
theorem w_X7_at {z : Cz} (X : Cx z cX7_at 4 RX7) (hR : 7 ≤ (zR z).frames ∧ 110 ≤ (zR z).locals) {res : Out} (Rt : RtT z cX7_at 4 res) (Th : ThT z res) (N : Nat) (a1 : Int32) (a2 : Int32) (σ : Sg) (h : f_X7_at N a1 a2 σ = some res) : V z 0 4 0 [(0, .ref (zA z 0)), (1, .int a1), (2, .int a2)] [] σ := by
  rw [f_X7_at] at h
  refine r_iload_n X dX7_at_0 rfl 2 rfl ?_
  refine r_callSu X Th lk_X7_166 (c_X7_needWhat (zl z) X.2.2.2.2.2.2.2.1 N (zD z) (zy z) (zA z) (zS z) a2 σ) ⟨Nat.le_trans (by decide) hR.1, Nat.le_trans (by decide) hR.2⟩ rfl rfl (Nat.le_of_ble_eq_true rfl) dX7_at_1 h (fun v1 σ2 h => ?_)
  refine r_aload_n X dX7_at_4 rfl 0 rfl ?_
  refine gf_X7_30 X dX7_at_5 ?_
  refine r_callVv X 9 5 (by decide) rfl rfl rfl lk_X7_162 (c_X5_follow (zl z) X.2.2.2.2.2.2.2.1 N (zD z) (zy z) (zA z) (zS z) σ2) ⟨Nat.le_trans (by decide) hR.1, Nat.le_trans (by decide) hR.2⟩ rfl rfl (Nat.le_of_ble_eq_true rfl) dX7_at_8 h (fun v3 σ4 h => ?_)
  refine r_iload_n X dX7_at_11 rfl 1 rfl ?_
  refine r_if_lt X 26 dX7_at_12 (by decide) h (fun g5 h => ?_) (fun g5 h => ?_)
  · exact r_throw X Th hR (by decide) (Nat.le_of_ble_eq_true rfl) (List.mem_of_getElem? (i := 4) rfl) tw_169_173 h dX7_at_26 dX7_at_29 dX7_at_30 dX7_at_32 dX7_at_35
  · refine r_iload_n X dX7_at_15 rfl 1 rfl ?_
    refine r_aload_n X dX7_at_16 rfl 0 rfl ?_
    refine gf_X7_30 X dX7_at_17 ?_
    refine gf_X7_165 X dX7_at_20 h (fun v6 h => ?_)
    refine r_icmp_lt X 36 dX7_at_23 (by decide) h (fun g7 h => ?_) (fun g7 h => ?_)
    · refine r_aload_n X dX7_at_36 rfl 0 rfl ?_
      refine gf_X7_30 X dX7_at_37 ?_
      refine gf_X7_174 X dX7_at_40 ?_
      refine r_iload_n X dX7_at_43 rfl 1 rfl ?_
      refine al_11 X dX7_at_44 h (fun v8 h => ?_)
      refine r_istore_n X [(3, .int v8), (0, .ref (zA z 0)), (1, .int a1), (2, .int a2)] dX7_at_45 rfl (by decide) rfl ?_
      refine r_iload_n X dX7_at_46 rfl 3 rfl ?_
      refine r_if_ne X 57 dX7_at_47 (by decide) h (fun g9 h => ?_) (fun g9 h => ?_)
      · refine r_iload_n X dX7_at_50 rfl 0 rfl ?_
        refine r_bipush X 20 dX7_at_51 (by decide) ?_
        refine r_idiv X dX7_at_53 (by decide) ?_
        refine r_goto X 77 dX7_at_54 (by decide) ?_
        exact r_tret Rt dX7_at_77 h
      · refine r_iload_n X dX7_at_57 rfl 3 rfl ?_
        refine r_iconst X 1 dX7_at_58 (by decide) ?_
        refine r_icmp_ne X 69 dX7_at_59 (by decide) h (fun g10 h => ?_) (fun g10 h => ?_)
        · refine r_iload_n X dX7_at_62 rfl 0 rfl ?_
          refine r_bipush X 20 dX7_at_63 (by decide) ?_
          refine r_irem X dX7_at_65 (by decide) ?_
          refine r_goto X 77 dX7_at_66 (by decide) ?_
          exact r_tret Rt dX7_at_77 h
        · refine r_aload_n X dX7_at_69 rfl 1 rfl ?_
          refine gf_X7_21 X dX7_at_70 ?_
          refine r_iload_n X dX7_at_73 rfl 0 rfl ?_
          refine r_callV X 3 6 (by decide) rfl rfl rfl lk_X7_144 (c_X6_holderOf (zl z) X.2.2.2.2.2.2.2.1 N (zD z) (zy z) (zA z) (zS z) v8 σ4) ⟨Nat.le_trans (by decide) hR.1, Nat.le_trans (by decide) hR.2⟩ rfl rfl (Nat.le_of_ble_eq_true rfl) dX7_at_74 h (fun v11 σ12 h => ?_)
          exact r_tret Rt dX7_at_77 h
    · exact r_throw X Th hR (by decide) (Nat.le_of_ble_eq_true rfl) (List.mem_of_getElem? (i := 4) rfl) tw_169_173 h dX7_at_26 dX7_at_29 dX7_at_30 dX7_at_32 dX7_at_35
theorem c_X7_at (l : Launch) (hl : l.stackTraces = false) (N : Nat) (D : va_G) (cy : Nat → ClassId) (ad sa : Nat → Nat) (a1 : Int32) (a2 : Int32) (σ : Sg) : CtT l yX7_at cX7_at 4 (some .int) 7 110 D cy ad sa [.ref (ad 0), .int a1, .int a2] σ (f_X7_at N a1 a2 σ) :=
  ct_T hl (by decide +kernel) (Nat.le_of_ble_eq_true rfl) (fun z res e1 e2 e3 e4 e5 e6 X Rt Th h => by subst e1 e2 e3 e4 e5; exact w_X7_at X ⟨e6.1, e6.2⟩ Rt Th N a1 a2 σ h)
def f_X7_parent (N : Nat) (a1 : Int32) (a2 : Int32) (σ : Sg) : Option Out := cT (f_X7_needCode N a1 a2 σ) (fun v1 σ2 => cI (f_X6_holderOf N v1 σ2) (fun v3 σ4 => some (.inr v3, σ4)))
set_option maxHeartbeats 4000000 in
set_option maxRecDepth 100000 in
theorem w_X7_parent {z : Cz} (X : Cx z cX7_parent 3 RX7) (hR : 7 ≤ (zR z).frames ∧ 111 ≤ (zR z).locals) {res : Out} (Rt : RtT z cX7_parent 3 res) (Th : ThT z res) (N : Nat) (a1 : Int32) (a2 : Int32) (σ : Sg) (h : f_X7_parent N a1 a2 σ = some res) : V z 0 3 0 [(0, .ref (zA z 0)), (1, .int a1), (2, .int a2)] [] σ := by
  rw [f_X7_parent] at h
  refine r_aload_n X dX7_parent_0 rfl 0 rfl ?_
  refine gf_X7_21 X dX7_parent_1 ?_
  refine r_iload_n X dX7_parent_4 rfl 1 rfl ?_
  refine r_iload_n X dX7_parent_5 rfl 2 rfl ?_
  refine r_callSt X Th lk_X7_141 (c_X7_needCode (zl z) X.2.2.2.2.2.2.2.1 N (zD z) (zy z) (zA z) (zS z) a1 a2 σ) ⟨Nat.le_trans (by decide) hR.1, Nat.le_trans (by decide) hR.2⟩ rfl rfl (Nat.le_of_ble_eq_true rfl) dX7_parent_6 h (fun v1 σ2 h => ?_)
  refine r_callV X 3 6 (by decide) rfl rfl rfl lk_X7_144 (c_X6_holderOf (zl z) X.2.2.2.2.2.2.2.1 N (zD z) (zy z) (zA z) (zS z) v1 σ2) ⟨Nat.le_trans (by decide) hR.1, Nat.le_trans (by decide) hR.2⟩ rfl rfl (Nat.le_of_ble_eq_true rfl) dX7_parent_9 h (fun v3 σ4 h => ?_)
  exact r_tret Rt dX7_parent_12 h
theorem c_X7_parent (l : Launch) (hl : l.stackTraces = false) (N : Nat) (D : va_G) (cy : Nat → ClassId) (ad sa : Nat → Nat) (a1 : Int32) (a2 : Int32) (σ : Sg) : CtT l yX7_parent cX7_parent 3 (some .int) 7 111 D cy ad sa [.ref (ad 0), .int a1, .int a2] σ (f_X7_parent N a1 a2 σ) :=
  ct_T hl (by decide +kernel) (Nat.le_of_ble_eq_true rfl) (fun z res e1 e2 e3 e4 e5 e6 X Rt Th h => by subst e1 e2 e3 e4 e5; exact w_X7_parent X ⟨e6.1, e6.2⟩ Rt Th N a1 a2 σ h)
def f_X7_findElementsWithoutStandard_2 (N : Nat) (K : Sg → Option (Int32 × Sg)) : Nat → Int32 → Sg → Option (Int32 × Sg)
  | 0, _, _ => none
  | n + 1, x1, σ => lt (σ 3 6) (fun v1 => if v1 ≤ x1 then (K σ) else (cI (f_X6_standardOf N x1 σ) (fun v3 σ4 => if v3 = (-1) then (cI (f_X0_append N 1 x1 0 σ4) (fun v7 σ8 => lt (x1 + 1) (fun v9 => f_X7_findElementsWithoutStandard_2 N K n v9 σ8))) else (lt (x1 + 1) (fun v6 => f_X7_findElementsWithoutStandard_2 N K n v6 σ4)))))
def f_X7_findElementsWithoutStandard (N : Nat) (σ : Sg) : Option (Int32 × Sg) := f_X7_findElementsWithoutStandard_2 N (fun σ10 => some (0, σ10)) N 0 σ
set_option maxHeartbeats 4000000 in
set_option maxRecDepth 100000 in
theorem w_X7_findElementsWithoutStandard_2 {z : Cz} (X : Cx z cX7_findElementsWithoutStandard 2 RX7) (hR : 3 ≤ (zR z).frames ∧ 64 ≤ (zR z).locals) {res : (Int32 × Sg)} (N : Nat) (K : Sg → Option (Int32 × Sg)) (kx : ∀ (σ : Sg), K σ = some res → V z 0 2 41 [] [] σ) : ∀ (n : Nat) (x1 : Int32) (σ : Sg), f_X7_findElementsWithoutStandard_2 N K n x1 σ = some res → V z 0 2 2 [(0, .ref (zA z 0)), (1, .int x1)] [] σ := by
  intro n
  induction n with
  | zero =>
    intro x1 σ h
    rw [f_X7_findElementsWithoutStandard_2] at h
    cases h
  | succ n ih =>
    intro x1 σ h
    rw [f_X7_findElementsWithoutStandard_2] at h
    refine r_iload_n X dX7_findElementsWithoutStandard_2 rfl 1 rfl ?_
    refine r_aload_n X dX7_findElementsWithoutStandard_3 rfl 0 rfl ?_
    refine gf_X7_21 X dX7_findElementsWithoutStandard_4 ?_
    refine gf_X7_116 X dX7_findElementsWithoutStandard_7 h (fun v1 h => ?_)
    refine r_icmp_ge X 41 dX7_findElementsWithoutStandard_10 (by decide) h (fun g2 h => ?_) (fun g2 h => ?_)
    · refine r_sub [] rfl ?_
      exact kx  σ h
    · refine r_aload_n X dX7_findElementsWithoutStandard_13 rfl 0 rfl ?_
      refine gf_X7_21 X dX7_findElementsWithoutStandard_14 ?_
      refine r_iload_n X dX7_findElementsWithoutStandard_17 rfl 1 rfl ?_
      refine r_callV X 3 6 (by decide) rfl rfl rfl lk_X7_253 (c_X6_standardOf (zl z) X.2.2.2.2.2.2.2.1 N (zD z) (zy z) (zA z) (zS z) x1 σ) ⟨Nat.le_trans (by decide) hR.1, Nat.le_trans (by decide) hR.2⟩ rfl rfl (Nat.le_of_ble_eq_true rfl) dX7_findElementsWithoutStandard_18 h (fun v3 σ4 h => ?_)
      refine r_iconst X (-1) dX7_findElementsWithoutStandard_21 (by decide) ?_
      refine r_icmp_ne X 35 dX7_findElementsWithoutStandard_22 (by decide) h (fun g5 h => ?_) (fun g5 h => ?_)
      · refine r_aload_n X dX7_findElementsWithoutStandard_25 rfl 0 rfl ?_
        refine gf_X7_58 X dX7_findElementsWithoutStandard_26 ?_
        refine r_iconst X 1 dX7_findElementsWithoutStandard_29 (by decide) ?_
        refine r_iload_n X dX7_findElementsWithoutStandard_30 rfl 1 rfl ?_
        refine r_iconst X 0 dX7_findElementsWithoutStandard_31 (by decide) ?_
        refine r_callVv X 22 0 (by decide) rfl rfl rfl lk_X7_265 (c_X0_append (zl z) X.2.2.2.2.2.2.2.1 N (zD z) (zy z) (zA z) (zS z) 1 x1 0 σ4) ⟨Nat.le_trans (by decide) hR.1, Nat.le_trans (by decide) hR.2⟩ rfl rfl (Nat.le_of_ble_eq_true rfl) dX7_findElementsWithoutStandard_32 h (fun v7 σ8 h => ?_)
        refine r_iinc X 1 (fun v9 => [(1, .int v9), (0, .ref (zA z 0))]) dX7_findElementsWithoutStandard_35 1 rfl (by decide) (by decide) (fun _ => rfl) h (fun v9 h => ?_)
        refine r_goto X 2 dX7_findElementsWithoutStandard_38 (by decide) ?_
        refine r_sub [1, 0] rfl ?_
        exact ih v9 σ8 h
      · refine r_iinc X 1 (fun v6 => [(1, .int v6), (0, .ref (zA z 0))]) dX7_findElementsWithoutStandard_35 1 rfl (by decide) (by decide) (fun _ => rfl) h (fun v6 h => ?_)
        refine r_goto X 2 dX7_findElementsWithoutStandard_38 (by decide) ?_
        refine r_sub [1, 0] rfl ?_
        exact ih v6 σ4 h
set_option maxHeartbeats 4000000 in
set_option maxRecDepth 100000 in
theorem w_X7_findElementsWithoutStandard {z : Cz} (X : Cx z cX7_findElementsWithoutStandard 2 RX7) (hR : 3 ≤ (zR z).frames ∧ 64 ≤ (zR z).locals) {res : (Int32 × Sg)} (Rt : RtV z cX7_findElementsWithoutStandard 2 res) (N : Nat) (σ : Sg) (h : f_X7_findElementsWithoutStandard N σ = some res) : V z 0 2 0 [(0, .ref (zA z 0))] [] σ := by
  rw [f_X7_findElementsWithoutStandard] at h
  refine r_iconst X 0 dX7_findElementsWithoutStandard_0 (by decide) ?_
  refine r_istore_n X [(1, .int 0), (0, .ref (zA z 0))] dX7_findElementsWithoutStandard_1 rfl (by decide) rfl ?_
  refine r_sub [1, 0] rfl ?_
  refine w_X7_findElementsWithoutStandard_2 X hR N _ (fun σ10 h => ?_) N 0 σ h
  exact r_vret Rt dX7_findElementsWithoutStandard_41 h
theorem c_X7_findElementsWithoutStandard (l : Launch) (hl : l.stackTraces = false) (N : Nat) (D : va_G) (cy : Nat → ClassId) (ad sa : Nat → Nat) (σ : Sg) : CtV l yX7_findElementsWithoutStandard cX7_findElementsWithoutStandard 2 3 64 D cy ad sa [.ref (ad 0)] σ (f_X7_findElementsWithoutStandard N σ) :=
  ct_V hl (by decide +kernel) (Nat.le_of_ble_eq_true rfl) (fun z res e1 e2 e3 e4 e5 e6 X Rt h => by subst e1 e2 e3 e4 e5; exact w_X7_findElementsWithoutStandard X ⟨e6.1, e6.2⟩ Rt N σ h)
def f_X7_findHeadingsWithoutLevel_2 (N : Nat) (K : Sg → Option (Int32 × Sg)) : Nat → Int32 → Sg → Option (Int32 × Sg)
  | 0, _, _ => none
  | n + 1, x1, σ => lt (σ 3 6) (fun v1 => if v1 ≤ x1 then (K σ) else (cI (f_X6_standardOf N x1 σ) (fun v3 σ4 => if v3 = 2 then (rdA 60 (σ4 26) x1 (fun v7 => if v7 = 0 then (cI (f_X0_append N 2 x1 0 σ4) (fun v10 σ11 => lt (x1 + 1) (fun v12 => f_X7_findHeadingsWithoutLevel_2 N K n v12 σ11))) else (lt (x1 + 1) (fun v9 => f_X7_findHeadingsWithoutLevel_2 N K n v9 σ4)))) else (lt (x1 + 1) (fun v6 => f_X7_findHeadingsWithoutLevel_2 N K n v6 σ4)))))
def f_X7_findHeadingsWithoutLevel (N : Nat) (σ : Sg) : Option (Int32 × Sg) := f_X7_findHeadingsWithoutLevel_2 N (fun σ13 => some (0, σ13)) N 0 σ
set_option maxHeartbeats 4000000 in
set_option maxRecDepth 100000 in
theorem w_X7_findHeadingsWithoutLevel_2 {z : Cz} (X : Cx z cX7_findHeadingsWithoutLevel 2 RX7) (hR : 3 ≤ (zR z).frames ∧ 64 ≤ (zR z).locals) {res : (Int32 × Sg)} (N : Nat) (K : Sg → Option (Int32 × Sg)) (kx : ∀ (σ : Sg), K σ = some res → V z 0 2 50 [] [] σ) : ∀ (n : Nat) (x1 : Int32) (σ : Sg), f_X7_findHeadingsWithoutLevel_2 N K n x1 σ = some res → V z 0 2 2 [(0, .ref (zA z 0)), (1, .int x1)] [] σ := by
  intro n
  induction n with
  | zero =>
    intro x1 σ h
    rw [f_X7_findHeadingsWithoutLevel_2] at h
    cases h
  | succ n ih =>
    intro x1 σ h
    rw [f_X7_findHeadingsWithoutLevel_2] at h
    refine r_iload_n X dX7_findHeadingsWithoutLevel_2 rfl 1 rfl ?_
    refine r_aload_n X dX7_findHeadingsWithoutLevel_3 rfl 0 rfl ?_
    refine gf_X7_21 X dX7_findHeadingsWithoutLevel_4 ?_
    refine gf_X7_116 X dX7_findHeadingsWithoutLevel_7 h (fun v1 h => ?_)
    refine r_icmp_ge X 50 dX7_findHeadingsWithoutLevel_10 (by decide) h (fun g2 h => ?_) (fun g2 h => ?_)
    · refine r_sub [] rfl ?_
      exact kx  σ h
    · refine r_aload_n X dX7_findHeadingsWithoutLevel_13 rfl 0 rfl ?_
      refine gf_X7_21 X dX7_findHeadingsWithoutLevel_14 ?_
      refine r_iload_n X dX7_findHeadingsWithoutLevel_17 rfl 1 rfl ?_
      refine r_callV X 3 6 (by decide) rfl rfl rfl lk_X7_253 (c_X6_standardOf (zl z) X.2.2.2.2.2.2.2.1 N (zD z) (zy z) (zA z) (zS z) x1 σ) ⟨Nat.le_trans (by decide) hR.1, Nat.le_trans (by decide) hR.2⟩ rfl rfl (Nat.le_of_ble_eq_true rfl) dX7_findHeadingsWithoutLevel_18 h (fun v3 σ4 h => ?_)
      refine r_iconst X 2 dX7_findHeadingsWithoutLevel_21 (by decide) ?_
      refine r_icmp_ne X 44 dX7_findHeadingsWithoutLevel_22 (by decide) h (fun g5 h => ?_) (fun g5 h => ?_)
      · refine r_aload_n X dX7_findHeadingsWithoutLevel_25 rfl 0 rfl ?_
        refine gf_X7_62 X dX7_findHeadingsWithoutLevel_26 ?_
        refine r_iload_n X dX7_findHeadingsWithoutLevel_29 rfl 1 rfl ?_
        refine al_26 X dX7_findHeadingsWithoutLevel_30 h (fun v7 h => ?_)
        refine r_if_ne X 44 dX7_findHeadingsWithoutLevel_31 (by decide) h (fun g8 h => ?_) (fun g8 h => ?_)
        · refine r_aload_n X dX7_findHeadingsWithoutLevel_34 rfl 0 rfl ?_
          refine gf_X7_58 X dX7_findHeadingsWithoutLevel_35 ?_
          refine r_iconst X 2 dX7_findHeadingsWithoutLevel_38 (by decide) ?_
          refine r_iload_n X dX7_findHeadingsWithoutLevel_39 rfl 1 rfl ?_
          refine r_iconst X 0 dX7_findHeadingsWithoutLevel_40 (by decide) ?_
          refine r_callVv X 22 0 (by decide) rfl rfl rfl lk_X7_265 (c_X0_append (zl z) X.2.2.2.2.2.2.2.1 N (zD z) (zy z) (zA z) (zS z) 2 x1 0 σ4) ⟨Nat.le_trans (by decide) hR.1, Nat.le_trans (by decide) hR.2⟩ rfl rfl (Nat.le_of_ble_eq_true rfl) dX7_findHeadingsWithoutLevel_41 h (fun v10 σ11 h => ?_)
          refine r_iinc X 1 (fun v12 => [(1, .int v12), (0, .ref (zA z 0))]) dX7_findHeadingsWithoutLevel_44 1 rfl (by decide) (by decide) (fun _ => rfl) h (fun v12 h => ?_)
          refine r_goto X 2 dX7_findHeadingsWithoutLevel_47 (by decide) ?_
          refine r_sub [1, 0] rfl ?_
          exact ih v12 σ11 h
        · refine r_iinc X 1 (fun v9 => [(1, .int v9), (0, .ref (zA z 0))]) dX7_findHeadingsWithoutLevel_44 1 rfl (by decide) (by decide) (fun _ => rfl) h (fun v9 h => ?_)
          refine r_goto X 2 dX7_findHeadingsWithoutLevel_47 (by decide) ?_
          refine r_sub [1, 0] rfl ?_
          exact ih v9 σ4 h
      · refine r_iinc X 1 (fun v6 => [(1, .int v6), (0, .ref (zA z 0))]) dX7_findHeadingsWithoutLevel_44 1 rfl (by decide) (by decide) (fun _ => rfl) h (fun v6 h => ?_)
        refine r_goto X 2 dX7_findHeadingsWithoutLevel_47 (by decide) ?_
        refine r_sub [1, 0] rfl ?_
        exact ih v6 σ4 h
set_option maxHeartbeats 4000000 in
set_option maxRecDepth 100000 in
theorem w_X7_findHeadingsWithoutLevel {z : Cz} (X : Cx z cX7_findHeadingsWithoutLevel 2 RX7) (hR : 3 ≤ (zR z).frames ∧ 64 ≤ (zR z).locals) {res : (Int32 × Sg)} (Rt : RtV z cX7_findHeadingsWithoutLevel 2 res) (N : Nat) (σ : Sg) (h : f_X7_findHeadingsWithoutLevel N σ = some res) : V z 0 2 0 [(0, .ref (zA z 0))] [] σ := by
  rw [f_X7_findHeadingsWithoutLevel] at h
  refine r_iconst X 0 dX7_findHeadingsWithoutLevel_0 (by decide) ?_
  refine r_istore_n X [(1, .int 0), (0, .ref (zA z 0))] dX7_findHeadingsWithoutLevel_1 rfl (by decide) rfl ?_
  refine r_sub [1, 0] rfl ?_
  refine w_X7_findHeadingsWithoutLevel_2 X hR N _ (fun σ13 h => ?_) N 0 σ h
  exact r_vret Rt dX7_findHeadingsWithoutLevel_50 h
theorem c_X7_findHeadingsWithoutLevel (l : Launch) (hl : l.stackTraces = false) (N : Nat) (D : va_G) (cy : Nat → ClassId) (ad sa : Nat → Nat) (σ : Sg) : CtV l yX7_findHeadingsWithoutLevel cX7_findHeadingsWithoutLevel 2 3 64 D cy ad sa [.ref (ad 0)] σ (f_X7_findHeadingsWithoutLevel N σ) :=
  ct_V hl (by decide +kernel) (Nat.le_of_ble_eq_true rfl) (fun z res e1 e2 e3 e4 e5 e6 X Rt h => by subst e1 e2 e3 e4 e5; exact w_X7_findHeadingsWithoutLevel X ⟨e6.1, e6.2⟩ Rt N σ h)
def f_X7_gatherHeadings_17 (N : Nat) (K : Sg → Option (Int32 × Sg)) : Nat → Int32 → Sg → Option (Int32 × Sg)
  | 0, _, _ => none
  | n + 1, x1, σ => lt (σ 9 3) (fun v4 => if v4 ≤ x1 then (K σ) else (rdA 60 (σ 10) x1 (fun v6 => rdA 60 (σ 26) v6 (fun v7 => if v7 = 0 then (lt (x1 + 1) (fun v9 => f_X7_gatherHeadings_17 N K n v9 σ)) else (cI (f_X6_standardOf N v6 σ) (fun v10 σ11 => if v10 = 2 then (rdA 60 (σ11 26) v6 (fun v14 => cI (f_X2_append N v6 v14 σ11) (fun v15 σ16 => lt (x1 + 1) (fun v17 => f_X7_gatherHeadings_17 N K n v17 σ16)))) else (lt (x1 + 1) (fun v13 => f_X7_gatherHeadings_17 N K n v13 σ11))))))))
def f_X7_gatherHeadings (N : Nat) (σ : Sg) : Option (Int32 × Sg) := cI (f_X5_follow N σ) (fun v1 σ2 => st (ss σ2 16 3 0) (fun σ3 => f_X7_gatherHeadings_17 N (fun σ18 => some (0, σ18)) N 0 σ3))
set_option maxHeartbeats 4000000 in
set_option maxRecDepth 100000 in
theorem w_X7_gatherHeadings_17 {z : Cz} (X : Cx z cX7_gatherHeadings 3 RX7) (hR : 5 ≤ (zR z).frames ∧ 107 ≤ (zR z).locals) {res : (Int32 × Sg)} (N : Nat) (K : Sg → Option (Int32 × Sg)) (kx : ∀ (σ : Sg), K σ = some res → V z 0 3 79 [] [] σ) : ∀ (n : Nat) (x1 : Int32) (σ : Sg), f_X7_gatherHeadings_17 N K n x1 σ = some res → V z 0 3 17 [(0, .ref (zA z 0)), (1, .int x1)] [] σ := by
  intro n
  induction n with
  | zero =>
    intro x1 σ h
    rw [f_X7_gatherHeadings_17] at h
    cases h
  | succ n ih =>
    intro x1 σ h
    rw [f_X7_gatherHeadings_17] at h
    refine r_iload_n X dX7_gatherHeadings_17 rfl 1 rfl ?_
    refine r_aload_n X dX7_gatherHeadings_18 rfl 0 rfl ?_
    refine gf_X7_30 X dX7_gatherHeadings_19 ?_
    refine gf_X7_249 X dX7_gatherHeadings_22 h (fun v4 h => ?_)
    refine r_icmp_ge X 79 dX7_gatherHeadings_25 (by decide) h (fun g5 h => ?_) (fun g5 h => ?_)
    · refine r_sub [] rfl ?_
      exact kx  σ h
    · refine r_aload_n X dX7_gatherHeadings_28 rfl 0 rfl ?_
      refine gf_X7_30 X dX7_gatherHeadings_29 ?_
      refine gf_X7_250 X dX7_gatherHeadings_32 ?_
      refine r_iload_n X dX7_gatherHeadings_35 rfl 1 rfl ?_
      refine al_10 X dX7_gatherHeadings_36 h (fun v6 h => ?_)
      refine r_istore_n X [(2, .int v6), (0, .ref (zA z 0)), (1, .int x1)] dX7_gatherHeadings_37 rfl (by decide) rfl ?_
      refine r_aload_n X dX7_gatherHeadings_38 rfl 1 rfl ?_
      refine gf_X7_62 X dX7_gatherHeadings_39 ?_
      refine r_iload_n X dX7_gatherHeadings_42 rfl 0 rfl ?_
      refine al_26 X dX7_gatherHeadings_43 h (fun v7 h => ?_)
      refine r_if_eq X 73 dX7_gatherHeadings_44 (by decide) h (fun g8 h => ?_) (fun g8 h => ?_)
      · refine r_iinc X 1 (fun v9 => [(1, .int v9), (2, .int v6), (0, .ref (zA z 0))]) dX7_gatherHeadings_73 2 rfl (by decide) (by decide) (fun _ => rfl) h (fun v9 h => ?_)
        refine r_goto X 17 dX7_gatherHeadings_76 (by decide) ?_
        refine r_sub [2, 0] rfl ?_
        exact ih v9 σ h
      · refine r_aload_n X dX7_gatherHeadings_47 rfl 1 rfl ?_
        refine gf_X7_21 X dX7_gatherHeadings_48 ?_
        refine r_iload_n X dX7_gatherHeadings_51 rfl 0 rfl ?_
        refine r_callV X 3 6 (by decide) rfl rfl rfl lk_X7_253 (c_X6_standardOf (zl z) X.2.2.2.2.2.2.2.1 N (zD z) (zy z) (zA z) (zS z) v6 σ) ⟨Nat.le_trans (by decide) hR.1, Nat.le_trans (by decide) hR.2⟩ rfl rfl (Nat.le_of_ble_eq_true rfl) dX7_gatherHeadings_52 h (fun v10 σ11 h => ?_)
        refine r_iconst X 2 dX7_gatherHeadings_55 (by decide) ?_
        refine r_icmp_ne X 73 dX7_gatherHeadings_56 (by decide) h (fun g12 h => ?_) (fun g12 h => ?_)
        · refine r_aload_n X dX7_gatherHeadings_59 rfl 1 rfl ?_
          refine gf_X7_44 X dX7_gatherHeadings_60 ?_
          refine r_iload_n X dX7_gatherHeadings_63 rfl 0 rfl ?_
          refine r_aload_n X dX7_gatherHeadings_64 rfl 1 rfl ?_
          refine gf_X7_62 X dX7_gatherHeadings_65 ?_
          refine r_iload_n X dX7_gatherHeadings_68 rfl 0 rfl ?_
          refine al_26 X dX7_gatherHeadings_69 h (fun v14 h => ?_)
          refine r_callVv X 16 2 (by decide) rfl rfl rfl lk_X7_256 (c_X2_append (zl z) X.2.2.2.2.2.2.2.1 N (zD z) (zy z) (zA z) (zS z) v6 v14 σ11) ⟨Nat.le_trans (by decide) hR.1, Nat.le_trans (by decide) hR.2⟩ rfl rfl (Nat.le_of_ble_eq_true rfl) dX7_gatherHeadings_70 h (fun v15 σ16 h => ?_)
          refine r_iinc X 1 (fun v17 => [(1, .int v17), (2, .int v6), (0, .ref (zA z 0))]) dX7_gatherHeadings_73 2 rfl (by decide) (by decide) (fun _ => rfl) h (fun v17 h => ?_)
          refine r_goto X 17 dX7_gatherHeadings_76 (by decide) ?_
          refine r_sub [2, 0] rfl ?_
          exact ih v17 σ16 h
        · refine r_iinc X 1 (fun v13 => [(1, .int v13), (2, .int v6), (0, .ref (zA z 0))]) dX7_gatherHeadings_73 2 rfl (by decide) (by decide) (fun _ => rfl) h (fun v13 h => ?_)
          refine r_goto X 17 dX7_gatherHeadings_76 (by decide) ?_
          refine r_sub [2, 0] rfl ?_
          exact ih v13 σ11 h
set_option maxHeartbeats 4000000 in
set_option maxRecDepth 100000 in
theorem w_X7_gatherHeadings {z : Cz} (X : Cx z cX7_gatherHeadings 3 RX7) (hR : 5 ≤ (zR z).frames ∧ 107 ≤ (zR z).locals) {res : (Int32 × Sg)} (Rt : RtV z cX7_gatherHeadings 3 res) (N : Nat) (σ : Sg) (h : f_X7_gatherHeadings N σ = some res) : V z 0 3 0 [(0, .ref (zA z 0))] [] σ := by
  rw [f_X7_gatherHeadings] at h
  refine r_aload_n X dX7_gatherHeadings_0 rfl 0 rfl ?_
  refine gf_X7_30 X dX7_gatherHeadings_1 ?_
  refine r_callVv X 9 5 (by decide) rfl rfl rfl lk_X7_162 (c_X5_follow (zl z) X.2.2.2.2.2.2.2.1 N (zD z) (zy z) (zA z) (zS z) σ) ⟨Nat.le_trans (by decide) hR.1, Nat.le_trans (by decide) hR.2⟩ rfl rfl (Nat.le_of_ble_eq_true rfl) dX7_gatherHeadings_4 h (fun v1 σ2 h => ?_)
  refine r_aload_n X dX7_gatherHeadings_7 rfl 0 rfl ?_
  refine gf_X7_44 X dX7_gatherHeadings_8 ?_
  refine r_iconst X 0 dX7_gatherHeadings_11 (by decide) ?_
  refine pf_X7_227 X dX7_gatherHeadings_12 h (fun σ3 h => ?_)
  refine r_iconst X 0 dX7_gatherHeadings_15 (by decide) ?_
  refine r_istore_n X [(1, .int 0), (0, .ref (zA z 0))] dX7_gatherHeadings_16 rfl (by decide) rfl ?_
  refine r_sub [1, 0] rfl ?_
  refine w_X7_gatherHeadings_17 X hR N _ (fun σ18 h => ?_) N 0 σ3 h
  exact r_vret Rt dX7_gatherHeadings_79 h
theorem c_X7_gatherHeadings (l : Launch) (hl : l.stackTraces = false) (N : Nat) (D : va_G) (cy : Nat → ClassId) (ad sa : Nat → Nat) (σ : Sg) : CtV l yX7_gatherHeadings cX7_gatherHeadings 3 5 107 D cy ad sa [.ref (ad 0)] σ (f_X7_gatherHeadings N σ) :=
  ct_V hl (by decide +kernel) (Nat.le_of_ble_eq_true rfl) (fun z res e1 e2 e3 e4 e5 e6 X Rt h => by subst e1 e2 e3 e4 e5; exact w_X7_gatherHeadings X ⟨e6.1, e6.2⟩ Rt N σ h)
def f_X7_findSkippedLevels_8 (N : Nat) (K : Sg → Option (Int32 × Sg)) : Nat → Int32 → Int32 → Sg → Option (Int32 × Sg)
  | 0, _, _, _ => none
  | n + 1, x1, x2, σ => lt (σ 16 3) (fun v3 => if v3 ≤ x2 then (K σ) else (rdA 60 (σ 18) x2 (fun v5 => if v5 ≤ (x1 + 1) then (lt (x2 + 1) (fun v7 => f_X7_findSkippedLevels_8 N K n v5 v7 σ)) else (rdA 60 (σ 17) x2 (fun v8 => cI (f_X0_append N 3 v8 v5 σ) (fun v9 σ10 => lt (x2 + 1) (fun v11 => f_X7_findSkippedLevels_8 N K n v5 v11 σ10)))))))
def f_X7_findSkippedLevels (N : Nat) (σ : Sg) : Option (Int32 × Sg) := cI (f_X7_gatherHeadings N σ) (fun v1 σ2 => f_X7_findSkippedLevels_8 N (fun σ12 => some (0, σ12)) N 0 0 σ2)
set_option maxHeartbeats 4000000 in
set_option maxRecDepth 100000 in
theorem w_X7_findSkippedLevels_8 {z : Cz} (X : Cx z cX7_findSkippedLevels 4 RX7) (hR : 6 ≤ (zR z).frames ∧ 129 ≤ (zR z).locals) {res : (Int32 × Sg)} (N : Nat) (K : Sg → Option (Int32 × Sg)) (kx : ∀ (σ : Sg), K σ = some res → V z 0 4 62 [] [] σ) : ∀ (n : Nat) (x1 : Int32) (x2 : Int32) (σ : Sg), f_X7_findSkippedLevels_8 N K n x1 x2 σ = some res → V z 0 4 8 [(0, .ref (zA z 0)), (1, .int x1), (2, .int x2)] [] σ := by
  intro n
  induction n with
  | zero =>
    intro x1 x2 σ h
    rw [f_X7_findSkippedLevels_8] at h
    cases h
  | succ n ih =>
    intro x1 x2 σ h
    rw [f_X7_findSkippedLevels_8] at h
    refine r_iload_n X dX7_findSkippedLevels_8 rfl 2 rfl ?_
    refine r_aload_n X dX7_findSkippedLevels_9 rfl 0 rfl ?_
    refine gf_X7_44 X dX7_findSkippedLevels_10 ?_
    refine gf_X7_227 X dX7_findSkippedLevels_13 h (fun v3 h => ?_)
    refine r_icmp_ge X 62 dX7_findSkippedLevels_16 (by decide) h (fun g4 h => ?_) (fun g4 h => ?_)
    · refine r_sub [] rfl ?_
      exact kx  σ h
    · refine r_aload_n X dX7_findSkippedLevels_19 rfl 0 rfl ?_
      refine gf_X7_44 X dX7_findSkippedLevels_20 ?_
      refine gf_X7_234 X dX7_findSkippedLevels_23 ?_
      refine r_iload_n X dX7_findSkippedLevels_26 rfl 2 rfl ?_
      refine al_18 X dX7_findSkippedLevels_27 h (fun v5 h => ?_)
      refine r_istore_n X [(3, .int v5), (0, .ref (zA z 0)), (1, .int x1), (2, .int x2)] dX7_findSkippedLevels_28 rfl (by decide) rfl ?_
      refine r_iload_n X dX7_findSkippedLevels_29 rfl 0 rfl ?_
      refine r_iload_n X dX7_findSkippedLevels_30 rfl 2 rfl ?_
      refine r_iconst X 1 dX7_findSkippedLevels_31 (by decide) ?_
      refine r_iadd X dX7_findSkippedLevels_32 ?_
      refine r_icmp_le X 54 dX7_findSkippedLevels_33 (by decide) h (fun g6 h => ?_) (fun g6 h => ?_)
      · refine r_iload_n X dX7_findSkippedLevels_54 rfl 0 rfl ?_
        refine r_istore_n X [(1, .int v5), (3, .int v5), (0, .ref (zA z 0)), (2, .int x2)] dX7_findSkippedLevels_55 rfl (by decide) rfl ?_
        refine r_iinc X 1 (fun v7 => [(2, .int v7), (1, .int v5), (3, .int v5), (0, .ref (zA z 0))]) dX7_findSkippedLevels_56 3 rfl (by decide) (by decide) (fun _ => rfl) h (fun v7 h => ?_)
        refine r_goto X 8 dX7_findSkippedLevels_59 (by decide) ?_
        refine r_sub [3, 1, 0] rfl ?_
        exact ih v5 v7 σ h
      · refine r_aload_n X dX7_findSkippedLevels_36 rfl 1 rfl ?_
        refine gf_X7_58 X dX7_findSkippedLevels_37 ?_
        refine r_iconst X 3 dX7_findSkippedLevels_40 (by decide) ?_
        refine r_aload_n X dX7_findSkippedLevels_41 rfl 1 rfl ?_
        refine gf_X7_44 X dX7_findSkippedLevels_42 ?_
        refine gf_X7_230 X dX7_findSkippedLevels_45 ?_
        refine r_iload_n X dX7_findSkippedLevels_48 rfl 3 rfl ?_
        refine al_17 X dX7_findSkippedLevels_49 h (fun v8 h => ?_)
        refine r_iload_n X dX7_findSkippedLevels_50 rfl 0 rfl ?_
        refine r_callVv X 22 0 (by decide) rfl rfl rfl lk_X7_265 (c_X0_append (zl z) X.2.2.2.2.2.2.2.1 N (zD z) (zy z) (zA z) (zS z) 3 v8 v5 σ) ⟨Nat.le_trans (by decide) hR.1, Nat.le_trans (by decide) hR.2⟩ rfl rfl (Nat.le_of_ble_eq_true rfl) dX7_findSkippedLevels_51 h (fun v9 σ10 h => ?_)
        refine r_iload_n X dX7_findSkippedLevels_54 rfl 0 rfl ?_
        refine r_istore_n X [(1, .int v5), (3, .int v5), (0, .ref (zA z 0)), (2, .int x2)] dX7_findSkippedLevels_55 rfl (by decide) rfl ?_
        refine r_iinc X 1 (fun v11 => [(2, .int v11), (1, .int v5), (3, .int v5), (0, .ref (zA z 0))]) dX7_findSkippedLevels_56 3 rfl (by decide) (by decide) (fun _ => rfl) h (fun v11 h => ?_)
        refine r_goto X 8 dX7_findSkippedLevels_59 (by decide) ?_
        refine r_sub [3, 1, 0] rfl ?_
        exact ih v5 v11 σ10 h
set_option maxHeartbeats 4000000 in
set_option maxRecDepth 100000 in
theorem w_X7_findSkippedLevels {z : Cz} (X : Cx z cX7_findSkippedLevels 4 RX7) (hR : 6 ≤ (zR z).frames ∧ 129 ≤ (zR z).locals) {res : (Int32 × Sg)} (Rt : RtV z cX7_findSkippedLevels 4 res) (N : Nat) (σ : Sg) (h : f_X7_findSkippedLevels N σ = some res) : V z 0 4 0 [(0, .ref (zA z 0))] [] σ := by
  rw [f_X7_findSkippedLevels] at h
  refine r_aload_n X dX7_findSkippedLevels_0 rfl 0 rfl ?_
  refine r_callVv X 0 7 (by decide) rfl rfl rfl lk_X7_224 (c_X7_gatherHeadings (zl z) X.2.2.2.2.2.2.2.1 N (zD z) (zy z) (zA z) (zS z) σ) ⟨Nat.le_trans (by decide) hR.1, Nat.le_trans (by decide) hR.2⟩ rfl rfl (Nat.le_of_ble_eq_true rfl) dX7_findSkippedLevels_1 h (fun v1 σ2 h => ?_)
  refine r_iconst X 0 dX7_findSkippedLevels_4 (by decide) ?_
  refine r_istore_n X [(1, .int 0), (0, .ref (zA z 0))] dX7_findSkippedLevels_5 rfl (by decide) rfl ?_
  refine r_iconst X 0 dX7_findSkippedLevels_6 (by decide) ?_
  refine r_istore_n X [(2, .int 0), (1, .int 0), (0, .ref (zA z 0))] dX7_findSkippedLevels_7 rfl (by decide) rfl ?_
  refine r_sub [2, 1, 0] rfl ?_
  refine w_X7_findSkippedLevels_8 X hR N _ (fun σ12 h => ?_) N 0 0 σ2 h
  exact r_vret Rt dX7_findSkippedLevels_62 h
theorem c_X7_findSkippedLevels (l : Launch) (hl : l.stackTraces = false) (N : Nat) (D : va_G) (cy : Nat → ClassId) (ad sa : Nat → Nat) (σ : Sg) : CtV l yX7_findSkippedLevels cX7_findSkippedLevels 4 6 129 D cy ad sa [.ref (ad 0)] σ (f_X7_findSkippedLevels N σ) :=
  ct_V hl (by decide +kernel) (Nat.le_of_ble_eq_true rfl) (fun z res e1 e2 e3 e4 e5 e6 X Rt h => by subst e1 e2 e3 e4 e5; exact w_X7_findSkippedLevels X ⟨e6.1, e6.2⟩ Rt N σ h)
def f_X7_isCell (N : Nat) (a1 : Int32) (σ : Sg) : Option (Int32 × Sg) := if a1 = 8 then (some (1, σ)) else (if a1 = 9 then (some (1, σ)) else (some (0, σ)))
set_option maxHeartbeats 4000000 in
set_option maxRecDepth 100000 in
theorem w_X7_isCell {z : Cz} (X : Cx z cX7_isCell 1 RX7) (hR : 0 ≤ (zR z).frames ∧ 0 ≤ (zR z).locals) {res : (Int32 × Sg)} (Rt : RtI z cX7_isCell 1 .boolean res) (N : Nat) (a1 : Int32) (σ : Sg) (h : f_X7_isCell N a1 σ = some res) : V z 0 1 0 [(0, .int a1)] [] σ := by
  rw [f_X7_isCell] at h
  refine r_iload_n X dX7_isCell_0 rfl 0 rfl ?_
  refine r_bipush X 8 dX7_isCell_1 (by decide) ?_
  refine r_icmp_eq X 12 dX7_isCell_3 (by decide) h (fun g1 h => ?_) (fun g1 h => ?_)
  · refine r_iconst X 1 dX7_isCell_12 (by decide) ?_
    refine r_goto X 17 dX7_isCell_13 (by decide) ?_
    exact r_zretC Rt dX7_isCell_17 (by decide) h
  · refine r_iload_n X dX7_isCell_6 rfl 0 rfl ?_
    refine r_bipush X 9 dX7_isCell_7 (by decide) ?_
    refine r_icmp_ne X 16 dX7_isCell_9 (by decide) h (fun g2 h => ?_) (fun g2 h => ?_)
    · refine r_iconst X 1 dX7_isCell_12 (by decide) ?_
      refine r_goto X 17 dX7_isCell_13 (by decide) ?_
      exact r_zretC Rt dX7_isCell_17 (by decide) h
    · refine r_iconst X 0 dX7_isCell_16 (by decide) ?_
      exact r_zretC Rt dX7_isCell_17 (by decide) h
theorem c_X7_isCell (l : Launch) (hl : l.stackTraces = false) (N : Nat) (D : va_G) (cy : Nat → ClassId) (ad sa : Nat → Nat) (a1 : Int32) (σ : Sg) : CtI l yX7_isCell cX7_isCell 1 (some .boolean) 0 0 D cy ad sa [.int a1] σ (f_X7_isCell N a1 σ) :=
  ct_I hl (by decide +kernel) (Nat.le_of_ble_eq_true rfl) (fun z res e1 e2 e3 e4 e5 e6 X Rt h => by subst e1 e2 e3 e4 e5; exact w_X7_isCell X ⟨e6.1, e6.2⟩ Rt N a1 σ h)
def f_X7_neededParent (N : Nat) (a1 : Int32) (σ : Sg) : Option (Int32 × Sg) := if a1 = 5 then (some (4, σ)) else (if a1 = 7 then (some (6, σ)) else (cI (f_X7_isCell N a1 σ) (fun v3 σ4 => if v3 = 0 then (some ((-1), σ4)) else (some (7, σ4)))))
set_option maxHeartbeats 4000000 in
set_option maxRecDepth 100000 in
theorem w_X7_neededParent {z : Cz} (X : Cx z cX7_neededParent 1 RX7) (hR : 1 ≤ (zR z).frames ∧ 20 ≤ (zR z).locals) {res : (Int32 × Sg)} (Rt : RtI z cX7_neededParent 1 .int res) (N : Nat) (a1 : Int32) (σ : Sg) (h : f_X7_neededParent N a1 σ = some res) : V z 0 1 0 [(0, .int a1)] [] σ := by
  rw [f_X7_neededParent] at h
  refine r_iload_n X dX7_neededParent_0 rfl 0 rfl ?_
  refine r_iconst X 5 dX7_neededParent_1 (by decide) ?_
  refine r_icmp_ne X 7 dX7_neededParent_2 (by decide) h (fun g1 h => ?_) (fun g1 h => ?_)
  · refine r_iconst X 4 dX7_neededParent_5 (by decide) ?_
    exact r_iret Rt dX7_neededParent_6 h
  · refine r_iload_n X dX7_neededParent_7 rfl 0 rfl ?_
    refine r_bipush X 7 dX7_neededParent_8 (by decide) ?_
    refine r_icmp_ne X 16 dX7_neededParent_10 (by decide) h (fun g2 h => ?_) (fun g2 h => ?_)
    · refine r_bipush X 6 dX7_neededParent_13 (by decide) ?_
      exact r_iret Rt dX7_neededParent_15 h
    · refine r_iload_n X dX7_neededParent_16 rfl 0 rfl ?_
      refine r_callS X lk_X7_277 (c_X7_isCell (zl z) X.2.2.2.2.2.2.2.1 N (zD z) (zy z) (zA z) (zS z) a1 σ) ⟨Nat.le_trans (by decide) hR.1, Nat.le_trans (by decide) hR.2⟩ rfl rfl (Nat.le_of_ble_eq_true rfl) dX7_neededParent_17 h (fun v3 σ4 h => ?_)
      refine r_if_eq X 28 dX7_neededParent_20 (by decide) h (fun g5 h => ?_) (fun g5 h => ?_)
      · refine r_iconst X (-1) dX7_neededParent_28 (by decide) ?_
        exact r_iret Rt dX7_neededParent_29 h
      · refine r_bipush X 7 dX7_neededParent_23 (by decide) ?_
        refine r_goto X 29 dX7_neededParent_25 (by decide) ?_
        exact r_iret Rt dX7_neededParent_29 h
theorem c_X7_neededParent (l : Launch) (hl : l.stackTraces = false) (N : Nat) (D : va_G) (cy : Nat → ClassId) (ad sa : Nat → Nat) (a1 : Int32) (σ : Sg) : CtI l yX7_neededParent cX7_neededParent 1 (some .int) 1 20 D cy ad sa [.int a1] σ (f_X7_neededParent N a1 σ) :=
  ct_I hl (by decide +kernel) (Nat.le_of_ble_eq_true rfl) (fun z res e1 e2 e3 e4 e5 e6 X Rt h => by subst e1 e2 e3 e4 e5; exact w_X7_neededParent X ⟨e6.1, e6.2⟩ Rt N a1 σ h)
