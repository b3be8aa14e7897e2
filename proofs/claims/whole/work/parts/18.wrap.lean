/-! ===== the law's own small methods: a call, and what they catch ===== -/
def CtW (l : Launch) (y : MethodName) (code : ByteArray) (maxL : Nat) (hh : List (Nat × Nat × Nat × Nat)) (fr lo : Nat) (D : va_G) (cy : Nat → ClassId) (ad sa : Nat → Nat) (avs : List Value) (σ : Sg) (x : Option (Int32 × Sg)) : Prop :=
  ∀ (sz : Nat) (r : Int32) (σ' : Sg), x = some (r, σ') → vx_Met l y (Cond.codeWith y code maxL (some .int) hh :: ALL) (rm fr lo 1 6) (Pm D cy ad sa avs σ sz) (Qi D cy ad sz r σ') (fun _ _ _ => False) 1 6 (Ar ad sz)
def cC (x : Option Out) (K : Int32 → Sg → Option (Int32 × Sg)) (KX : String → Sg → Option (Int32 × Sg)) : Option (Int32 × Sg) := match x with
  | none => none
  | some (.inl E, σ) => KX E σ
  | some (.inr r, σ) => K r σ
def RtW (z : Cz) (cc : ByteArray) (nL : Nat) (res : Int32 × Sg) : Prop := ∀ (k pc : Nat) (lv : List (Nat × Value)) (v : Int32) (σ : Sg), k ≤ 1 → decode cc pc = .ok (.ireturn, 1) → (v, σ) = res → V z k nL pc lv [.int v] σ
/-- a thrown object over the frame -/
def VX (z : Cz) (nL pc : Nat) (lv : List (Nat × Value)) (E : String) (σ : Sg) : Prop :=
  ∀ (H : Heap) (locs : List Loc) (ls : Array Slot) (rest : List Value) (ce : Cell) (q9 : Addr), va_P (zD z) vwCl (wW (zy z) (zA z) σ) H → va_D (Ar (zA z) (zs z).heap.size) (wW (zy z) (zA z) σ) → va_S (Ar (zA z) (zs z).heap.size) (zs z).heap H locs → lv_has ls nL lv → H[q9]? = some ce → ce.vm = .none → (zs z).vm.findClass E = some ce.cls →
    vx_W (zp z) (zl z) (ze z) (zR z) (zs z) (zm z) (za z) (zb z) (zh z) (zc z) H locs (z0 z + 1) (z1 z + 6 * 1) (zQ z) (F0 (zm z) pc ls rest) q9
def Rz (z : Cz) : Prop := 1 ≤ (zR z).cells ∧ 6 ≤ (zR z).slots ∧ z0 z = 0 ∧ z1 z = 0
section WR
variable {z : Cz} {k nL pc : Nat} {lv : List (Nat × Value)} {rest : List Value} {σ : Sg} {cc : ByteArray} {own : String} {res : Int32 × Sg}
theorem r_wret (Rt : RtW z cc nL res) {v : Int32} (hk : k ≤ 1) (hdg : decode cc pc = .ok (.ireturn, 1)) (h : some (v, σ) = some res) : V z k nL pc lv [.int v] σ := Rt k pc lv v σ hk hdg (Option.some.inj h)
theorem r_catch (X : Cx z cc nL own) (hz : Rz z) {E name : String} (pre : List ExceptionTableEntry) (x : ExceptionTableEntry) (suf : List ExceptionTableEntry) (hsplit : (zc z).exceptionTable.toList = pre ++ x :: suf)
    (hpass : ∀ y ∈ pre, y.catchType ≠ 0 ∧ ∃ nm : String, Cond.classLink own y.catchType nm ∈ ALL ∧ (E, nm) ∈ Ncs) (hx : covers x pc = true) (h0 : x.catchType ≠ 0) (hlink : Cond.classLink own x.catchType name ∈ ALL) (hcast : Cond.castable E name ∈ Nst) (kk : ∀ q9 : Nat, V z 1 nL x.handlerPc lv [.ref q9] σ) : VX z nL pc lv E σ :=
  fun H locs ls rest ce q9 hP hD hS hl hce hcv hcl =>
    vx_catch X.2.2.2.1 pre x suf hsplit (fun y hy => Or.inr ⟨(hpass y hy).1, (hpass y hy).2.choose, X.2.2.2.2.1 _ (hpass y hy).2.choose_spec.1, X.2.2.2.2.2.2.1.2.2.1 _ (hpass y hy).2.choose_spec.2⟩) hx h0 (X.2.2.2.2.1 _ hlink) (va_Nw.use (nst_on (Nst_k _ hcast)) (X.2.2.2.2.2.2.1.1 _ hcast)) hce hcv hcl
      (kk q9 H locs ls ⟨by rw [hz.2.2.1]; exact hz.1, by rw [hz.2.2.2]; exact hz.2.1⟩ hP hD hS hl)
variable {index : Nat} {C : String} {y : MethodName} {code : ByteArray} {maxL : Nat} {ret : Option FieldType} {n fr lo : Nat} {As : List Value}
theorem r_callC {x : Option Out} {K : Int32 → Sg → Option (Int32 × Sg)} {KX : String → Sg → Option (Int32 × Sg)} (X : Cx z cc nL own) (hz : Rz z) (q ci : Nat) {fs : List Value} {CC : vw_C} (hq : q < 57) (he : ccW (zy z) (zA z) q (σ q) = .inr (ci, fs)) (hc9 : vwCl[ci]? = some CC) (hC : CC.1 = C) (L : LkV own index C y code maxL ret n) (hM : CtT (zl z) y code maxL ret fr lo (zD z) (zy z) (zA z) (zS z) (.ref (zA z q) :: As) σ x) (hR : fr + 1 ≤ (zR z).frames ∧ 8 + (maxL + 11) + lo ≤ (zR z).locals) (hn : As.length = n) {stk : List Value} (hst : stk = As.reverse ++ .ref (zA z q) :: rest) (hw : (rest.map fun v => v.category).sum ≤ 8)
    (hdg : decode cc pc = .ok (.invokevirtual index, 3)) (h : cC x K KX = some res) (kk : ∀ (r : Int32) (σ' : Sg), K r σ' = some res → V z 0 nL (pc + 3) lv (.int r :: rest) σ') (kx : ∀ (E : String) (σ' : Sg), KX E σ' = some res → VX z nL pc lv E σ') : V z 0 nL pc lv stk σ := by
  unfold cC at h
  match x, hM, h with
  | some (.inr r, σ'), hM, h => exact r_callV X q ci hq he hc9 hC L (x := some (r, σ')) (fun sz r9 σ9 h9 => by cases h9; exact hM.1 sz r σ' rfl) hR hn hst hw hdg (K := fun r σ => K r σ) h kk
  | some (.inl E, σ'), hM, h =>
    intro H locs ls hc hP hD hS hl
    subst hC
    refine vx_calli (a := #[]) (A1 := Ar (zA z) H.size) (post := fun _ (_ : Unit) => False) (B := fun _ _ => True) (va_Qi_false (a := #[]) (vx_runV (As := As) (rest := rest) ⟨X.1, X.2.1, X.2.2.1, X.2.2.2.1, X.2.2.2.2.1⟩ (hM.2 H.size E σ' rfl) (lk_cwV X L hR) ⟨Pm_blind, rc_at X q ci hq he hc9 hP, fun U hU hW => pm_at X _ hP hD hS U hU hW⟩ rfl hn hl.1 hst (lv_room hw) hdg ⟨by rw [hz.2.2.1]; exact hz.1, by rw [hz.2.2.2]; exact hz.2.1⟩)) hS (fun q _ h => Ar_mono hS.1 h) (fun q h => Ar_mono hS.1 h) (fun q _ h => Ar_mono hS.1 h) (fun E9 ce q9 u t H1 locs1 ht hvm _ hB hz1 hk1 hS1 hce hcv hcl => ?_) (fun _ _ _ _ _ _ _ hf _ _ _ _ => hf.elim)
    obtain ⟨hE9, hP1⟩ := hB
    subst hE9; subst ht
    exact kx _ σ' h _ locs1 ls rest ce q9 hP1 (wW_D σ' hD (fun _ _ h => h)) hS1 hl hce hcv hcl
theorem r_last {β : Type} {rs : β} (X : Cx z cc nL own) {r : Int32} (hdg : decode cc pc = .ok (.lastore, 1)) {K : Sg → Option β} (h : st (ss σ 34 0 r) K = some rs) (kk : ∀ σ9 : Sg, K σ9 = some rs → V z k nL (pc + 1) lv rest σ9) : V z k nL pc lv (.long r.toInt64 :: .int 0 :: .ref (zA z 34) :: rest) σ :=
  fun H locs ls hc hP hD hS hl => va_last X.1 X.2.1 X.2.2.2.2.2.1 hP hD hS 34 26 (wW_at _ _ _ 34 (by decide)) rfl (vp_in_nI (n := 0) (by decide) (by decide)) hdg (fun H locs hP hD hS => by
    have e9 : (Sum.inl (zy z 34, 1, .inr (.inl (vp_updL (fun j => (σ 34 j).toInt64) (0 : Int32).toNatClampNeg r.toInt64))) : va_E) = ccW (zy z) (zA z) 34 (upd (σ 34) 0 r) := by
      have : vp_updL (fun j => (σ 34 j).toInt64) (0 : Int32).toNatClampNeg r.toInt64 = fun j => (upd (σ 34) 0 r j).toInt64 := by
        funext j
        show (if j = 0 then r.toInt64 else (σ 34 j).toInt64) = (if j = 0 then r else σ 34 j).toInt64
        split <;> rfl
      rw [this]; rfl
    rw [e9, wW_set] at hP hD
    exact kk (ss σ 34 0 r) h H locs ls hc hP hD hS hl)
theorem r_lald (X : Cx z cc nL own) (hdg : decode cc pc = .ok (.laload, 1)) (kk : V z k nL (pc + 1) lv (.long (σ 34 0).toInt64 :: rest) σ) : V z k nL pc lv (.int 0 :: .ref (zA z 34) :: rest) σ :=
  fun H locs ls hc hP hD hS hl => va_lald X.1 X.2.1 X.2.2.2.2.2.1 hP 34 26 (wW_at _ _ _ 34 (by decide)) rfl (vp_in_nI (n := 0) (by decide) (by decide)) hdg (kk H locs ls hc hP hD hS hl)
theorem r_i2l (X : Cx z cc nL own) {x : Int32} (hdg : decode cc pc = .ok (.i2l, 1)) (kk : V z k nL (pc + 1) lv (.long x.toInt64 :: rest) σ) : V z k nL pc lv (.int x :: rest) σ :=
  fun H locs ls hc hP hD hS hl => lv_i2l X.1 X.2.1 hdg rfl (kk H locs ls hc hP hD hS hl)
end WR
section CW
variable {l : Launch} {y : MethodName} {code : ByteArray} {maxL fr lo : Nat} {D : va_G} {cy : Nat → ClassId} {ad sa : Nat → Nat} {avs : List Value} {σ : Sg} {x : Option (Int32 × Sg)} {hh : List (Nat × Nat × Nat × Nat)}
theorem ct_W (hl : l.stackTraces = false) (hy : plainName y.cls = true) (hn : (lg_sl avs).length ≤ maxL) (walk : ∀ (z : Cz) (res : Int32 × Sg), zl z = l → zD z = D → zy z = cy → zA z = ad → zS z = sa → (fr ≤ (zR z).frames ∧ lo ≤ (zR z).locals) → Cx z code maxL y.cls → Rz z → (zc z).exceptionTable.toList = tableOf hh → RtW z code maxL res → x = some res → V z 0 maxL 0 (lv_args 0 avs) [] σ) : CtW l y code maxL hh fr lo D cy ad sa avs σ x := by
  intro sz r σ' hx
  refine vx_ofWH (cc := code) (maxL := maxL) (ret := some .int) (hh := hh) hy rfl ?_
  intro p e s m args below meth c s₁ B hml hv
  obtain ⟨rfl, hsz, hP, hK, hD0, hE⟩ := hv
  subst hsz
  have hts0 := atoms_spec (ws := Cond.codeWith y code maxL (some .int) hh :: ALL) B.pre
  have hts : ∀ w ∈ ALL, w.before avs.toArray s = true := fun w hw => hts0 w (List.mem_cons_of_mem _ hw)
  have hown : s.vm.findClass y.cls = some m.cls := findClass_of_methodNamed B.named
  have htab : c.exceptionTable.toList = tableOf hh := vx_table (x := y) B (hts0 _ List.mem_cons_self)
  have hl9 := lv_entry avs (n := maxL) hn
  rw [lg_entry_eq]
  generalize (lg_sl avs ++ List.replicate (maxL - (lg_sl avs).length) Slot.unset).toArray = ls at hl9 ⊢
  have hD : va_D (Ar ad s.heap.size) (wW cy ad σ) := wW_D σ hD0 (fun k hk _ => wW_in hk)
  exact walk (p, l, e, rm fr lo 1 6, s, m, avs.toArray, below, meth, c, vx_MQ below (Qi D cy ad s.heap.size r σ') (fun _ _ _ => False) avs.toArray s 1 6 (Ar ad s.heap.size), D, cy, ad, sa, 0, 0) (r, σ') rfl rfl rfl rfl rfl ⟨Nat.le_refl _, Nat.le_refl _⟩
    ⟨B.exec, B.bytes, hml, hown, hts, hK, hE, hl, B.notSynchronized⟩ ⟨Nat.le_refl _, Nat.le_refl _, rfl, rfl⟩ htab
    (fun k pc lv v τ hk hdg e9 H locs ls hc hP hD hS hl => by
      cases e9
      refine W.widen (k := 1) (n := 6) (by show 0 + k ≤ 1; omega) (by show 0 + 6 * k ≤ 6; omega) ?_
      exact vx_ret (W.iret B.exec B.bytes B.returns (fun t ht hW => ⟨⟨_, (), rfl, rfl, by show va_P D vwCl (wW cy ad _) t.heap; rw [ht]; exact hP⟩, hS.F ht⟩) hS.2.2 hdg B.notSynchronized)) hx s.heap [] ls ⟨Nat.zero_le _, Nat.zero_le _⟩ hP hD va_S.rf hl9
end CW
def f_L_element (N : Nat) (a1 : Int32) (a2 : Int32) (σ : Sg) : Option (Int32 × Sg) := cC (f_X7_element N a1 a2 σ) (fun r σ1 => st (ss σ1 34 0 r) (fun σ3 => some (0, σ3))) (fun E σ2 => if E = "java/util/NoSuchElementException" then some (1, σ2) else if E = "java/lang/IllegalArgumentException" then some (2, σ2) else if E = "java/lang/UnsupportedOperationException" then some (3, σ2) else none)
set_option maxHeartbeats 4000000 in
set_option maxRecDepth 100000 in
theorem w_L_element {z : Cz} (X : Cx z cL_element 5 RL) (hR : 8 ≤ (zR z).frames ∧ 133 ≤ (zR z).locals) (hz : Rz z) (ht : (zc z).exceptionTable.toList = tableOf [(0, 10, 13, 13), (0, 10, 17, 15), (0, 10, 21, 17)]) {res : Int32 × Sg} (Rt : RtW z cL_element 5 res) (N : Nat) (a1 : Int32) (a2 : Int32) (σ : Sg) (h : f_L_element N a1 a2 σ = some res) : V z 0 5 0 [(0, .ref (zA z 0)), (1, .int a1), (2, .int a2), (3, .ref (zA z 34))] [] σ := by
  rw [f_L_element] at h
  refine r_aload_n X dL_element_0 rfl 3 rfl ?_
  refine r_iconst X 0 dL_element_1 (by decide) ?_
  refine r_aload_n X dL_element_2 rfl 0 rfl ?_
  refine r_iload_n X dL_element_3 rfl 1 rfl ?_
  refine r_iload_n X dL_element_4 rfl 2 rfl ?_
  refine r_callC X hz 0 7 (by decide) rfl rfl rfl lk_L_7 (c_X7_element (zl z) X.2.2.2.2.2.2.2.1 N (zD z) (zy z) (zA z) (zS z) a1 a2 σ) ⟨Nat.le_trans (by decide) hR.1, Nat.le_trans (by decide) hR.2⟩ rfl rfl (Nat.le_of_ble_eq_true rfl) dL_element_5 h (fun r σ1 h => ?_) (fun E σ2 h => ?_)
  · refine r_i2l X dL_element_8 ?_
    refine r_last X dL_element_9 h (fun σ3 h => ?_)
    refine r_goto X 25 dL_element_10 (by decide) ?_
    refine r_iconst X 0 dL_element_25 (by decide) ?_
    exact r_wret Rt (Nat.zero_le _) dL_element_26 h
  · by_cases e0 : E = "java/util/NoSuchElementException"
    · subst e0
      refine r_catch X hz ([] : List ExceptionTableEntry) ⟨0, 10, 13, 13⟩ ([⟨0, 10, 17, 15⟩, ⟨0, 10, 21, 17⟩] : List ExceptionTableEntry) ht (fun y hy => nomatch hy) (by decide) (by decide) wd2_176 (List.mem_of_getElem? (i := 18) rfl) (fun q9 => ?_)
      rw [if_pos rfl] at h
      refine r_astore X [(4, .ref q9), (0, .ref (zA z 0)), (1, .int a1), (2, .int a2), (3, .ref (zA z 34))] dL_element_13 (by decide) rfl ?_
      refine r_iconst X 1 dL_element_15 (by decide) ?_
      exact r_wret Rt (Nat.le_refl _) dL_element_16 h
    · rw [if_neg e0] at h
      by_cases e1 : E = "java/lang/IllegalArgumentException"
      · subst e1
        refine r_catch X hz ([⟨0, 10, 13, 13⟩] : List ExceptionTableEntry) ⟨0, 10, 17, 15⟩ ([⟨0, 10, 21, 17⟩] : List ExceptionTableEntry) ht (fun y hy => by
            simp only [List.mem_cons, List.not_mem_nil, or_false] at hy
            rcases hy with rfl
            · exact ⟨by decide, "java/util/NoSuchElementException", wd2_176, List.mem_of_getElem? (i := 0) rfl⟩) (by decide) (by decide) wd2_177 (List.mem_of_getElem? (i := 25) rfl) (fun q9 => ?_)
        rw [if_pos rfl] at h
        refine r_astore X [(4, .ref q9), (0, .ref (zA z 0)), (1, .int a1), (2, .int a2), (3, .ref (zA z 34))] dL_element_17 (by decide) rfl ?_
        refine r_iconst X 2 dL_element_19 (by decide) ?_
        exact r_wret Rt (Nat.le_refl _) dL_element_20 h
      · rw [if_neg e1] at h
        by_cases e2 : E = "java/lang/UnsupportedOperationException"
        · subst e2
          refine r_catch X hz ([⟨0, 10, 13, 13⟩, ⟨0, 10, 17, 15⟩] : List ExceptionTableEntry) ⟨0, 10, 21, 17⟩ ([] : List ExceptionTableEntry) ht (fun y hy => by
              simp only [List.mem_cons, List.not_mem_nil, or_false] at hy
              rcases hy with rfl | rfl
              · exact ⟨by decide, "java/util/NoSuchElementException", wd2_176, List.mem_of_getElem? (i := 1) rfl⟩
              · exact ⟨by decide, "java/lang/IllegalArgumentException", wd2_177, List.mem_of_getElem? (i := 2) rfl⟩) (by decide) (by decide) wd2_178 (List.mem_of_getElem? (i := 26) rfl) (fun q9 => ?_)
          rw [if_pos rfl] at h
          refine r_astore X [(4, .ref q9), (0, .ref (zA z 0)), (1, .int a1), (2, .int a2), (3, .ref (zA z 34))] dL_element_21 (by decide) rfl ?_
          refine r_iconst X 3 dL_element_23 (by decide) ?_
          exact r_wret Rt (Nat.le_refl _) dL_element_24 h
        · rw [if_neg e2] at h
          cases h
theorem c_L_element (l : Launch) (hl : l.stackTraces = false) (N : Nat) (D : va_G) (cy : Nat → ClassId) (ad sa : Nat → Nat) (a1 : Int32) (a2 : Int32) (σ : Sg) : CtW l yL_element cL_element 5 [(0, 10, 13, 13), (0, 10, 17, 15), (0, 10, 21, 17)] 8 133 D cy ad sa [.ref (ad 0), .int a1, .int a2, .ref (ad 34)] σ (f_L_element N a1 a2 σ) :=
  ct_W hl (by decide +kernel) (Nat.le_of_ble_eq_true rfl) (fun z res e1 e2 e3 e4 e5 e6 X hz ht Rt h => by subst e1 e2 e3 e4 e5; exact w_L_element X ⟨e6.1, e6.2⟩ hz ht Rt N a1 a2 σ h)
def f_L_map (N : Nat) (a1 : Int32) (a2 : Int32) (σ : Sg) : Option (Int32 × Sg) := cC (f_X7_map N a1 a2 σ) (fun r σ1 => st (ss σ1 34 0 r) (fun σ3 => some (0, σ3))) (fun E σ2 => if E = "java/lang/IllegalArgumentException" then some (1, σ2) else none)
set_option maxHeartbeats 4000000 in
set_option maxRecDepth 100000 in
theorem w_L_map {z : Cz} (X : Cx z cL_map 5 RL) (hR : 7 ≤ (zR z).frames ∧ 112 ≤ (zR z).locals) (hz : Rz z) (ht : (zc z).exceptionTable.toList = tableOf [(0, 10, 13, 15)]) {res : Int32 × Sg} (Rt : RtW z cL_map 5 res) (N : Nat) (a1 : Int32) (a2 : Int32) (σ : Sg) (h : f_L_map N a1 a2 σ = some res) : V z 0 5 0 [(0, .ref (zA z 0)), (1, .int a1), (2, .int a2), (3, .ref (zA z 34))] [] σ := by
  rw [f_L_map] at h
  refine r_aload_n X dL_map_0 rfl 3 rfl ?_
  refine r_iconst X 0 dL_map_1 (by decide) ?_
  refine r_aload_n X dL_map_2 rfl 0 rfl ?_
  refine r_iload_n X dL_map_3 rfl 1 rfl ?_
  refine r_iload_n X dL_map_4 rfl 2 rfl ?_
  refine r_callC X hz 0 7 (by decide) rfl rfl rfl lk_L_19 (c_X7_map (zl z) X.2.2.2.2.2.2.2.1 N (zD z) (zy z) (zA z) (zS z) a1 a2 σ) ⟨Nat.le_trans (by decide) hR.1, Nat.le_trans (by decide) hR.2⟩ rfl rfl (Nat.le_of_ble_eq_true rfl) dL_map_5 h (fun r σ1 h => ?_) (fun E σ2 h => ?_)
  · refine r_i2l X dL_map_8 ?_
    refine r_last X dL_map_9 h (fun σ3 h => ?_)
    refine r_goto X 17 dL_map_10 (by decide) ?_
    refine r_iconst X 0 dL_map_17 (by decide) ?_
    exact r_wret Rt (Nat.zero_le _) dL_map_18 h
  · by_cases e0 : E = "java/lang/IllegalArgumentException"
    · subst e0
      refine r_catch X hz ([] : List ExceptionTableEntry) ⟨0, 10, 13, 15⟩ ([] : List ExceptionTableEntry) ht (fun y hy => nomatch hy) (by decide) (by decide) wd2_177 (List.mem_of_getElem? (i := 25) rfl) (fun q9 => ?_)
      rw [if_pos rfl] at h
      refine r_astore X [(4, .ref q9), (0, .ref (zA z 0)), (1, .int a1), (2, .int a2), (3, .ref (zA z 34))] dL_map_13 (by decide) rfl ?_
      refine r_iconst X 1 dL_map_15 (by decide) ?_
      exact r_wret Rt (Nat.le_refl _) dL_map_16 h
    · rw [if_neg e0] at h
      cases h
theorem c_L_map (l : Launch) (hl : l.stackTraces = false) (N : Nat) (D : va_G) (cy : Nat → ClassId) (ad sa : Nat → Nat) (a1 : Int32) (a2 : Int32) (σ : Sg) : CtW l yL_map cL_map 5 [(0, 10, 13, 15)] 7 112 D cy ad sa [.ref (ad 0), .int a1, .int a2, .ref (ad 34)] σ (f_L_map N a1 a2 σ) :=
  ct_W hl (by decide +kernel) (Nat.le_of_ble_eq_true rfl) (fun z res e1 e2 e3 e4 e5 e6 X hz ht Rt h => by subst e1 e2 e3 e4 e5; exact w_L_map X ⟨e6.1, e6.2⟩ hz ht Rt N a1 a2 σ h)
def f_L_content (N : Nat) (a1 : Int32) (a2 : Int32) (a3 : Int32) (σ : Sg) : Option (Int32 × Sg) := cC (f_X7_content N a1 a2 a3 σ) (fun r σ1 => st (ss σ1 34 0 r) (fun σ3 => some (0, σ3))) (fun E σ2 => if E = "java/util/NoSuchElementException" then some (1, σ2) else if E = "java/lang/IllegalArgumentException" then some (2, σ2) else if E = "java/lang/UnsupportedOperationException" then some (3, σ2) else none)
set_option maxHeartbeats 4000000 in
set_option maxRecDepth 100000 in
theorem w_L_content {z : Cz} (X : Cx z cL_content 6 RL) (hR : 8 ≤ (zR z).frames ∧ 135 ≤ (zR z).locals) (hz : Rz z) (ht : (zc z).exceptionTable.toList = tableOf [(0, 12, 15, 13), (0, 12, 19, 15), (0, 12, 23, 17)]) {res : Int32 × Sg} (Rt : RtW z cL_content 6 res) (N : Nat) (a1 : Int32) (a2 : Int32) (a3 : Int32) (σ : Sg) (h : f_L_content N a1 a2 a3 σ = some res) : V z 0 6 0 [(0, .ref (zA z 0)), (1, .int a1), (2, .int a2), (3, .int a3), (4, .ref (zA z 34))] [] σ := by
  rw [f_L_content] at h
  refine r_aload X dL_content_0 4 rfl ?_
  refine r_iconst X 0 dL_content_2 (by decide) ?_
  refine r_aload_n X dL_content_3 rfl 0 rfl ?_
  refine r_iload_n X dL_content_4 rfl 1 rfl ?_
  refine r_iload_n X dL_content_5 rfl 2 rfl ?_
  refine r_iload_n X dL_content_6 rfl 3 rfl ?_
  refine r_callC X hz 0 7 (by decide) rfl rfl rfl lk_L_22 (c_X7_content (zl z) X.2.2.2.2.2.2.2.1 N (zD z) (zy z) (zA z) (zS z) a1 a2 a3 σ) ⟨Nat.le_trans (by decide) hR.1, Nat.le_trans (by decide) hR.2⟩ rfl rfl (Nat.le_of_ble_eq_true rfl) dL_content_7 h (fun r σ1 h => ?_) (fun E σ2 h => ?_)
  · refine r_i2l X dL_content_10 ?_
    refine r_last X dL_content_11 h (fun σ3 h => ?_)
    refine r_goto X 27 dL_content_12 (by decide) ?_
    refine r_iconst X 0 dL_content_27 (by decide) ?_
    exact r_wret Rt (Nat.zero_le _) dL_content_28 h
  · by_cases e0 : E = "java/util/NoSuchElementException"
    · subst e0
      refine r_catch X hz ([] : List ExceptionTableEntry) ⟨0, 12, 15, 13⟩ ([⟨0, 12, 19, 15⟩, ⟨0, 12, 23, 17⟩] : List ExceptionTableEntry) ht (fun y hy => nomatch hy) (by decide) (by decide) wd2_176 (List.mem_of_getElem? (i := 18) rfl) (fun q9 => ?_)
      rw [if_pos rfl] at h
      refine r_astore X [(5, .ref q9), (0, .ref (zA z 0)), (1, .int a1), (2, .int a2), (3, .int a3), (4, .ref (zA z 34))] dL_content_15 (by decide) rfl ?_
      refine r_iconst X 1 dL_content_17 (by decide) ?_
      exact r_wret Rt (Nat.le_refl _) dL_content_18 h
    · rw [if_neg e0] at h
      by_cases e1 : E = "java/lang/IllegalArgumentException"
      · subst e1
        refine r_catch X hz ([⟨0, 12, 15, 13⟩] : List ExceptionTableEntry) ⟨0, 12, 19, 15⟩ ([⟨0, 12, 23, 17⟩] : List ExceptionTableEntry) ht (fun y hy => by
            simp only [List.mem_cons, List.not_mem_nil, or_false] at hy
            rcases hy with rfl
            · exact ⟨by decide, "java/util/NoSuchElementException", wd2_176, List.mem_of_getElem? (i := 0) rfl⟩) (by decide) (by decide) wd2_177 (List.mem_of_getElem? (i := 25) rfl) (fun q9 => ?_)
        rw [if_pos rfl] at h
        refine r_astore X [(5, .ref q9), (0, .ref (zA z 0)), (1, .int a1), (2, .int a2), (3, .int a3), (4, .ref (zA z 34))] dL_content_19 (by decide) rfl ?_
        refine r_iconst X 2 dL_content_21 (by decide) ?_
        exact r_wret Rt (Nat.le_refl _) dL_content_22 h
      · rw [if_neg e1] at h
        by_cases e2 : E = "java/lang/UnsupportedOperationException"
        · subst e2
          refine r_catch X hz ([⟨0, 12, 15, 13⟩, ⟨0, 12, 19, 15⟩] : List ExceptionTableEntry) ⟨0, 12, 23, 17⟩ ([] : List ExceptionTableEntry) ht (fun y hy => by
              simp only [List.mem_cons, List.not_mem_nil, or_false] at hy
              rcases hy with rfl | rfl
              · exact ⟨by decide, "java/util/NoSuchElementException", wd2_176, List.mem_of_getElem? (i := 1) rfl⟩
              · exact ⟨by decide, "java/lang/IllegalArgumentException", wd2_177, List.mem_of_getElem? (i := 2) rfl⟩) (by decide) (by decide) wd2_178 (List.mem_of_getElem? (i := 26) rfl) (fun q9 => ?_)
          rw [if_pos rfl] at h
          refine r_astore X [(5, .ref q9), (0, .ref (zA z 0)), (1, .int a1), (2, .int a2), (3, .int a3), (4, .ref (zA z 34))] dL_content_23 (by decide) rfl ?_
          refine r_iconst X 3 dL_content_25 (by decide) ?_
          exact r_wret Rt (Nat.le_refl _) dL_content_26 h
        · rw [if_neg e2] at h
          cases h
theorem c_L_content (l : Launch) (hl : l.stackTraces = false) (N : Nat) (D : va_G) (cy : Nat → ClassId) (ad sa : Nat → Nat) (a1 : Int32) (a2 : Int32) (a3 : Int32) (σ : Sg) : CtW l yL_content cL_content 6 [(0, 12, 15, 13), (0, 12, 19, 15), (0, 12, 23, 17)] 8 135 D cy ad sa [.ref (ad 0), .int a1, .int a2, .int a3, .ref (ad 34)] σ (f_L_content N a1 a2 a3 σ) :=
  ct_W hl (by decide +kernel) (Nat.le_of_ble_eq_true rfl) (fun z res e1 e2 e3 e4 e5 e6 X hz ht Rt h => by subst e1 e2 e3 e4 e5; exact w_L_content X ⟨e6.1, e6.2⟩ hz ht Rt N a1 a2 a3 σ h)
def f_L_shows (N : Nat) (a1 : Int32) (a2 : Int32) (σ : Sg) : Option (Int32 × Sg) := cC (f_X7_shows N a1 a2 σ) (fun r σ1 => st (ss σ1 34 0 r) (fun σ3 => some (0, σ3))) (fun E σ2 => if E = "java/lang/IllegalArgumentException" then some (1, σ2) else none)
set_option maxHeartbeats 4000000 in
set_option maxRecDepth 100000 in
theorem w_L_shows {z : Cz} (X : Cx z cL_shows 5 RL) (hR : 8 ≤ (zR z).frames ∧ 133 ≤ (zR z).locals) (hz : Rz z) (ht : (zc z).exceptionTable.toList = tableOf [(0, 10, 13, 15)]) {res : Int32 × Sg} (Rt : RtW z cL_shows 5 res) (N : Nat) (a1 : Int32) (a2 : Int32) (σ : Sg) (h : f_L_shows N a1 a2 σ = some res) : V z 0 5 0 [(0, .ref (zA z 0)), (1, .int a1), (2, .int a2), (3, .ref (zA z 34))] [] σ := by
  rw [f_L_shows] at h
  refine r_aload_n X dL_shows_0 rfl 3 rfl ?_
  refine r_iconst X 0 dL_shows_1 (by decide) ?_
  refine r_aload_n X dL_shows_2 rfl 0 rfl ?_
  refine r_iload_n X dL_shows_3 rfl 1 rfl ?_
  refine r_iload_n X dL_shows_4 rfl 2 rfl ?_
  refine r_callC X hz 0 7 (by decide) rfl rfl rfl lk_L_26 (c_X7_shows (zl z) X.2.2.2.2.2.2.2.1 N (zD z) (zy z) (zA z) (zS z) a1 a2 σ) ⟨Nat.le_trans (by decide) hR.1, Nat.le_trans (by decide) hR.2⟩ rfl rfl (Nat.le_of_ble_eq_true rfl) dL_shows_5 h (fun r σ1 h => ?_) (fun E σ2 h => ?_)
  · refine r_i2l X dL_shows_8 ?_
    refine r_last X dL_shows_9 h (fun σ3 h => ?_)
    refine r_goto X 17 dL_shows_10 (by decide) ?_
    refine r_iconst X 0 dL_shows_17 (by decide) ?_
    exact r_wret Rt (Nat.zero_le _) dL_shows_18 h
  · by_cases e0 : E = "java/lang/IllegalArgumentException"
    · subst e0
      refine r_catch X hz ([] : List ExceptionTableEntry) ⟨0, 10, 13, 15⟩ ([] : List ExceptionTableEntry) ht (fun y hy => nomatch hy) (by decide) (by decide) wd2_177 (List.mem_of_getElem? (i := 25) rfl) (fun q9 => ?_)
      rw [if_pos rfl] at h
      refine r_astore X [(4, .ref q9), (0, .ref (zA z 0)), (1, .int a1), (2, .int a2), (3, .ref (zA z 34))] dL_shows_13 (by decide) rfl ?_
      refine r_iconst X 1 dL_shows_15 (by decide) ?_
      exact r_wret Rt (Nat.le_refl _) dL_shows_16 h
    · rw [if_neg e0] at h
      cases h
theorem c_L_shows (l : Launch) (hl : l.stackTraces = false) (N : Nat) (D : va_G) (cy : Nat → ClassId) (ad sa : Nat → Nat) (a1 : Int32) (a2 : Int32) (σ : Sg) : CtW l yL_shows cL_shows 5 [(0, 10, 13, 15)] 8 133 D cy ad sa [.ref (ad 0), .int a1, .int a2, .ref (ad 34)] σ (f_L_shows N a1 a2 σ) :=
  ct_W hl (by decide +kernel) (Nat.le_of_ble_eq_true rfl) (fun z res e1 e2 e3 e4 e5 e6 X hz ht Rt h => by subst e1 e2 e3 e4 e5; exact w_L_shows X ⟨e6.1, e6.2⟩ hz ht Rt N a1 a2 σ h)
def f_L_at (N : Nat) (a1 : Int32) (a2 : Int32) (σ : Sg) : Option (Int32 × Sg) := cC (f_X7_at N a1 a2 σ) (fun r σ1 => st (ss σ1 34 0 r) (fun σ3 => some (0, σ3))) (fun E σ2 => if E = "java/lang/IndexOutOfBoundsException" then some (1, σ2) else none)
set_option maxHeartbeats 4000000 in
set_option maxRecDepth 100000 in
theorem w_L_at {z : Cz} (X : Cx z cL_at 5 RL) (hR : 8 ≤ (zR z).frames ∧ 133 ≤ (zR z).locals) (hz : Rz z) (ht : (zc z).exceptionTable.toList = tableOf [(0, 10, 13, 32)]) {res : Int32 × Sg} (Rt : RtW z cL_at 5 res) (N : Nat) (a1 : Int32) (a2 : Int32) (σ : Sg) (h : f_L_at N a1 a2 σ = some res) : V z 0 5 0 [(0, .ref (zA z 0)), (1, .int a1), (2, .int a2), (3, .ref (zA z 34))] [] σ := by
  rw [f_L_at] at h
  refine r_aload_n X dL_at_0 rfl 3 rfl ?_
  refine r_iconst X 0 dL_at_1 (by decide) ?_
  refine r_aload_n X dL_at_2 rfl 0 rfl ?_
  refine r_iload_n X dL_at_3 rfl 1 rfl ?_
  refine r_iload_n X dL_at_4 rfl 2 rfl ?_
  refine r_callC X hz 0 7 (by decide) rfl rfl rfl lk_L_29 (c_X7_at (zl z) X.2.2.2.2.2.2.2.1 N (zD z) (zy z) (zA z) (zS z) a1 a2 σ) ⟨Nat.le_trans (by decide) hR.1, Nat.le_trans (by decide) hR.2⟩ rfl rfl (Nat.le_of_ble_eq_true rfl) dL_at_5 h (fun r σ1 h => ?_) (fun E σ2 h => ?_)
  · refine r_i2l X dL_at_8 ?_
    refine r_last X dL_at_9 h (fun σ3 h => ?_)
    refine r_goto X 17 dL_at_10 (by decide) ?_
    refine r_iconst X 0 dL_at_17 (by decide) ?_
    exact r_wret Rt (Nat.zero_le _) dL_at_18 h
  · by_cases e0 : E = "java/lang/IndexOutOfBoundsException"
    · subst e0
      refine r_catch X hz ([] : List ExceptionTableEntry) ⟨0, 10, 13, 32⟩ ([] : List ExceptionTableEntry) ht (fun y hy => nomatch hy) (by decide) (by decide) wd3_110 (List.mem_of_getElem? (i := 27) rfl) (fun q9 => ?_)
      rw [if_pos rfl] at h
      refine r_astore X [(4, .ref q9), (0, .ref (zA z 0)), (1, .int a1), (2, .int a2), (3, .ref (zA z 34))] dL_at_13 (by decide) rfl ?_
      refine r_iconst X 1 dL_at_15 (by decide) ?_
      exact r_wret Rt (Nat.le_refl _) dL_at_16 h
    · rw [if_neg e0] at h
      cases h
theorem c_L_at (l : Launch) (hl : l.stackTraces = false) (N : Nat) (D : va_G) (cy : Nat → ClassId) (ad sa : Nat → Nat) (a1 : Int32) (a2 : Int32) (σ : Sg) : CtW l yL_at cL_at 5 [(0, 10, 13, 32)] 8 133 D cy ad sa [.ref (ad 0), .int a1, .int a2, .ref (ad 34)] σ (f_L_at N a1 a2 σ) :=
  ct_W hl (by decide +kernel) (Nat.le_of_ble_eq_true rfl) (fun z res e1 e2 e3 e4 e5 e6 X hz ht Rt h => by subst e1 e2 e3 e4 e5; exact w_L_at X ⟨e6.1, e6.2⟩ hz ht Rt N a1 a2 σ h)
def f_L_parent (N : Nat) (a1 : Int32) (a2 : Int32) (σ : Sg) : Option (Int32 × Sg) := cC (f_X7_parent N a1 a2 σ) (fun r σ1 => st (ss σ1 34 0 r) (fun σ3 => some (0, σ3))) (fun E σ2 => if E = "java/lang/IllegalArgumentException" then some (1, σ2) else none)
set_option maxHeartbeats 4000000 in
set_option maxRecDepth 100000 in
theorem w_L_parent {z : Cz} (X : Cx z cL_parent 5 RL) (hR : 8 ≤ (zR z).frames ∧ 133 ≤ (zR z).locals) (hz : Rz z) (ht : (zc z).exceptionTable.toList = tableOf [(0, 10, 13, 15)]) {res : Int32 × Sg} (Rt : RtW z cL_parent 5 res) (N : Nat) (a1 : Int32) (a2 : Int32) (σ : Sg) (h : f_L_parent N a1 a2 σ = some res) : V z 0 5 0 [(0, .ref (zA z 0)), (1, .int a1), (2, .int a2), (3, .ref (zA z 34))] [] σ := by
  rw [f_L_parent] at h
  refine r_aload_n X dL_parent_0 rfl 3 rfl ?_
  refine r_iconst X 0 dL_parent_1 (by decide) ?_
  refine r_aload_n X dL_parent_2 rfl 0 rfl ?_
  refine r_iload_n X dL_parent_3 rfl 1 rfl ?_
  refine r_iload_n X dL_parent_4 rfl 2 rfl ?_
  refine r_callC X hz 0 7 (by decide) rfl rfl rfl lk_L_34 (c_X7_parent (zl z) X.2.2.2.2.2.2.2.1 N (zD z) (zy z) (zA z) (zS z) a1 a2 σ) ⟨Nat.le_trans (by decide) hR.1, Nat.le_trans (by decide) hR.2⟩ rfl rfl (Nat.le_of_ble_eq_true rfl) dL_parent_5 h (fun r σ1 h => ?_) (fun E σ2 h => ?_)
  · refine r_i2l X dL_parent_8 ?_
    refine r_last X dL_parent_9 h (fun σ3 h => ?_)
    refine r_goto X 17 dL_parent_10 (by decide) ?_
    refine r_iconst X 0 dL_parent_17 (by decide) ?_
    exact r_wret Rt (Nat.zero_le _) dL_parent_18 h
  · by_cases e0 : E = "java/lang/IllegalArgumentException"
    · subst e0
      refine r_catch X hz ([] : List ExceptionTableEntry) ⟨0, 10, 13, 15⟩ ([] : List ExceptionTableEntry) ht (fun y hy => nomatch hy) (by decide) (by decide) wd2_177 (List.mem_of_getElem? (i := 25) rfl) (fun q9 => ?_)
      rw [if_pos rfl] at h
      refine r_astore X [(4, .ref q9), (0, .ref (zA z 0)), (1, .int a1), (2, .int a2), (3, .ref (zA z 34))] dL_parent_13 (by decide) rfl ?_
      refine r_iconst X 1 dL_parent_15 (by decide) ?_
      exact r_wret Rt (Nat.le_refl _) dL_parent_16 h
    · rw [if_neg e0] at h
      cases h
theorem c_L_parent (l : Launch) (hl : l.stackTraces = false) (N : Nat) (D : va_G) (cy : Nat → ClassId) (ad sa : Nat → Nat) (a1 : Int32) (a2 : Int32) (σ : Sg) : CtW l yL_parent cL_parent 5 [(0, 10, 13, 15)] 8 133 D cy ad sa [.ref (ad 0), .int a1, .int a2, .ref (ad 34)] σ (f_L_parent N a1 a2 σ) :=
  ct_W hl (by decide +kernel) (Nat.le_of_ble_eq_true rfl) (fun z res e1 e2 e3 e4 e5 e6 X hz ht Rt h => by subst e1 e2 e3 e4 e5; exact w_L_parent X ⟨e6.1, e6.2⟩ hz ht Rt N a1 a2 σ h)
def f_L_fault (N : Nat) (a1 : Int32) (a2 : Int32) (σ : Sg) : Option (Int32 × Sg) := cC (f_X7_fault N a1 a2 σ) (fun r σ1 => st (ss σ1 34 0 r) (fun σ3 => some (0, σ3))) (fun E σ2 => if E = "java/lang/IndexOutOfBoundsException" then some (1, σ2) else none)
set_option maxHeartbeats 4000000 in
set_option maxRecDepth 100000 in
theorem w_L_fault {z : Cz} (X : Cx z cL_fault 5 RL) (hR : 8 ≤ (zR z).frames ∧ 132 ≤ (zR z).locals) (hz : Rz z) (ht : (zc z).exceptionTable.toList = tableOf [(0, 10, 13, 32)]) {res : Int32 × Sg} (Rt : RtW z cL_fault 5 res) (N : Nat) (a1 : Int32) (a2 : Int32) (σ : Sg) (h : f_L_fault N a1 a2 σ = some res) : V z 0 5 0 [(0, .ref (zA z 0)), (1, .int a1), (2, .int a2), (3, .ref (zA z 34))] [] σ := by
  rw [f_L_fault] at h
  refine r_aload_n X dL_fault_0 rfl 3 rfl ?_
  refine r_iconst X 0 dL_fault_1 (by decide) ?_
  refine r_aload_n X dL_fault_2 rfl 0 rfl ?_
  refine r_iload_n X dL_fault_3 rfl 1 rfl ?_
  refine r_iload_n X dL_fault_4 rfl 2 rfl ?_
  refine r_callC X hz 0 7 (by decide) rfl rfl rfl lk_L_37 (c_X7_fault (zl z) X.2.2.2.2.2.2.2.1 N (zD z) (zy z) (zA z) (zS z) a1 a2 σ) ⟨Nat.le_trans (by decide) hR.1, Nat.le_trans (by decide) hR.2⟩ rfl rfl (Nat.le_of_ble_eq_true rfl) dL_fault_5 h (fun r σ1 h => ?_) (fun E σ2 h => ?_)
  · refine r_i2l X dL_fault_8 ?_
    refine r_last X dL_fault_9 h (fun σ3 h => ?_)
    refine r_goto X 17 dL_fault_10 (by decide) ?_
    refine r_iconst X 0 dL_fault_17 (by decide) ?_
    exact r_wret Rt (Nat.zero_le _) dL_fault_18 h
  · by_cases e0 : E = "java/lang/IndexOutOfBoundsException"
    · subst e0
      refine r_catch X hz ([] : List ExceptionTableEntry) ⟨0, 10, 13, 32⟩ ([] : List ExceptionTableEntry) ht (fun y hy => nomatch hy) (by decide) (by decide) wd3_110 (List.mem_of_getElem? (i := 27) rfl) (fun q9 => ?_)
      rw [if_pos rfl] at h
      refine r_astore X [(4, .ref q9), (0, .ref (zA z 0)), (1, .int a1), (2, .int a2), (3, .ref (zA z 34))] dL_fault_13 (by decide) rfl ?_
      refine r_iconst X 1 dL_fault_15 (by decide) ?_
      exact r_wret Rt (Nat.le_refl _) dL_fault_16 h
    · rw [if_neg e0] at h
      cases h
theorem c_L_fault (l : Launch) (hl : l.stackTraces = false) (N : Nat) (D : va_G) (cy : Nat → ClassId) (ad sa : Nat → Nat) (a1 : Int32) (a2 : Int32) (σ : Sg) : CtW l yL_fault cL_fault 5 [(0, 10, 13, 32)] 8 132 D cy ad sa [.ref (ad 0), .int a1, .int a2, .ref (ad 34)] σ (f_L_fault N a1 a2 σ) :=
  ct_W hl (by decide +kernel) (Nat.le_of_ble_eq_true rfl) (fun z res e1 e2 e3 e4 e5 e6 X hz ht Rt h => by subst e1 e2 e3 e4 e5; exact w_L_fault X ⟨e6.1, e6.2⟩ hz ht Rt N a1 a2 σ h)
def f_L_heading (N : Nat) (a1 : Int32) (a2 : Int32) (σ : Sg) : Option (Int32 × Sg) := cC (f_X7_heading N a1 a2 σ) (fun r σ1 => st (ss σ1 34 0 r) (fun σ3 => some (0, σ3))) (fun E σ2 => if E = "java/util/NoSuchElementException" then some (1, σ2) else if E = "java/lang/IllegalArgumentException" then some (2, σ2) else none)
set_option maxHeartbeats 4000000 in
set_option maxRecDepth 100000 in
theorem w_L_heading {z : Cz} (X : Cx z cL_heading 5 RL) (hR : 8 ≤ (zR z).frames ∧ 134 ≤ (zR z).locals) (hz : Rz z) (ht : (zc z).exceptionTable.toList = tableOf [(0, 10, 13, 13), (0, 10, 17, 15)]) {res : Int32 × Sg} (Rt : RtW z cL_heading 5 res) (N : Nat) (a1 : Int32) (a2 : Int32) (σ : Sg) (h : f_L_heading N a1 a2 σ = some res) : V z 0 5 0 [(0, .ref (zA z 0)), (1, .int a1), (2, .int a2), (3, .ref (zA z 34))] [] σ := by
  rw [f_L_heading] at h
  refine r_aload_n X dL_heading_0 rfl 3 rfl ?_
  refine r_iconst X 0 dL_heading_1 (by decide) ?_
  refine r_aload_n X dL_heading_2 rfl 0 rfl ?_
  refine r_iload_n X dL_heading_3 rfl 1 rfl ?_
  refine r_iload_n X dL_heading_4 rfl 2 rfl ?_
  refine r_callC X hz 0 7 (by decide) rfl rfl rfl lk_L_40 (c_X7_heading (zl z) X.2.2.2.2.2.2.2.1 N (zD z) (zy z) (zA z) (zS z) a1 a2 σ) ⟨Nat.le_trans (by decide) hR.1, Nat.le_trans (by decide) hR.2⟩ rfl rfl (Nat.le_of_ble_eq_true rfl) dL_heading_5 h (fun r σ1 h => ?_) (fun E σ2 h => ?_)
  · refine r_i2l X dL_heading_8 ?_
    refine r_last X dL_heading_9 h (fun σ3 h => ?_)
    refine r_goto X 21 dL_heading_10 (by decide) ?_
    refine r_iconst X 0 dL_heading_21 (by decide) ?_
    exact r_wret Rt (Nat.zero_le _) dL_heading_22 h
  · by_cases e0 : E = "java/util/NoSuchElementException"
    · subst e0
      refine r_catch X hz ([] : List ExceptionTableEntry) ⟨0, 10, 13, 13⟩ ([⟨0, 10, 17, 15⟩] : List ExceptionTableEntry) ht (fun y hy => nomatch hy) (by decide) (by decide) wd2_176 (List.mem_of_getElem? (i := 18) rfl) (fun q9 => ?_)
      rw [if_pos rfl] at h
      refine r_astore X [(4, .ref q9), (0, .ref (zA z 0)), (1, .int a1), (2, .int a2), (3, .ref (zA z 34))] dL_heading_13 (by decide) rfl ?_
      refine r_iconst X 1 dL_heading_15 (by decide) ?_
      exact r_wret Rt (Nat.le_refl _) dL_heading_16 h
    · rw [if_neg e0] at h
      by_cases e1 : E = "java/lang/IllegalArgumentException"
      · subst e1
        refine r_catch X hz ([⟨0, 10, 13, 13⟩] : List ExceptionTableEntry) ⟨0, 10, 17, 15⟩ ([] : List ExceptionTableEntry) ht (fun y hy => by
            simp only [List.mem_cons, List.not_mem_nil, or_false] at hy
            rcases hy with rfl
            · exact ⟨by decide, "java/util/NoSuchElementException", wd2_176, List.mem_of_getElem? (i := 0) rfl⟩) (by decide) (by decide) wd2_177 (List.mem_of_getElem? (i := 25) rfl) (fun q9 => ?_)
        rw [if_pos rfl] at h
        refine r_astore X [(4, .ref q9), (0, .ref (zA z 0)), (1, .int a1), (2, .int a2), (3, .ref (zA z 34))] dL_heading_17 (by decide) rfl ?_
        refine r_iconst X 2 dL_heading_19 (by decide) ?_
        exact r_wret Rt (Nat.le_refl _) dL_heading_20 h
      · rw [if_neg e1] at h
        cases h
theorem c_L_heading (l : Launch) (hl : l.stackTraces = false) (N : Nat) (D : va_G) (cy : Nat → ClassId) (ad sa : Nat → Nat) (a1 : Int32) (a2 : Int32) (σ : Sg) : CtW l yL_heading cL_heading 5 [(0, 10, 13, 13), (0, 10, 17, 15)] 8 134 D cy ad sa [.ref (ad 0), .int a1, .int a2, .ref (ad 34)] σ (f_L_heading N a1 a2 σ) :=
  ct_W hl (by decide +kernel) (Nat.le_of_ble_eq_true rfl) (fun z res e1 e2 e3 e4 e5 e6 X hz ht Rt h => by subst e1 e2 e3 e4 e5; exact w_L_heading X ⟨e6.1, e6.2⟩ hz ht Rt N a1 a2 σ h)
def f_L_words (N : Nat) (a1 : Int32) (a2 : Int32) (σ : Sg) : Option (Int32 × Sg) := cC (f_X7_words N a1 a2 σ) (fun r σ1 => st (ss σ1 34 0 r) (fun σ3 => some (0, σ3))) (fun E σ2 => if E = "java/util/NoSuchElementException" then some (1, σ2) else none)
set_option maxHeartbeats 4000000 in
set_option maxRecDepth 100000 in
theorem w_L_words {z : Cz} (X : Cx z cL_words 5 RL) (hR : 8 ≤ (zR z).frames ∧ 134 ≤ (zR z).locals) (hz : Rz z) (ht : (zc z).exceptionTable.toList = tableOf [(0, 10, 13, 13)]) {res : Int32 × Sg} (Rt : RtW z cL_words 5 res) (N : Nat) (a1 : Int32) (a2 : Int32) (σ : Sg) (h : f_L_words N a1 a2 σ = some res) : V z 0 5 0 [(0, .ref (zA z 0)), (1, .int a1), (2, .int a2), (3, .ref (zA z 34))] [] σ := by
  rw [f_L_words] at h
  refine r_aload_n X dL_words_0 rfl 3 rfl ?_
  refine r_iconst X 0 dL_words_1 (by decide) ?_
  refine r_aload_n X dL_words_2 rfl 0 rfl ?_
  refine r_iload_n X dL_words_3 rfl 1 rfl ?_
  refine r_iload_n X dL_words_4 rfl 2 rfl ?_
  refine r_callC X hz 0 7 (by decide) rfl rfl rfl lk_L_43 (c_X7_words (zl z) X.2.2.2.2.2.2.2.1 N (zD z) (zy z) (zA z) (zS z) a1 a2 σ) ⟨Nat.le_trans (by decide) hR.1, Nat.le_trans (by decide) hR.2⟩ rfl rfl (Nat.le_of_ble_eq_true rfl) dL_words_5 h (fun r σ1 h => ?_) (fun E σ2 h => ?_)
  · refine r_i2l X dL_words_8 ?_
    refine r_last X dL_words_9 h (fun σ3 h => ?_)
    refine r_goto X 17 dL_words_10 (by decide) ?_
    refine r_iconst X 0 dL_words_17 (by decide) ?_
    exact r_wret Rt (Nat.zero_le _) dL_words_18 h
  · by_cases e0 : E = "java/util/NoSuchElementException"
    · subst e0
      refine r_catch X hz ([] : List ExceptionTableEntry) ⟨0, 10, 13, 13⟩ ([] : List ExceptionTableEntry) ht (fun y hy => nomatch hy) (by decide) (by decide) wd2_176 (List.mem_of_getElem? (i := 18) rfl) (fun q9 => ?_)
      rw [if_pos rfl] at h
      refine r_astore X [(4, .ref q9), (0, .ref (zA z 0)), (1, .int a1), (2, .int a2), (3, .ref (zA z 34))] dL_words_13 (by decide) rfl ?_
      refine r_iconst X 1 dL_words_15 (by decide) ?_
      exact r_wret Rt (Nat.le_refl _) dL_words_16 h
    · rw [if_neg e0] at h
      cases h
theorem c_L_words (l : Launch) (hl : l.stackTraces = false) (N : Nat) (D : va_G) (cy : Nat → ClassId) (ad sa : Nat → Nat) (a1 : Int32) (a2 : Int32) (σ : Sg) : CtW l yL_words cL_words 5 [(0, 10, 13, 13)] 8 134 D cy ad sa [.ref (ad 0), .int a1, .int a2, .ref (ad 34)] σ (f_L_words N a1 a2 σ) :=
  ct_W hl (by decide +kernel) (Nat.le_of_ble_eq_true rfl) (fun z res e1 e2 e3 e4 e5 e6 X hz ht Rt h => by subst e1 e2 e3 e4 e5; exact w_L_words X ⟨e6.1, e6.2⟩ hz ht Rt N a1 a2 σ h)
def f_L_span (N : Nat) (a1 : Int32) (a2 : Int32) (a3 : Int32) (σ : Sg) : Option (Int32 × Sg) := cC (f_X7_span N a1 a2 a3 σ) (fun r σ1 => st (ss σ1 34 0 r) (fun σ3 => some (0, σ3))) (fun E σ2 => if E = "java/util/NoSuchElementException" then some (1, σ2) else if E = "java/lang/IllegalArgumentException" then some (2, σ2) else none)
set_option maxHeartbeats 4000000 in
set_option maxRecDepth 100000 in
theorem w_L_span {z : Cz} (X : Cx z cL_span 6 RL) (hR : 8 ≤ (zR z).frames ∧ 135 ≤ (zR z).locals) (hz : Rz z) (ht : (zc z).exceptionTable.toList = tableOf [(0, 12, 15, 13), (0, 12, 19, 15)]) {res : Int32 × Sg} (Rt : RtW z cL_span 6 res) (N : Nat) (a1 : Int32) (a2 : Int32) (a3 : Int32) (σ : Sg) (h : f_L_span N a1 a2 a3 σ = some res) : V z 0 6 0 [(0, .ref (zA z 0)), (1, .int a1), (2, .int a2), (3, .int a3), (4, .ref (zA z 34))] [] σ := by
  rw [f_L_span] at h
  refine r_aload X dL_span_0 4 rfl ?_
  refine r_iconst X 0 dL_span_2 (by decide) ?_
  refine r_aload_n X dL_span_3 rfl 0 rfl ?_
  refine r_iload_n X dL_span_4 rfl 1 rfl ?_
  refine r_iload_n X dL_span_5 rfl 2 rfl ?_
  refine r_iload_n X dL_span_6 rfl 3 rfl ?_
  refine r_callC X hz 0 7 (by decide) rfl rfl rfl lk_L_47 (c_X7_span (zl z) X.2.2.2.2.2.2.2.1 N (zD z) (zy z) (zA z) (zS z) a1 a2 a3 σ) ⟨Nat.le_trans (by decide) hR.1, Nat.le_trans (by decide) hR.2⟩ rfl rfl (Nat.le_of_ble_eq_true rfl) dL_span_7 h (fun r σ1 h => ?_) (fun E σ2 h => ?_)
  · refine r_i2l X dL_span_10 ?_
    refine r_last X dL_span_11 h (fun σ3 h => ?_)
    refine r_goto X 23 dL_span_12 (by decide) ?_
    refine r_iconst X 0 dL_span_23 (by decide) ?_
    exact r_wret Rt (Nat.zero_le _) dL_span_24 h
  · by_cases e0 : E = "java/util/NoSuchElementException"
    · subst e0
      refine r_catch X hz ([] : List ExceptionTableEntry) ⟨0, 12, 15, 13⟩ ([⟨0, 12, 19, 15⟩] : List ExceptionTableEntry) ht (fun y hy => nomatch hy) (by decide) (by decide) wd2_176 (List.mem_of_getElem? (i := 18) rfl) (fun q9 => ?_)
      rw [if_pos rfl] at h
      refine r_astore X [(5, .ref q9), (0, .ref (zA z 0)), (1, .int a1), (2, .int a2), (3, .int a3), (4, .ref (zA z 34))] dL_span_15 (by decide) rfl ?_
      refine r_iconst X 1 dL_span_17 (by decide) ?_
      exact r_wret Rt (Nat.le_refl _) dL_span_18 h
    · rw [if_neg e0] at h
      by_cases e1 : E = "java/lang/IllegalArgumentException"
      · subst e1
        refine r_catch X hz ([⟨0, 12, 15, 13⟩] : List ExceptionTableEntry) ⟨0, 12, 19, 15⟩ ([] : List ExceptionTableEntry) ht (fun y hy => by
            simp only [List.mem_cons, List.not_mem_nil, or_false] at hy
            rcases hy with rfl
            · exact ⟨by decide, "java/util/NoSuchElementException", wd2_176, List.mem_of_getElem? (i := 0) rfl⟩) (by decide) (by decide) wd2_177 (List.mem_of_getElem? (i := 25) rfl) (fun q9 => ?_)
        rw [if_pos rfl] at h
        refine r_astore X [(5, .ref q9), (0, .ref (zA z 0)), (1, .int a1), (2, .int a2), (3, .int a3), (4, .ref (zA z 34))] dL_span_19 (by decide) rfl ?_
        refine r_iconst X 2 dL_span_21 (by decide) ?_
        exact r_wret Rt (Nat.le_refl _) dL_span_22 h
      · rw [if_neg e1] at h
        cases h
theorem c_L_span (l : Launch) (hl : l.stackTraces = false) (N : Nat) (D : va_G) (cy : Nat → ClassId) (ad sa : Nat → Nat) (a1 : Int32) (a2 : Int32) (a3 : Int32) (σ : Sg) : CtW l yL_span cL_span 6 [(0, 12, 15, 13), (0, 12, 19, 15)] 8 135 D cy ad sa [.ref (ad 0), .int a1, .int a2, .int a3, .ref (ad 34)] σ (f_L_span N a1 a2 a3 σ) :=
  ct_W hl (by decide +kernel) (Nat.le_of_ble_eq_true rfl) (fun z res e1 e2 e3 e4 e5 e6 X hz ht Rt h => by subst e1 e2 e3 e4 e5; exact w_L_span X ⟨e6.1, e6.2⟩ hz ht Rt N a1 a2 a3 σ h)
def f_L_outline (N : Nat) (a1 : Int32) (a2 : Int32) (σ : Sg) : Option (Int32 × Sg) := cC (f_X7_outline N a1 a2 σ) (fun r σ1 => st (ss σ1 34 0 r) (fun σ3 => some (0, σ3))) (fun E σ2 => if E = "java/lang/IndexOutOfBoundsException" then some (1, σ2) else none)
set_option maxHeartbeats 4000000 in
set_option maxRecDepth 100000 in
theorem w_L_outline {z : Cz} (X : Cx z cL_outline 5 RL) (hR : 8 ≤ (zR z).frames ∧ 151 ≤ (zR z).locals) (hz : Rz z) (ht : (zc z).exceptionTable.toList = tableOf [(0, 10, 13, 32)]) {res : Int32 × Sg} (Rt : RtW z cL_outline 5 res) (N : Nat) (a1 : Int32) (a2 : Int32) (σ : Sg) (h : f_L_outline N a1 a2 σ = some res) : V z 0 5 0 [(0, .ref (zA z 0)), (1, .int a1), (2, .int a2), (3, .ref (zA z 34))] [] σ := by
  rw [f_L_outline] at h
  refine r_aload_n X dL_outline_0 rfl 3 rfl ?_
  refine r_iconst X 0 dL_outline_1 (by decide) ?_
  refine r_aload_n X dL_outline_2 rfl 0 rfl ?_
  refine r_iload_n X dL_outline_3 rfl 1 rfl ?_
  refine r_iload_n X dL_outline_4 rfl 2 rfl ?_
  refine r_callC X hz 0 7 (by decide) rfl rfl rfl lk_L_50 (c_X7_outline (zl z) X.2.2.2.2.2.2.2.1 N (zD z) (zy z) (zA z) (zS z) a1 a2 σ) ⟨Nat.le_trans (by decide) hR.1, Nat.le_trans (by decide) hR.2⟩ rfl rfl (Nat.le_of_ble_eq_true rfl) dL_outline_5 h (fun r σ1 h => ?_) (fun E σ2 h => ?_)
  · refine r_i2l X dL_outline_8 ?_
    refine r_last X dL_outline_9 h (fun σ3 h => ?_)
    refine r_goto X 17 dL_outline_10 (by decide) ?_
    refine r_iconst X 0 dL_outline_17 (by decide) ?_
    exact r_wret Rt (Nat.zero_le _) dL_outline_18 h
  · by_cases e0 : E = "java/lang/IndexOutOfBoundsException"
    · subst e0
      refine r_catch X hz ([] : List ExceptionTableEntry) ⟨0, 10, 13, 32⟩ ([] : List ExceptionTableEntry) ht (fun y hy => nomatch hy) (by decide) (by decide) wd3_110 (List.mem_of_getElem? (i := 27) rfl) (fun q9 => ?_)
      rw [if_pos rfl] at h
      refine r_astore X [(4, .ref q9), (0, .ref (zA z 0)), (1, .int a1), (2, .int a2), (3, .ref (zA z 34))] dL_outline_13 (by decide) rfl ?_
      refine r_iconst X 1 dL_outline_15 (by decide) ?_
      exact r_wret Rt (Nat.le_refl _) dL_outline_16 h
    · rw [if_neg e0] at h
      cases h
theorem c_L_outline (l : Launch) (hl : l.stackTraces = false) (N : Nat) (D : va_G) (cy : Nat → ClassId) (ad sa : Nat → Nat) (a1 : Int32) (a2 : Int32) (σ : Sg) : CtW l yL_outline cL_outline 5 [(0, 10, 13, 32)] 8 151 D cy ad sa [.ref (ad 0), .int a1, .int a2, .ref (ad 34)] σ (f_L_outline N a1 a2 σ) :=
  ct_W hl (by decide +kernel) (Nat.le_of_ble_eq_true rfl) (fun z res e1 e2 e3 e4 e5 e6 X hz ht Rt h => by subst e1 e2 e3 e4 e5; exact w_L_outline X ⟨e6.1, e6.2⟩ hz ht Rt N a1 a2 σ h)
def f_L_untagged (N : Nat) (a1 : Int32) (σ : Sg) : Option (Int32 × Sg) := cC (f_X7_untagged N a1 σ) (fun r σ1 => st (ss σ1 34 0 r) (fun σ3 => some (0, σ3))) (fun E σ2 => if E = "java/lang/IndexOutOfBoundsException" then some (1, σ2) else none)
set_option maxHeartbeats 4000000 in
set_option maxRecDepth 100000 in
theorem w_L_untagged {z : Cz} (X : Cx z cL_untagged 4 RL) (hR : 7 ≤ (zR z).frames ∧ 111 ≤ (zR z).locals) (hz : Rz z) (ht : (zc z).exceptionTable.toList = tableOf [(0, 9, 12, 32)]) {res : Int32 × Sg} (Rt : RtW z cL_untagged 4 res) (N : Nat) (a1 : Int32) (σ : Sg) (h : f_L_untagged N a1 σ = some res) : V z 0 4 0 [(0, .ref (zA z 0)), (1, .int a1), (2, .ref (zA z 34))] [] σ := by
  rw [f_L_untagged] at h
  refine r_aload_n X dL_untagged_0 rfl 2 rfl ?_
  refine r_iconst X 0 dL_untagged_1 (by decide) ?_
  refine r_aload_n X dL_untagged_2 rfl 0 rfl ?_
  refine r_iload_n X dL_untagged_3 rfl 1 rfl ?_
  refine r_callC X hz 0 7 (by decide) rfl rfl rfl lk_L_53 (c_X7_untagged (zl z) X.2.2.2.2.2.2.2.1 N (zD z) (zy z) (zA z) (zS z) a1 σ) ⟨Nat.le_trans (by decide) hR.1, Nat.le_trans (by decide) hR.2⟩ rfl rfl (Nat.le_of_ble_eq_true rfl) dL_untagged_4 h (fun r σ1 h => ?_) (fun E σ2 h => ?_)
  · refine r_i2l X dL_untagged_7 ?_
    refine r_last X dL_untagged_8 h (fun σ3 h => ?_)
    refine r_goto X 15 dL_untagged_9 (by decide) ?_
    refine r_iconst X 0 dL_untagged_15 (by decide) ?_
    exact r_wret Rt (Nat.zero_le _) dL_untagged_16 h
  · by_cases e0 : E = "java/lang/IndexOutOfBoundsException"
    · subst e0
      refine r_catch X hz ([] : List ExceptionTableEntry) ⟨0, 9, 12, 32⟩ ([] : List ExceptionTableEntry) ht (fun y hy => nomatch hy) (by decide) (by decide) wd3_110 (List.mem_of_getElem? (i := 27) rfl) (fun q9 => ?_)
      rw [if_pos rfl] at h
      refine r_astore_n X [(3, .ref q9), (0, .ref (zA z 0)), (1, .int a1), (2, .ref (zA z 34))] dL_untagged_12 rfl (by decide) rfl ?_
      refine r_iconst X 1 dL_untagged_13 (by decide) ?_
      exact r_wret Rt (Nat.le_refl _) dL_untagged_14 h
    · rw [if_neg e0] at h
      cases h
theorem c_L_untagged (l : Launch) (hl : l.stackTraces = false) (N : Nat) (D : va_G) (cy : Nat → ClassId) (ad sa : Nat → Nat) (a1 : Int32) (σ : Sg) : CtW l yL_untagged cL_untagged 4 [(0, 9, 12, 32)] 7 111 D cy ad sa [.ref (ad 0), .int a1, .ref (ad 34)] σ (f_L_untagged N a1 σ) :=
  ct_W hl (by decide +kernel) (Nat.le_of_ble_eq_true rfl) (fun z res e1 e2 e3 e4 e5 e6 X hz ht Rt h => by subst e1 e2 e3 e4 e5; exact w_L_untagged X ⟨e6.1, e6.2⟩ hz ht Rt N a1 σ h)
