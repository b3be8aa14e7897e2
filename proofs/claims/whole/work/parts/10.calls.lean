/-! ===== contracts and calls over the one world ===== -/
def Pm (D : va_G) (cy : Nat → ClassId) (ad sa : Nat → Nat) (avs : List Value) (σ : Sg) (sz : Nat) : Array Value → State → Prop := fun v U =>
  v = avs.toArray ∧ U.heap.size = sz ∧ va_P D vwCl (wW cy ad σ) U.heap ∧ va_K D vwCl (tyW cy) U ∧ va_D (fun _ => True) (wW cy ad σ) ∧ Ext sa (Ar ad sz) U U.heap
theorem Pm_blind {D : va_G} {cy : Nat → ClassId} {ad sa : Nat → Nat} {avs : List Value} {σ : Sg} {sz : Nat} : FrameBlind (Pm D cy ad sa avs σ sz) :=
  fun a U g mk q => by
    obtain ⟨h1, h2, h3, h4, h5, h6⟩ := q
    exact ⟨h1, h2, h3, va_K.moved (u := U) (U := U.calling g mk a) (Vm.Alike.refl U.vm) h4, h5, Ext.same (s := U) (U := U.calling g mk a) h6 rfl⟩
def Qi (D : va_G) (cy : Nat → ClassId) (ad : Nat → Nat) (sz : Nat) (r : Int32) (σ' : Sg) : Array Value → State → Outcome → State → Prop := va_Qi (fun r' (_ : Unit) => r' = r) (fun _ t => va_P D vwCl (wW cy ad σ') t.heap) (Ar ad sz)
def Qv (D : va_G) (cy : Nat → ClassId) (ad : Nat → Nat) (sz : Nat) (σ' : Sg) : Array Value → State → Outcome → State → Prop := va_Qv (fun (_ : Unit) => True) (fun _ t => va_P D vwCl (wW cy ad σ') t.heap) (Ar ad sz)
def Xe (D : va_G) (cy : Nat → ClassId) (ad : Nat → Nat) (sz : Nat) (E : String) (σ' : Sg) : String → State → State → Prop := vx_X (fun (_ : Unit) => True) (fun E' _ t => E' = E ∧ va_P D vwCl (wW cy ad σ') t.heap) (Ar ad sz)
abbrev wy (y : MethodName) (code : ByteArray) (maxL : Nat) (ret : Option FieldType) : List Cond := Cond.code y code maxL ret :: ALL
abbrev rm (fr lo c n : Nat) : Room := { frames := fr, cells := c, slots := n, locals := lo }
/-- a method that answers a number (or true, false) -/
def CtI (l : Launch) (y : MethodName) (code : ByteArray) (maxL : Nat) (ret : Option FieldType) (fr lo : Nat) (D : va_G) (cy : Nat → ClassId) (ad sa : Nat → Nat) (avs : List Value) (σ : Sg) (x : Option (Int32 × Sg)) : Prop :=
  ∀ (sz : Nat) (r : Int32) (σ' : Sg), x = some (r, σ') → Met l y (wy y code maxL ret) (rm fr lo 0 0) (Pm D cy ad sa avs σ sz) (Qi D cy ad sz r σ') 0 0 (Ar ad sz)
/-- a method that answers nothing -/
def CtV (l : Launch) (y : MethodName) (code : ByteArray) (maxL : Nat) (fr lo : Nat) (D : va_G) (cy : Nat → ClassId) (ad sa : Nat → Nat) (avs : List Value) (σ : Sg) (x : Option (Int32 × Sg)) : Prop :=
  ∀ (sz : Nat) (r : Int32) (σ' : Sg), x = some (r, σ') → Met l y (wy y code maxL none) (rm fr lo 0 0) (Pm D cy ad sa avs σ sz) (Qv D cy ad sz σ') 0 0 (Ar ad sz)
/-- a method that answers a number, or throws -/
def CtT (l : Launch) (y : MethodName) (code : ByteArray) (maxL : Nat) (ret : Option FieldType) (fr lo : Nat) (D : va_G) (cy : Nat → ClassId) (ad sa : Nat → Nat) (avs : List Value) (σ : Sg) (x : Option Out) : Prop :=
  (∀ (sz : Nat) (r : Int32) (σ' : Sg), x = some (.inr r, σ') → Met l y (wy y code maxL ret) (rm fr lo 0 0) (Pm D cy ad sa avs σ sz) (Qi D cy ad sz r σ') 0 0 (Ar ad sz)) ∧
  (∀ (sz : Nat) (E : String) (σ' : Sg), x = some (.inl E, σ') → vx_Met l y (wy y code maxL ret) (rm fr lo 1 6) (Pm D cy ad sa avs σ sz) (fun _ _ _ _ => False) (Xe D cy ad sz E σ') 1 6 (Ar ad sz))
/-- .. that answers nothing, or throws -/
def CtU (l : Launch) (y : MethodName) (code : ByteArray) (maxL : Nat) (fr lo : Nat) (D : va_G) (cy : Nat → ClassId) (ad sa : Nat → Nat) (avs : List Value) (σ : Sg) (x : Option Out) : Prop :=
  (∀ (sz : Nat) (r : Int32) (σ' : Sg), x = some (.inr r, σ') → Met l y (wy y code maxL none) (rm fr lo 0 0) (Pm D cy ad sa avs σ sz) (Qv D cy ad sz σ') 0 0 (Ar ad sz)) ∧
  (∀ (sz : Nat) (E : String) (σ' : Sg), x = some (.inl E, σ') → vx_Met l y (wy y code maxL none) (rm fr lo 1 6) (Pm D cy ad sa avs σ sz) (fun _ _ _ _ => False) (Xe D cy ad sz E σ') 1 6 (Ar ad sz))
theorem ALL_good {ws : List Cond} (h : ∀ w ∈ ws, w ∈ ALL) : GoodIn ALL ws := fun w hw => ⟨h w hw, good_of_word (List.mem_filter.mp (h w hw)).2⟩
theorem wy_in {y : MethodName} {code : ByteArray} {maxL : Nat} {ret : Option FieldType} (h : Cond.code y code maxL ret ∈ ALL) : ∀ w ∈ wy y code maxL ret, w ∈ ALL := fun w hw => (List.mem_cons.mp hw).elim (fun e => by rw [e]; exact h) id
section CL
variable {z : Cz} {k nL pc : Nat} {lv : List (Nat × Value)} {rest : List Value} {σ : Sg} {cc : ByteArray} {own : String} {β : Type} {res : β}
/-- what the callee finds -/
theorem pm_at (X : Cx z cc nL own) {σ : Sg} {H : Heap} {locs : List Loc} (avs : List Value) (hP : va_P (zD z) vwCl (wW (zy z) (zA z) σ) H) (hD : va_D (Ar (zA z) (zs z).heap.size) (wW (zy z) (zA z) σ)) (hS : va_S (Ar (zA z) (zs z).heap.size) (zs z).heap H locs) (U : State) (hU : U.heap = H) (hW : (zs z).WarmedH U.vm) : Pm (zD z) (zy z) (zA z) (zS z) avs σ H.size avs.toArray U :=
  ⟨rfl, by rw [hU], by rw [hU]; exact hP, va_K.moved hW.alike X.2.2.2.2.2.1, wW_D σ hD (fun _ _ _ => trivial), by rw [hU]; exact X.2.2.2.2.2.2.1.go hW (fun a h1 h2 => hS.2.1 a h1 h2) (fun q hq => Ar_mono hS.1 hq)⟩
/-- the receiver -/
theorem rc_at (X : Cx z cc nL own) {σ : Sg} {H : Heap} (q ci : Nat) {fs : List Value} {C : vw_C} (hq : q < 57) (he : ccW (zy z) (zA z) q (σ q) = .inr (ci, fs)) (hc9 : vwCl[ci]? = some C) (hP : va_P (zD z) vwCl (wW (zy z) (zA z) σ) H) : ∃ cell : Cell, H[zA z q]? = some cell ∧ cell.vm.isStatics = false ∧ (zs z).vm.findClass C.1 = some cell.cls :=
  va_recv X.2.2.2.2.2.1 hP hc9 (by rw [wW_at _ _ _ q hq, he])
/-- how a site links -/
def LkV (own : String) (index : Nat) (C : String) (y : MethodName) (code : ByteArray) (maxL : Nat) (ret : Option FieldType) (n : Nat) : Prop :=
  Cond.methodLink own index y ∈ ALL ∧ Cond.instanceMethod y ∈ ALL ∧ Cond.selects C y y ∈ ALL ∧ Cond.initialized C ∈ ALL ∧ Cond.code y code maxL ret ∈ ALL ∧ y.cls = C ∧ y.cls ≠ "java/lang/invoke/MethodHandle" ∧ y.cls ≠ "java/lang/invoke/VarHandle" ∧ (parseMethodDescriptor y.desc).map (fun d => d.parameters.length) = some n
def LkS (own : String) (index : Nat) (y : MethodName) (code : ByteArray) (maxL : Nat) (ret : Option FieldType) (n : Nat) : Prop :=
  Cond.methodLink own index y ∈ ALL ∧ Cond.static y ∈ ALL ∧ Cond.initialized y.cls ∈ ALL ∧ Cond.code y code maxL ret ∈ ALL ∧ y.cls ≠ "java/lang/invoke/MethodHandle" ∧ y.cls ≠ "java/lang/invoke/VarHandle" ∧ (parseMethodDescriptor y.desc).map (fun d => d.parameters.length) = some n
theorem lk_cwV {index : Nat} {C : String} {y : MethodName} {code : ByteArray} {maxL : Nat} {ret : Option FieldType} {n fr lo mc ms : Nat} (X : Cx z cc nL own) (L : LkV own index C y code maxL ret n) (hR : fr + 1 ≤ (zR z).frames ∧ 8 + (maxL + 11) + lo ≤ (zR z).locals) : CallW (zR z) (zs z) (za z) own C index y code maxL ret (wy y code maxL ret) (rm fr lo mc ms) mc ms n := by
  obtain ⟨h1, h2, h3, h4, h5, h6, h7, h8, h9⟩ := L
  refine cwV n X.2.2.2.2.1 (ALL_good ?_) rfl rfl rfl ⟨h6, h7, h8, h9⟩ hR
  intro w hw
  simp only [wsV, List.mem_append, List.mem_cons, List.not_mem_nil, or_false] at hw
  rcases hw with (rfl | rfl | rfl | rfl) | rfl | hw
  · exact h1
  · exact h2
  · exact h3
  · exact h4
  · exact h5
  · exact hw
theorem lk_cwS {index : Nat} {y : MethodName} {code : ByteArray} {maxL : Nat} {ret : Option FieldType} {n fr lo mc ms : Nat} (X : Cx z cc nL own) (L : LkS own index y code maxL ret n) (hR : fr + 1 ≤ (zR z).frames ∧ 8 + (maxL + 11) + lo ≤ (zR z).locals) : CallB (zR z) (zs z) (za z) own index y code maxL ret (wy y code maxL ret) (rm fr lo mc ms) mc ms n ∧ (Cond.static y).before (za z) (zs z) = true := by
  obtain ⟨h1, h2, h3, h4, h5, h6, h7⟩ := L
  refine va_cwS n X.2.2.2.2.1 (ALL_good ?_) rfl rfl rfl ⟨h5, h6, h7⟩ hR
  intro w hw
  simp only [va_wsS, List.mem_append, List.mem_cons, List.not_mem_nil, or_false] at hw
  rcases hw with (rfl | rfl | rfl) | rfl | hw
  · exact h1
  · exact h2
  · exact h3
  · exact h4
  · exact hw
theorem cI_some {x : Option (Int32 × Sg)} {K : Int32 → Sg → Option β} (h : cI x K = some res) : ∃ r σ', x = some (r, σ') ∧ K r σ' = some res := by
  unfold cI at h
  match x, h with
  | some (r, σ'), h => exact ⟨r, σ', rfl, h⟩
theorem cT_some {x : Option Out} {K : Int32 → Sg → Option Out} {res : Out} (h : cT x K = some res) : (∃ r σ', x = some (.inr r, σ') ∧ K r σ' = some res) ∨ (∃ E σ', x = some (.inl E, σ') ∧ res = (.inl E, σ')) := by
  unfold cT at h
  match x, h with
  | some (.inr r, σ'), h => exact Or.inl ⟨r, σ', rfl, h⟩
  | some (.inl E, σ'), h => exact Or.inr ⟨E, σ', rfl, (Option.some.inj h).symm⟩
variable {index : Nat} {C : String} {y : MethodName} {code : ByteArray} {maxL : Nat} {ret : Option FieldType} {n fr lo : Nat} {As : List Value} {x : Option (Int32 × Sg)} {K : Int32 → Sg → Option β}
theorem r_callV (X : Cx z cc nL own) (q ci : Nat) {fs : List Value} {CC : vw_C} (hq : q < 57) (he : ccW (zy z) (zA z) q (σ q) = .inr (ci, fs)) (hc9 : vwCl[ci]? = some CC) (hC : CC.1 = C) (L : LkV own index C y code maxL ret n) (hM : CtI (zl z) y code maxL ret fr lo (zD z) (zy z) (zA z) (zS z) (.ref (zA z q) :: As) σ x) (hR : fr + 1 ≤ (zR z).frames ∧ 8 + (maxL + 11) + lo ≤ (zR z).locals) (hn : As.length = n) {stk : List Value} (hst : stk = As.reverse ++ .ref (zA z q) :: rest) (hw : (rest.map fun v => v.category).sum ≤ 8)
    (hdg : decode cc pc = .ok (.invokevirtual index, 3)) (h : cI x K = some res) (kk : ∀ (r : Int32) (σ' : Sg), K r σ' = some res → V z k nL (pc + 3) lv (.int r :: rest) σ') : V z k nL pc lv stk σ := by
  intro H locs ls hc hP hD hS hl
  obtain ⟨r, σ', hx, hk⟩ := cI_some h
  subst hC
  refine va_calli (A1 := Ar (zA z) H.size) (va_runV (As := As) (rest := rest) ⟨X.1, X.2.1, X.2.2.1, X.2.2.2.1, X.2.2.2.2.1⟩ (hM H.size r σ' hx) (lk_cwV X L hR) ⟨Pm_blind, rc_at X q ci hq he hc9 hP, fun U hU hW => pm_at X _ hP hD hS U hU hW⟩ rfl hn hl.1 hst (lv_room hw) hdg ⟨hc.1, hc.2⟩) hS (fun q _ h => Ar_mono hS.1 h) (fun q h => Ar_mono hS.1 h) (fun r9 u t H1 locs1 ht hvm hpo hB hz1 hk1 hS1 => ?_)
  subst hpo; subst ht
  exact kk r9 σ' hk _ locs1 ls hc hB (wW_D σ' hD (fun _ _ h => h)) hS1 hl
theorem r_callVv (X : Cx z cc nL own) (q ci : Nat) {fs : List Value} {CC : vw_C} (hq : q < 57) (he : ccW (zy z) (zA z) q (σ q) = .inr (ci, fs)) (hc9 : vwCl[ci]? = some CC) (hC : CC.1 = C) (L : LkV own index C y code maxL none n) (hM : CtV (zl z) y code maxL fr lo (zD z) (zy z) (zA z) (zS z) (.ref (zA z q) :: As) σ x) (hR : fr + 1 ≤ (zR z).frames ∧ 8 + (maxL + 11) + lo ≤ (zR z).locals) (hn : As.length = n) {stk : List Value} (hst : stk = As.reverse ++ .ref (zA z q) :: rest) (hw : (rest.map fun v => v.category).sum ≤ 8)
    (hdg : decode cc pc = .ok (.invokevirtual index, 3)) (h : cI x K = some res) (kk : ∀ (r : Int32) (σ' : Sg), K r σ' = some res → V z k nL (pc + 3) lv rest σ') : V z k nL pc lv stk σ := by
  intro H locs ls hc hP hD hS hl
  obtain ⟨r, σ', hx, hk⟩ := cI_some h
  subst hC
  refine va_callv (A1 := Ar (zA z) H.size) (va_runV (As := As) (rest := rest) ⟨X.1, X.2.1, X.2.2.1, X.2.2.2.1, X.2.2.2.2.1⟩ (hM H.size r σ' hx) (lk_cwV X L hR) ⟨Pm_blind, rc_at X q ci hq he hc9 hP, fun U hU hW => pm_at X _ hP hD hS U hU hW⟩ rfl hn hl.1 hst (lv_room hw) hdg ⟨hc.1, hc.2⟩) hS (fun q _ h => Ar_mono hS.1 h) (fun q h => Ar_mono hS.1 h) (fun u t H1 locs1 ht hvm hpo hB hz1 hk1 hS1 => ?_)
  subst ht
  exact kk r σ' hk _ locs1 ls hc hB (wW_D σ' hD (fun _ _ h => h)) hS1 hl
theorem r_callS (X : Cx z cc nL own) (L : LkS own index y code maxL ret n) (hM : CtI (zl z) y code maxL ret fr lo (zD z) (zy z) (zA z) (zS z) As σ x) (hR : fr + 1 ≤ (zR z).frames ∧ 8 + (maxL + 11) + lo ≤ (zR z).locals) (hn : As.length = n) {stk : List Value} (hst : stk = As.reverse ++ rest) (hw : (rest.map fun v => v.category).sum ≤ 8)
    (hdg : decode cc pc = .ok (.invokestatic index, 3)) (h : cI x K = some res) (kk : ∀ (r : Int32) (σ' : Sg), K r σ' = some res → V z k nL (pc + 3) lv (.int r :: rest) σ') : V z k nL pc lv stk σ := by
  intro H locs ls hc hP hD hS hl
  obtain ⟨r, σ', hx, hk⟩ := cI_some h
  refine va_calli (A1 := Ar (zA z) H.size) (va_runS (As := As) (rest := rest) ⟨X.1, X.2.1, X.2.2.1, X.2.2.2.1, X.2.2.2.2.1⟩ (hM H.size r σ' hx) (lk_cwS X L hR) ⟨Pm_blind, fun U hU hW => pm_at X _ hP hD hS U hU hW⟩ rfl hn hl.1 hst (lv_room hw) hdg ⟨hc.1, hc.2⟩) hS (fun q _ h => Ar_mono hS.1 h) (fun q h => Ar_mono hS.1 h) (fun r9 u t H1 locs1 ht hvm hpo hB hz1 hk1 hS1 => ?_)
  subst hpo; subst ht
  exact kk r9 σ' hk _ locs1 ls hc hB (wW_D σ' hD (fun _ _ h => h)) hS1 hl
theorem r_callSv (X : Cx z cc nL own) (L : LkS own index y code maxL none n) (hM : CtV (zl z) y code maxL fr lo (zD z) (zy z) (zA z) (zS z) As σ x) (hR : fr + 1 ≤ (zR z).frames ∧ 8 + (maxL + 11) + lo ≤ (zR z).locals) (hn : As.length = n) {stk : List Value} (hst : stk = As.reverse ++ rest) (hw : (rest.map fun v => v.category).sum ≤ 8)
    (hdg : decode cc pc = .ok (.invokestatic index, 3)) (h : cI x K = some res) (kk : ∀ (r : Int32) (σ' : Sg), K r σ' = some res → V z k nL (pc + 3) lv rest σ') : V z k nL pc lv stk σ := by
  intro H locs ls hc hP hD hS hl
  obtain ⟨r, σ', hx, hk⟩ := cI_some h
  refine va_callv (A1 := Ar (zA z) H.size) (va_runS (As := As) (rest := rest) ⟨X.1, X.2.1, X.2.2.1, X.2.2.2.1, X.2.2.2.2.1⟩ (hM H.size r σ' hx) (lk_cwS X L hR) ⟨Pm_blind, fun U hU hW => pm_at X _ hP hD hS U hU hW⟩ rfl hn hl.1 hst (lv_room hw) hdg ⟨hc.1, hc.2⟩) hS (fun q _ h => Ar_mono hS.1 h) (fun q h => Ar_mono hS.1 h) (fun u t H1 locs1 ht hvm hpo hB hz1 hk1 hS1 => ?_)
  subst ht
  exact kk r σ' hk _ locs1 ls hc hB (wW_D σ' hD (fun _ _ h => h)) hS1 hl
/-! ends of a body that does not throw -/
def RtI (z : Cz) (cc : ByteArray) (nL : Nat) (ty : FieldType) (res : Int32 × Sg) : Prop := ∀ (pc : Nat) (lv : List (Nat × Value)) (v : Int32) (σ : Sg), decode cc pc = .ok (.ireturn, 1) → narrow ty (.int v) = .int v → (v, σ) = res → V z 0 nL pc lv [.int v] σ
def RtV (z : Cz) (cc : ByteArray) (nL : Nat) (res : Int32 × Sg) : Prop := ∀ (pc : Nat) (lv : List (Nat × Value)) (σ : Sg), decode cc pc = .ok (.return_, 1) → σ = res.2 → V z 0 nL pc lv [] σ
theorem r_iret {res : Int32 × Sg} (Rt : RtI z cc nL .int res) {v : Int32} (hdg : decode cc pc = .ok (.ireturn, 1)) (h : some (v, σ) = some res) : V z 0 nL pc lv [.int v] σ := Rt pc lv v σ hdg rfl (Option.some.inj h)
theorem nar01 {v : Int32} (h : v = 0 ∨ v = 1) : narrow .boolean (.int v) = .int v := by
  rcases h with rfl | rfl <;> rfl
theorem r_zret {res : Int32 × Sg} (Rt : RtI z cc nL .boolean res) {v : Int32} (hdg : decode cc pc = .ok (.ireturn, 1)) {dc : Decidable (v = 0 ∨ v = 1)} (h : @gd _ (v = 0 ∨ v = 1) dc (some (v, σ)) = some res) : V z 0 nL pc lv [.int v] σ := by
  unfold gd at h
  by_cases g : v = 0 ∨ v = 1
  · rw [if_pos g] at h
    exact Rt pc lv v σ hdg (nar01 g) (Option.some.inj h)
  · rw [if_neg g] at h; cases h
theorem r_zretC {res : Int32 × Sg} (Rt : RtI z cc nL .boolean res) {v : Int32} (hdg : decode cc pc = .ok (.ireturn, 1)) (hv : v = 0 ∨ v = 1) (h : some (v, σ) = some res) : V z 0 nL pc lv [.int v] σ := Rt pc lv v σ hdg (nar01 hv) (Option.some.inj h)
theorem r_vret {res : Int32 × Sg} (Rt : RtV z cc nL res) (hdg : decode cc pc = .ok (.return_, 1)) (h : some ((0 : Int32), σ) = some res) : V z 0 nL pc lv [] σ := Rt pc lv σ hdg (by rw [← Option.some.inj h])
end CL
/-! a body's walk gives its contract -/
section CO
variable {l : Launch} {y : MethodName} {code : ByteArray} {maxL fr lo : Nat} {D : va_G} {cy : Nat → ClassId} {ad sa : Nat → Nat} {avs : List Value} {σ : Sg} {x : Option (Int32 × Sg)}
theorem ct_I {ty : FieldType} (hl : l.stackTraces = false) (hy : plainName y.cls = true) (hn : (lg_sl avs).length ≤ maxL) (walk : ∀ (z : Cz) (res : Int32 × Sg), zl z = l → zD z = D → zy z = cy → zA z = ad → zS z = sa → (fr ≤ (zR z).frames ∧ lo ≤ (zR z).locals) → Cx z code maxL y.cls → RtI z code maxL ty res → x = some res → V z 0 maxL 0 (lv_args 0 avs) [] σ) : CtI l y code maxL (some ty) fr lo D cy ad sa avs σ x := by
  intro sz r σ' hx
  refine Met.ofW (cc := code) (maxL := maxL) (ret := some ty) hy rfl ?_
  intro p e s m args below meth c s₁ B hml hv
  obtain ⟨rfl, hsz, hP, hK, hD0, hE⟩ := hv
  subst hsz
  have hts0 := atoms_spec (ws := wy y code maxL (some ty)) B.pre
  have hts : ∀ w ∈ ALL, w.before avs.toArray s = true := fun w hw => hts0 w (List.mem_cons_of_mem _ hw)
  have hown : s.vm.findClass y.cls = some m.cls := findClass_of_methodNamed B.named
  have hl9 := lv_entry avs (n := maxL) hn
  rw [lg_entry_eq]
  generalize (lg_sl avs ++ List.replicate (maxL - (lg_sl avs).length) Slot.unset).toArray = ls at hl9 ⊢
  have hD : va_D (Ar ad s.heap.size) (wW cy ad σ) := wW_D σ hD0 (fun k hk _ => wW_in hk)
  exact walk (p, l, e, rm fr lo 0 0, s, m, avs.toArray, below, meth, c, MQ below (Qi D cy ad s.heap.size r σ') avs.toArray s 0 0 (Ar ad s.heap.size), D, cy, ad, sa, 0, 0) (r, σ') rfl rfl rfl rfl rfl ⟨Nat.le_refl _, Nat.le_refl _⟩
    ⟨B.exec, B.bytes, hml, hown, hts, hK, hE, hl, B.notSynchronized⟩
    (fun pc lv v τ hdg hnr e9 H locs ls hc hP hD hS hl => by
      cases e9
      exact W.zret B.exec B.bytes B.returns hnr (fun t ht hW => ⟨⟨_, (), rfl, rfl, by show va_P D vwCl (wW cy ad _) t.heap; rw [ht]; exact hP⟩, hS.F ht⟩) hS.2.2 hdg B.notSynchronized) hx s.heap [] ls ⟨Nat.le_refl 0, Nat.le_refl 0⟩ hP hD va_S.rf hl9
theorem ct_V (hl : l.stackTraces = false) (hy : plainName y.cls = true) (hn : (lg_sl avs).length ≤ maxL) (walk : ∀ (z : Cz) (res : Int32 × Sg), zl z = l → zD z = D → zy z = cy → zA z = ad → zS z = sa → (fr ≤ (zR z).frames ∧ lo ≤ (zR z).locals) → Cx z code maxL y.cls → RtV z code maxL res → x = some res → V z 0 maxL 0 (lv_args 0 avs) [] σ) : CtV l y code maxL fr lo D cy ad sa avs σ x := by
  intro sz r σ' hx
  refine Met.ofW (cc := code) (maxL := maxL) (ret := none) hy rfl ?_
  intro p e s m args below meth c s₁ B hml hv
  obtain ⟨rfl, hsz, hP, hK, hD0, hE⟩ := hv
  subst hsz
  have hts0 := atoms_spec (ws := wy y code maxL none) B.pre
  have hts : ∀ w ∈ ALL, w.before avs.toArray s = true := fun w hw => hts0 w (List.mem_cons_of_mem _ hw)
  have hown : s.vm.findClass y.cls = some m.cls := findClass_of_methodNamed B.named
  have hl9 := lv_entry avs (n := maxL) hn
  rw [lg_entry_eq]
  generalize (lg_sl avs ++ List.replicate (maxL - (lg_sl avs).length) Slot.unset).toArray = ls at hl9 ⊢
  have hD : va_D (Ar ad s.heap.size) (wW cy ad σ) := wW_D σ hD0 (fun k hk _ => wW_in hk)
  exact walk (p, l, e, rm fr lo 0 0, s, m, avs.toArray, below, meth, c, MQ below (Qv D cy ad s.heap.size σ') avs.toArray s 0 0 (Ar ad s.heap.size), D, cy, ad, sa, 0, 0) (r, σ') rfl rfl rfl rfl rfl ⟨Nat.le_refl _, Nat.le_refl _⟩
    ⟨B.exec, B.bytes, hml, hown, hts, hK, hE, hl, B.notSynchronized⟩
    (fun pc lv τ hdg e9 H locs ls hc hP hD hS hl => by
      subst e9
      exact W.vret B.exec B.bytes B.returns (fun t ht hW => ⟨⟨(), rfl, trivial, by show va_P D vwCl (wW cy ad _) t.heap; rw [ht]; exact hP⟩, hS.F ht⟩) hS.2.2 hdg B.notSynchronized) hx s.heap [] ls ⟨Nat.le_refl 0, Nat.le_refl 0⟩ hP hD va_S.rf hl9
end CO
