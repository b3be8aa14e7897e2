/-! ===== constructors: worlds that grow, cell by cell ===== -/
abbrev Sx : Type := (Nat → Nat) × (Nat → ClassId)
def CxC (z : Cz) (A : Nat → Prop) (cc : ByteArray) (nL : Nat) (own : String) : Prop :=
  (zp z).tables.exec = Jvm.exec ∧ (zc z).code = cc ∧ (zc z).maxLocals = nL ∧ (zs z).vm.findClass own = some (zm z).cls ∧ (∀ w ∈ ALL, w.before (za z) (zs z) = true) ∧ (∀ q, (zs z).heap.size ≤ q → A q) ∧ (∀ w ∈ Nst, va_Nw w (zs z)) ∧ (zh z).locks = false
def VC (z : Cz) (A : Nat → Prop) (cl sl nL pc : Nat) (lv : List (Nat × Value)) (rest : List Value) (ws : va_W) (tys : List (ClassId × FieldType)) : Prop :=
  ∀ (H : Heap) (locs : List Loc) (ls : Array Slot), va_K (zD z) vwCl tys (zs z) → va_P (zD z) vwCl ws H → va_D A ws → va_S A (zs z).heap H locs → lv_has ls nL lv →
    W (zp z) (zl z) (ze z) (zR z) (zs z) (zm z) (za z) (zb z) (zh z) (zc z) H locs cl sl (zQ z) (F0 (zm z) pc ls rest)
def PmN (D : va_G) (avs : List Value) (ws0 : va_W) (tys0 : List (ClassId × FieldType)) (sz : Nat) : Array Value → State → Prop :=
  va_Pc avs (fun U => U.heap.size = sz ∧ va_P D vwCl ws0 U.heap ∧ va_K D vwCl tys0 U ∧ va_D (fun _ => True) ws0 ∧ ∀ w ∈ Nst, va_Nw w U)
theorem PmN_blind {D : va_G} {avs : List Value} {ws0 : va_W} {tys0 : List (ClassId × FieldType)} {sz : Nat} : FrameBlind (PmN D avs ws0 tys0 sz) :=
  fun a U g mk q => by
    obtain ⟨h1, h2, h3, h4, h5, h6⟩ := q
    exact ⟨h1, h2, h3, va_K.moved (u := U) (U := U.calling g mk a) (Vm.Alike.refl U.vm) h4, h5, fun w hw => nst_same (Nst_k w hw) (s := U) (U := U.calling g mk a) rfl (h6 w hw)⟩
def QmN (D : va_G) (ws0 : va_W) (W1 : Sx → va_W) (T1 : Sx → List (ClassId × FieldType)) (sz : Nat) : Array Value → State → Outcome → State → Prop :=
  va_Qv (fun (_ : Sx) => True) (fun u t => va_P D vwCl (W1 u) t.heap ∧ va_K D vwCl (T1 u) t ∧ va_D (va_A ws0 sz) (W1 u)) (va_A ws0 sz)
def CtN (l : Launch) (y : MethodName) (code : ByteArray) (maxL fr lo mc ms : Nat) (D : va_G) (avs : List Value) (ws0 : va_W) (tys0 : List (ClassId × FieldType)) (W1 : Sx → va_W) (T1 : Sx → List (ClassId × FieldType)) : Prop :=
  ∀ sz : Nat, Met l y (wy y code maxL none) (rm fr lo mc ms) (PmN D avs ws0 tys0 sz) (QmN D ws0 W1 T1 sz) mc ms (va_A ws0 sz)
theorem ct_N {l : Launch} {y : MethodName} {code : ByteArray} {maxL fr lo mc ms : Nat} {D : va_G} {avs : List Value} {ws0 : va_W} {tys0 : List (ClassId × FieldType)} {W1 : Sx → va_W} {T1 : Sx → List (ClassId × FieldType)} (hy : plainName y.cls = true) (hn : (lg_sl avs).length ≤ maxL)
    (walk : ∀ (z : Cz) (A : Nat → Prop), zD z = D → zR z = rm fr lo mc ms → CxC z A code maxL y.cls → ((zh z).name = y.name) → (∀ (pc : Nat) (lv : List (Nat × Value)) (u : Sx), decode code pc = .ok (.return_, 1) → VC z A mc ms maxL pc lv [] (W1 u) (T1 u)) → VC z A 0 0 maxL 0 (lv_args 0 avs) [] ws0 tys0) : CtN l y code maxL fr lo mc ms D avs ws0 tys0 W1 T1 := by
  intro sz
  refine Met.ofW (cc := code) (maxL := maxL) (ret := none) hy rfl ?_
  intro p e s m args below meth c s₁ B hml hv
  obtain ⟨rfl, hsz, hP, hK, hD0, hN⟩ := hv
  subst hsz
  have hts0 := atoms_spec (ws := wy y code maxL none) B.pre
  have hts : ∀ w ∈ ALL, w.before avs.toArray s = true := fun w hw => hts0 w (List.mem_cons_of_mem _ hw)
  have hown : s.vm.findClass y.cls = some m.cls := findClass_of_methodNamed B.named
  have hl9 := lv_entry avs (n := maxL) hn
  rw [lg_entry_eq]
  generalize (lg_sl avs ++ List.replicate (maxL - (lg_sl avs).length) Slot.unset).toArray = ls at hl9 ⊢
  exact walk (p, l, e, rm fr lo mc ms, s, m, avs.toArray, below, meth, c, MQ below (QmN D ws0 W1 T1 s.heap.size) avs.toArray s mc ms (va_A ws0 s.heap.size), D, fun _ => 0, fun _ => 0, fun _ => 0, 0, 0) (va_A ws0 s.heap.size) rfl rfl
    ⟨B.exec, B.bytes, hml, hown, hts, fun q h => Or.inr h, hN, B.notSynchronized⟩ ((name_of_methodNamed B.named B.method).1)
    (fun pc lv u hdg H locs ls hK hP hD hS hl => W.vret B.exec B.bytes B.returns (fun t ht hW => ⟨⟨u, rfl, trivial, by show va_P D vwCl (W1 u) t.heap; rw [ht]; exact hP, va_K.moved hW.alike hK, hD⟩, hS.F ht⟩) hS.2.2 hdg B.notSynchronized) s.heap [] ls hK hP (hD0.self (sz := s.heap.size)) va_S.rf hl9
section IN
variable {z : Cz} {A : Nat → Prop} {cl sl nL pc : Nat} {lv : List (Nat × Value)} {rest : List Value} {ws : va_W} {tys : List (ClassId × FieldType)} {cc : ByteArray} {own : String}
theorem i_iconst (X : CxC z A cc nL own) {n : Int} (v : Int32) (hdg : decode cc pc = .ok (.iconst n, 1)) (hv : Int32.ofInt n = v) (kk : VC z A cl sl nL (pc + 1) lv (.int v :: rest) ws tys) : VC z A cl sl nL pc lv rest ws tys :=
  fun H locs ls hK hP hD hS hl => lv_iconst X.1 X.2.1 hdg hv (kk H locs ls hK hP hD hS hl)
theorem i_bipush (X : CxC z A cc nL own) {n : Int} (v : Int32) (hdg : decode cc pc = .ok (.bipush n, 2)) (hv : (Int8.ofInt n).toInt32 = v) (kk : VC z A cl sl nL (pc + 2) lv (.int v :: rest) ws tys) : VC z A cl sl nL pc lv rest ws tys :=
  fun H locs ls hK hP hD hS hl => lv_bipush X.1 X.2.1 hdg hv (kk H locs ls hK hP hD hS hl)
theorem i_sipush (X : CxC z A cc nL own) {n : Int} (v : Int32) (hdg : decode cc pc = .ok (.sipush n, 3)) (hv : (Int16.ofInt n).toInt32 = v) (kk : VC z A cl sl nL (pc + 3) lv (.int v :: rest) ws tys) : VC z A cl sl nL pc lv rest ws tys :=
  fun H locs ls hK hP hD hS hl => lv_sipush X.1 X.2.1 hdg hv (kk H locs ls hK hP hD hS hl)
theorem i_aload_n (X : CxC z A cc nL own) {q : Fin 4} {i : Nat} {x : Nat} (hdg : decode cc pc = .ok (.aload_n q, 1)) (hi : (q : Nat) = i) (j : Nat) (hj : lv[j]? = some (i, .ref x)) (kk : VC z A cl sl nL (pc + 1) lv (.ref x :: rest) ws tys) : VC z A cl sl nL pc lv rest ws tys :=
  fun H locs ls hK hP hD hS hl => lv_aload_n X.1 X.2.1 hdg hi (lv_at hl j hj) (kk H locs ls hK hP hD hS hl)
theorem i_iload_n (X : CxC z A cc nL own) {q : Fin 4} {i : Nat} {x : Int32} (hdg : decode cc pc = .ok (.iload_n q, 1)) (hi : (q : Nat) = i) (j : Nat) (hj : lv[j]? = some (i, .int x)) (kk : VC z A cl sl nL (pc + 1) lv (.int x :: rest) ws tys) : VC z A cl sl nL pc lv rest ws tys :=
  fun H locs ls hK hP hD hS hl => lv_iload_n X.1 X.2.1 hdg hi (lv_at hl j hj) (kk H locs ls hK hP hD hS hl)
theorem i_istore_n (X : CxC z A cc nL own) {q : Fin 4} {i : Nat} {x : Int32} (lv' : List (Nat × Value)) (hdg : decode cc pc = .ok (.istore_n q, 1)) (hi : (q : Nat) = i) (hn : i < nL) (hv : (i, Value.int x) :: lv.filter (fun q => !(q.1 == i) && !(q.1 + 1 == i && q.2.category == 2)) = lv') (kk : VC z A cl sl nL (pc + 1) lv' rest ws tys) : VC z A cl sl nL pc lv (.int x :: rest) ws tys :=
  fun H locs ls hK hP hD hS hl => lv_istore_n X.1 X.2.1 hdg hi hl hn hv (fun ls hl => kk H locs ls hK hP hD hS hl)
theorem i_istore (X : CxC z A cc nL own) {i : Nat} {x : Int32} (lv' : List (Nat × Value)) (hdg : decode cc pc = .ok (.istore i, 2)) (hn : i < nL) (hv : (i, Value.int x) :: lv.filter (fun q => !(q.1 == i) && !(q.1 + 1 == i && q.2.category == 2)) = lv') (kk : VC z A cl sl nL (pc + 2) lv' rest ws tys) : VC z A cl sl nL pc lv (.int x :: rest) ws tys :=
  fun H locs ls hK hP hD hS hl => lv_istore X.1 X.2.1 hdg hl hn hv (fun ls hl => kk H locs ls hK hP hD hS hl)
theorem i_astore_n (X : CxC z A cc nL own) {q : Fin 4} {i : Nat} {x : Nat} (lv' : List (Nat × Value)) (hdg : decode cc pc = .ok (.astore_n q, 1)) (hi : (q : Nat) = i) (hn : i < nL) (hv : (i, Value.ref x) :: lv.filter (fun q => !(q.1 == i) && !(q.1 + 1 == i && q.2.category == 2)) = lv') (kk : VC z A cl sl nL (pc + 1) lv' rest ws tys) : VC z A cl sl nL pc lv (.ref x :: rest) ws tys :=
  fun H locs ls hK hP hD hS hl => lv_astore_n X.1 X.2.1 hdg hi hl hn hv (fun ls hl => kk H locs ls hK hP hD hS hl)
theorem i_iinc (X : CxC z A cc nL own) {i : Nat} {n : Int} {x : Int32} (v : Int32) (lv' : List (Nat × Value)) (hdg : decode cc pc = .ok (.iinc i n, 3)) (j : Nat) (hj : lv[j]? = some (i, .int x)) (hv9 : x + Int32.ofInt n = v) (hn : i < nL) (hv : (i, Value.int v) :: lv.filter (fun q => !(q.1 == i) && !(q.1 + 1 == i && q.2.category == 2)) = lv') (kk : VC z A cl sl nL (pc + 3) lv' rest ws tys) : VC z A cl sl nL pc lv rest ws tys :=
  fun H locs ls hK hP hD hS hl => lv_iinc (v := v) X.1 X.2.1 hdg hl hj hv9 hn hv (fun ls hl => kk H locs ls hK hP hD hS hl)
theorem i_goto (X : CxC z A cc nL own) {off : Int} (tgt : Nat) (hdg : decode cc pc = .ok (.goto off, 3)) (ht : (pc : Int) + off = (tgt : Int)) (kk : VC z A cl sl nL tgt lv rest ws tys) : VC z A cl sl nL pc lv rest ws tys :=
  fun H locs ls hK hP hD hS hl => lv_goto X.1 X.2.1 hdg ht (kk H locs ls hK hP hD hS hl)
theorem i_ge (X : CxC z A cc nL own) {x y : Int32} {off : Int} (tgt : Nat) (hdg : decode cc pc = .ok (.if_icmp .ge off, 3)) (ht : (pc : Int) + off = (tgt : Int)) (kt : y ≤ x → VC z A cl sl nL tgt lv rest ws tys) (kf : ¬ y ≤ x → VC z A cl sl nL (pc + 3) lv rest ws tys) : VC z A cl sl nL pc lv (.int y :: .int x :: rest) ws tys :=
  fun H locs ls hK hP hD hS hl => lv_icmp_ge X.1 X.2.1 hdg ht (fun g => kt g H locs ls hK hP hD hS hl) (fun g => kf g H locs ls hK hP hD hS hl)
theorem i_dup (X : CxC z A cc nL own) {va : Value} (hdg : decode cc pc = .ok (.dup, 1)) (hva : va.category = 1) (kk : VC z A cl sl nL (pc + 1) lv (va :: va :: rest) ws tys) : VC z A cl sl nL pc lv (va :: rest) ws tys :=
  fun H locs ls hK hP hD hS hl => lv_dup X.1 X.2.1 hdg hva (kk H locs ls hK hP hD hS hl)
theorem i_sub (ks : List Nat) {lv' : List (Nat × Value)} (hv : lv_pick lv ks = lv') (kk : VC z A cl sl nL pc lv' rest ws tys) : VC z A cl sl nL pc lv rest ws tys :=
  fun H locs ls hK hP hD hS hl => kk H locs ls hK hP hD hS (lv_sub hl ks hv)
theorem i_objInit (X : CxC z A cc nL own) {idx : Nat} (hlink : Cond.methodLink own idx Lib.objectInit ∈ ALL) (hinst : Cond.instanceMethod Lib.objectInit ∈ ALL) (hf : 1 ≤ (zR z).frames) (hlo : (rest.map fun v => v.category).sum + 12 ≤ (zR z).locals) {a : Addr} (hdg : decode cc pc = .ok (.invokespecial idx, 3)) (kk : VC z A cl sl nL (pc + 3) lv rest ws tys) : VC z A cl sl nL pc lv (.ref a :: rest) ws tys :=
  fun H locs ls hK hP hD hS hl => W.objInit X.1 X.2.1 X.2.2.2.1 (X.2.2.2.2.1 _ hlink) (X.2.2.2.2.1 _ hinst) (X.2.2.2.2.1 _ wd_oi) rfl (hl.1.trans X.2.2.1.symm) rfl hdg hf (by have h0 : (F0 (zm z) pc ls (Value.ref a :: rest)).monitorRoom = 0 := rfl; rw [h0]; omega) (kk H locs ls hK hP hD hS hl)
theorem i_newa (X : CxC z A cc nL own) {atype : ArrayType} {ty : FieldType} (harr : Cond.arrayClass (newarray.typeOf atype) ∈ ALL) (hty : newarray.typeOf atype = ty) {n : Int32} (N' : Nat) (a0 : vp_A) (ha : ∀ cA : ClassId, vp_cell cA a0 = arrV cA N' (fun _ => defaultValue ty)) (hn : ¬ n < 0) (hN : n.toNatClampNeg = N') (hbytes : N' * componentBytes ty ≤ 536870912) (hcells : cl + 1 ≤ (zR z).cells) (hslots : sl + N' ≤ (zR z).slots) (hdg : decode cc pc = .ok (.newarray atype, 2))
    (kk : ∀ (q : Nat) (cA : ClassId), VC z A (cl + 1) (sl + N') nL (pc + 2) lv (.ref q :: rest) (ws ++ [(q, .inl (cA, a0))]) (tys ++ [(cA, ty)])) : VC z A cl sl nL pc lv (.int n :: rest) ws tys :=
  fun H locs ls hK hP hD hS hl => va_newa X.1 X.2.1 (X.2.2.2.2.1 _ harr) hty hK hP hD hS X.2.2.2.2.2.1 ha hn hN hbytes hcells hslots hdg (fun q cA H1 hK hP hD hS => kk q cA H1 locs ls hK hP hD hS hl)
theorem i_putF (X : CxC z A cc nL own) (hin2 : (zh z).name = "<init>") {C ref : String} {T : u_T} {N ci index : Nat} {a : Nat} (q : Nat) {fs : List Value} (hin : ∀ w ∈ u_ws C T N, w ∈ ALL) (ty0 : Nat → FieldType) (hty : ∀ k, k < N → parseFieldDescriptor (T k).2.2.1 = some (ty0 k)) (hnm : ∀ a, a < N → ∀ b, b < N → a ≠ b → (T a).2.1 ≠ (T b).2.1) (he : ws[q]? = some (a, .inr (ci, fs))) (hc9 : vwCl[ci]? = some (C, T, N)) (hCo : C = own) (j : Nat) (hj : j < N) (hlink : Cond.fieldLink own index ref (T j).2.1 (T j).2.2.1 ∈ ALL) (hs9 : (T j).1 = ref) (hs8 : (T j).1 = own) (hfin : (T j).2.2.2 = true) {v : Value} {ty : FieldType} (ht9 : ty0 j = ty)
    (hnar : narrow ty v = v) (hfit : fits ty v = true) (hlen : j < fs.length) {ws' : va_W} (hset : ws.set q (a, .inr (ci, fs.set j v)) = ws') (hdg : decode cc pc = .ok (.putfield index, 3)) (kk : VC z A cl sl nL (pc + 3) lv rest ws' tys) : VC z A cl sl nL pc lv (v :: .ref a :: rest) ws tys := by
  subst hCo
  exact fun H locs ls hK hP hD hS hl => va_putF (ty := ty) X.1 X.2.1 X.2.2.2.2.1 hin ty0 hty hnm X.2.2.2.1 hK hP hD hS q he hc9 j hj (X.2.2.2.2.1 _ hlink) (fun _ h9 => by rw [← hs9]; exact h9) hfin hin2 hs8 (by rw [hty j hj, ht9]) hnar hfit hlen hdg (fun H locs hP hD hS => kk H locs ls hK (by rw [hset] at hP; exact hP) (by rw [hset] at hD; exact hD) hS hl)
theorem i_put (X : CxC z A cc nL own) {C ref : String} {T : u_T} {N ci index : Nat} {a : Nat} (q : Nat) {fs : List Value} (hin : ∀ w ∈ u_ws C T N, w ∈ ALL) (ty0 : Nat → FieldType) (hty : ∀ k, k < N → parseFieldDescriptor (T k).2.2.1 = some (ty0 k)) (hnm : ∀ a, a < N → ∀ b, b < N → a ≠ b → (T a).2.1 ≠ (T b).2.1) (he : ws[q]? = some (a, .inr (ci, fs))) (hc9 : vwCl[ci]? = some (C, T, N)) (j : Nat) (hj : j < N) (hlink : Cond.fieldLink own index ref (T j).2.1 (T j).2.2.1 ∈ ALL) (hs9 : (T j).1 = ref) (hfin : (T j).2.2.2 = false) {v : Value} {ty : FieldType} (ht9 : ty0 j = ty)
    (hnar : narrow ty v = v) (hfit : fits ty v = true) (hlen : j < fs.length) {ws' : va_W} (hset : ws.set q (a, .inr (ci, fs.set j v)) = ws') (hdg : decode cc pc = .ok (.putfield index, 3)) (kk : VC z A cl sl nL (pc + 3) lv rest ws' tys) : VC z A cl sl nL pc lv (v :: .ref a :: rest) ws tys :=
  fun H locs ls hK hP hD hS hl => va_put (ty := ty) X.1 X.2.1 X.2.2.2.2.1 hin ty0 hty hnm X.2.2.2.1 hK hP hD hS q he hc9 j hj (X.2.2.2.2.1 _ hlink) (fun _ h9 => by rw [← hs9]; exact h9) hfin (by rw [hty j hj, ht9]) hnar hfit hlen hdg (fun H locs hP hD hS => kk H locs ls hK (by rw [hset] at hP; exact hP) (by rw [hset] at hD; exact hD) hS hl)
theorem i_get (X : CxC z A cc nL own) {C ref : String} {T : u_T} {N ci index : Nat} {a : Nat} (q : Nat) {fs : List Value} (hin : ∀ w ∈ u_ws C T N, w ∈ ALL) (he : ws[q]? = some (a, .inr (ci, fs))) (hc9 : vwCl[ci]? = some (C, T, N)) (j : Nat) (hj : j < N) (hlink : Cond.fieldLink own index ref (T j).2.1 (T j).2.2.1 ∈ ALL) (hs9 : (T j).1 = ref) {v : Value} (hv : fs[j]? = some v) (hdg : decode cc pc = .ok (.getfield index, 3)) (kk : VC z A cl sl nL (pc + 3) lv (v :: rest) ws tys) : VC z A cl sl nL pc lv (.ref a :: rest) ws tys :=
  fun H locs ls hK hP hD hS hl => va_get X.1 X.2.1 X.2.2.2.2.1 hin X.2.2.2.1 hK hP q he hc9 j hj (X.2.2.2.2.1 _ hlink) (fun _ h9 => by rw [← hs9]; exact h9) hv hdg (kk H locs ls hK hP hD hS hl)
theorem i_new (X : CxC z A cc nL own) {C : String} {T : u_T} {N ci index : Nat} (hin : ∀ w ∈ u_ws C T N, w ∈ ALL) (ty0 : Nat → FieldType) (hty : ∀ k, k < N → parseFieldDescriptor (T k).2.2.1 = some (ty0 k)) (hcl : Cond.classLink own index C ∈ ALL) (hinst : Cond.instantiable C N ∈ ALL) (hini : Cond.initialized C ∈ ALL) (hc9 : vwCl[ci]? = some (C, T, N)) (fs : List Value) (hfs : ∀ j, j < N → defaultValue (ty0 j) = vp_V fs j) (hcells : cl + 1 ≤ (zR z).cells) (hslots : sl + N ≤ (zR z).slots) (hdg : decode cc pc = .ok (.new index, 3))
    (kk : ∀ q : Nat, VC z A (cl + 1) (sl + N) nL (pc + 3) lv (.ref q :: rest) (ws ++ [(q, .inr (ci, fs))]) tys) : VC z A cl sl nL pc lv rest ws tys :=
  fun H locs ls hK hP hD hS hl => va_new X.1 X.2.1 X.2.2.2.2.1 hin ty0 hty X.2.2.2.1 (X.2.2.2.2.1 _ hcl) (X.2.2.2.2.1 _ hinst) (X.2.2.2.2.1 _ hini) hK hP hD hS X.2.2.2.2.2.1 hc9 hfs hcells hslots hdg (fun q H1 hP hD hS => kk q H1 locs ls hK hP hD hS hl)
theorem i_iast (X : CxC z A cc nL own) {a : Nat} (q t0 : Nat) {cA : ClassId} {n : Nat} {f : Nat → Int32} (he : ws[q]? = some (a, .inl (cA, n, .inl f))) (ht : tys[t0]? = some (cA, .int)) (i : Nat) (hi : i < n) (hn : n < 2 ^ 31) {i9 x : Int32} (hi9 : i9 = nI i) {ws' : va_W} (hset : ws.set q (a, .inl (cA, n, .inl (upd f i x))) = ws') (hdg : decode cc pc = .ok (.iastore, 1)) (kk : VC z A cl sl nL (pc + 1) lv rest ws' tys) : VC z A cl sl nL pc lv (.int x :: .int i9 :: .ref a :: rest) ws tys := by
  subst hi9
  have e9 : (nI i).toNatClampNeg = i := nI_clamp (by omega)
  exact fun H locs ls hK hP hD hS hl => va_iast X.1 X.2.1 hK hP hD hS q t0 he ht (vp_in_nI hi hn) hdg (fun H locs hP hD hS => kk H locs ls hK (by rw [e9, hset] at hP; exact hP) (by rw [e9, hset] at hD; exact hD) hS hl)
theorem i_alen (X : CxC z A cc nL own) {a : Nat} (q t0 : Nat) {cA : ClassId} {n : Nat} {f : Nat → Int32} (he : ws[q]? = some (a, .inl (cA, n, .inl f))) (ht : tys[t0]? = some (cA, .int)) (hdg : decode cc pc = .ok (.arraylength, 1)) (kk : VC z A cl sl nL (pc + 1) lv (.int (nI n) :: rest) ws tys) : VC z A cl sl nL pc lv (.ref a :: rest) ws tys :=
  fun H locs ls hK hP hD hS hl => va_alen X.1 X.2.1 hK hP q t0 he ht rfl hdg (kk H locs ls hK hP hD hS hl)
/-- a row of numbers is known on its places alone -/
theorem i_fun {a : Nat} (q : Nat) {cA : ClassId} {n : Nat} {f : Nat → Int32} (g : Nat → Int32) (he : ws[q]? = some (a, .inl (cA, n, .inl f))) (hfg : ∀ j, j < n → f j = g j) {ws' : va_W} (hset : ws.set q (a, .inl (cA, n, .inl g)) = ws') (kk : VC z A cl sl nL pc lv rest ws' tys) : VC z A cl sl nL pc lv rest ws tys := by
  intro H locs ls hK hP hD hS hl
  have hcell : vp_cell cA (n, .inl f) = vp_cell cA (n, .inl g) := by
    rw [vp_cell_i, vp_cell_i]
    unfold arrV
    congr 1
    apply Array.ext
    · simp
    · intro j h1 h2
      have hj : j < n := by simpa using h1
      simp [hfg j hj]
  have hat : va_at (zD z) vwCl (a, .inl (cA, n, .inl g)) H := by
    have h9 := hP q _ he
    unfold va_at at h9 ⊢
    simp only at h9 ⊢
    rw [← hcell]; exact h9
  refine kk H locs ls hK ?_ ?_ hS hl
  · rw [← hset]; exact hP.set hD he hat (fun _ _ => rfl)
  · rw [← hset]; exact hD.set he
/-- a call whose callee has a part of the cells -/
theorem i_call {stk : List Value} {y : MethodName} {code : ByteArray} {maxL fr lo mc ms : Nat} {avs : List Value} {ws0 : va_W} {tys0 : List (ClassId × FieldType)} {W1 : Sx → va_W} {T1 : Sx → List (ClassId × FieldType)} (X : CxC z A cc nL own) (hM : CtN (zl z) y code maxL fr lo mc ms (zD z) avs ws0 tys0 W1 T1) (isC isR isT : List Nat) (wr : va_W) (hC : isC.map (fun i => ws[i]?) = ws0.map some) (hCn : va_nd isC = true) (hRm : isR.map (fun i => ws[i]?) = wr.map some) (hRn : va_nd isR = true) (hdis : ∀ i ∈ isR, i ∉ isC) (hT : isT.filterMap (fun i => tys[i]?) = tys0)
    (hrun : ∀ (H : Heap) (locs : List Loc) (ls : Array Slot), lv_has ls nL lv → PreS (zs z) H (PmN (zD z) avs ws0 tys0 H.size) avs → va_Run (zp z) (zl z) (ze z) (zR z) (zs z) (zm z) (za z) (zb z) (zh z) (zc z) H locs cl sl mc ms (F0 (zm z) pc ls stk) rest (QmN (zD z) ws0 W1 T1 H.size avs.toArray) (va_A ws0 H.size))
    (kk : ∀ u : Sx, VC z A (cl + mc) (sl + ms) nL (pc + 3) lv rest (wr ++ W1 u) (tys ++ T1 u)) : VC z A cl sl nL pc lv stk ws tys := by
  intro H locs ls hK hP hD hS hl
  have hPc : va_P (zD z) vwCl ws0 H := by
    have h9 := hP.sub (ws' := isC.filterMap (fun i => ws[i]?)) isC rfl
    have e9 : isC.filterMap (fun i => ws[i]?) = ws0 := by
      have h1 : (isC.map (fun i => ws[i]?)).filterMap id = (ws0.map some).filterMap id := by rw [hC]
      simpa [List.filterMap_map] using h1
    rw [e9] at h9; exact h9
  have hDc := hD.sub (ws' := ws0) isC hCn hC
  have hKc := hK.sub (tys' := tys0) isT hT
  have hFc := va_free (wc := ws0) hD hS X.2.2.2.2.2.1 isC hC
  refine va_callv (hrun H locs ls hl ⟨PmN_blind, fun U hU hW => ⟨rfl, by rw [hU], by rw [hU]; exact hPc, va_K.moved hW.alike hKc, hDc.weaken (fun _ _ _ _ => trivial), fun w hw => nst_warm (Nst_k w hw) hW (X.2.2.2.2.2.2.1 w hw)⟩⟩) hS (fun q _ h => hFc q h) hFc (fun u t H1 locs1 ht hvm _ hB hz1 hk1 hS1 => ?_)
  obtain ⟨hP1, hK1, hD1⟩ := hB
  rw [ht] at hP1
  obtain ⟨hP2, hD2⟩ := va_join (wr := wr) (w1 := W1 u) hP hD isC isR hC hRm hRn hdis hk1 hFc hP1 hD1
  exact kk u H1 locs1 ls (hK.app (va_K.moved hvm.symm hK1)) hP2 hD2 hS1 hl
theorem i_callI {index maxL fr lo mc ms n : Nat} {y : MethodName} {code : ByteArray} {b : Nat} {As : List Value} {ws0 : va_W} {tys0 : List (ClassId × FieldType)} {W1 : Sx → va_W} {T1 : Sx → List (ClassId × FieldType)} (X : CxC z A cc nL own) (hM : CtN (zl z) y code maxL fr lo mc ms (zD z) (.ref b :: As) ws0 tys0 W1 T1) (isC isR isT : List Nat) (wr : va_W) (hC : isC.map (fun i => ws[i]?) = ws0.map some) (hCn : va_nd isC = true) (hRm : isR.map (fun i => ws[i]?) = wr.map some) (hRn : va_nd isR = true) (hdis : ∀ i ∈ isR, i ∉ isC) (hT : isT.filterMap (fun i => tys[i]?) = tys0)
    (hl1 : Cond.methodLink own index y ∈ ALL) (hl2 : Cond.instanceMethod y ∈ ALL) (hl3 : Cond.initialized y.cls ∈ ALL) (hl4 : Cond.code y code maxL none ∈ ALL) (hd : y.cls ≠ "java/lang/invoke/MethodHandle" ∧ y.cls ≠ "java/lang/invoke/VarHandle" ∧ (parseMethodDescriptor y.desc).map (fun d => d.parameters.length) = some n) (hnm : y.name = "<init>") (hR : fr + 1 ≤ (zR z).frames ∧ 8 + (maxL + 11) + lo ≤ (zR z).locals) (hn : As.length = n) {stk : List Value} (hst : stk = As.reverse ++ .ref b :: rest) (hw : (rest.map fun v => v.category).sum ≤ 8) (hf : cl + mc ≤ (zR z).cells ∧ sl + ms ≤ (zR z).slots)
    (hdg : decode cc pc = .ok (.invokespecial index, 3)) (kk : ∀ u : Sx, VC z A (cl + mc) (sl + ms) nL (pc + 3) lv rest (wr ++ W1 u) (tys ++ T1 u)) : VC z A cl sl nL pc lv stk ws tys :=
  i_call X hM isC isR isT wr hC hCn hRm hRn hdis hT (fun H locs ls hl hp => va_runI (As := As) (rest := rest) ⟨X.1, X.2.1, X.2.2.1, X.2.2.2.1, X.2.2.2.2.1⟩ (hM H.size) (cwI n X.2.2.2.2.1 (ALL_good (wy_in hl4)) rfl rfl rfl (X.2.2.2.2.1 _ hl3) (X.2.2.2.2.1 _ hl1) (X.2.2.2.2.1 _ hl2) hnm hd hR) hp rfl hn hl.1 hst (lv_room hw) hdg hf) kk
theorem i_callN {index maxL fr lo mc ms n : Nat} {y : MethodName} {host : String} {code : ByteArray} {b : Nat} {As : List Value} {ws0 : va_W} {tys0 : List (ClassId × FieldType)} {W1 : Sx → va_W} {T1 : Sx → List (ClassId × FieldType)} (X : CxC z A cc nL own) (hM : CtN (zl z) y code maxL fr lo mc ms (zD z) (.ref b :: As) ws0 tys0 W1 T1) (isC isR isT : List Nat) (wr : va_W) (hC : isC.map (fun i => ws[i]?) = ws0.map some) (hCn : va_nd isC = true) (hRm : isR.map (fun i => ws[i]?) = wr.map some) (hRn : va_nd isR = true) (hdis : ∀ i ∈ isR, i ∉ isC) (hT : isT.filterMap (fun i => tys[i]?) = tys0)
    (hl1 : Cond.methodLinkNest own index y host ∈ Nst) (hl2 : Cond.instanceMethod y ∈ ALL) (hl3 : Cond.initialized y.cls ∈ ALL) (hl4 : Cond.code y code maxL none ∈ ALL) (hd : y.cls ≠ "java/lang/invoke/MethodHandle" ∧ y.cls ≠ "java/lang/invoke/VarHandle" ∧ (parseMethodDescriptor y.desc).map (fun d => d.parameters.length) = some n) (hnm : y.name = "<init>") (hR : fr + 1 ≤ (zR z).frames ∧ 8 + (maxL + 11) + lo ≤ (zR z).locals) (hn : As.length = n) {stk : List Value} (hst : stk = As.reverse ++ .ref b :: rest) (hw : (rest.map fun v => v.category).sum ≤ 8) (hf : cl + mc ≤ (zR z).cells ∧ sl + ms ≤ (zR z).slots)
    (hdg : decode cc pc = .ok (.invokespecial index, 3)) (kk : ∀ u : Sx, VC z A (cl + mc) (sl + ms) nL (pc + 3) lv rest (wr ++ W1 u) (tys ++ T1 u)) : VC z A cl sl nL pc lv stk ws tys :=
  i_call X hM isC isR isT wr hC hCn hRm hRn hdis hT (fun H locs ls hl hp => va_runIN (As := As) (rest := rest) ⟨X.1, X.2.1, X.2.2.1, X.2.2.2.1, X.2.2.2.2.1⟩ (hM H.size) ⟨va_cnB (host := host) n X.2.2.2.2.1 (ALL_good (wy_in hl4)) rfl rfl rfl (X.2.2.2.2.2.2.1 _ hl1) (X.2.2.2.2.1 _ hl3) hd hR, hnm, X.2.2.2.2.1 _ hl2⟩ hp rfl hn hl.1 hst (lv_room hw) hdg hf) kk
theorem i_callS {index maxL fr lo mc ms n : Nat} {y : MethodName} {code : ByteArray} {As : List Value} {ws0 : va_W} {tys0 : List (ClassId × FieldType)} {W1 : Sx → va_W} {T1 : Sx → List (ClassId × FieldType)} (X : CxC z A cc nL own) (hM : CtN (zl z) y code maxL fr lo mc ms (zD z) As ws0 tys0 W1 T1) (isC isR isT : List Nat) (wr : va_W) (hC : isC.map (fun i => ws[i]?) = ws0.map some) (hCn : va_nd isC = true) (hRm : isR.map (fun i => ws[i]?) = wr.map some) (hRn : va_nd isR = true) (hdis : ∀ i ∈ isR, i ∉ isC) (hT : isT.filterMap (fun i => tys[i]?) = tys0)
    (hl1 : Cond.methodLink own index y ∈ ALL) (hl2 : Cond.static y ∈ ALL) (hl3 : Cond.initialized y.cls ∈ ALL) (hl4 : Cond.code y code maxL none ∈ ALL) (hd : y.cls ≠ "java/lang/invoke/MethodHandle" ∧ y.cls ≠ "java/lang/invoke/VarHandle" ∧ (parseMethodDescriptor y.desc).map (fun d => d.parameters.length) = some n) (hR : fr + 1 ≤ (zR z).frames ∧ 8 + (maxL + 11) + lo ≤ (zR z).locals) (hn : As.length = n) {stk : List Value} (hst : stk = As.reverse ++ rest) (hw : (rest.map fun v => v.category).sum ≤ 8) (hf : cl + mc ≤ (zR z).cells ∧ sl + ms ≤ (zR z).slots)
    (hdg : decode cc pc = .ok (.invokestatic index, 3)) (kk : ∀ u : Sx, VC z A (cl + mc) (sl + ms) nL (pc + 3) lv rest (wr ++ W1 u) (tys ++ T1 u)) : VC z A cl sl nL pc lv stk ws tys :=
  i_call X hM isC isR isT wr hC hCn hRm hRn hdis hT (fun H locs ls hl hp => va_runS (As := As) (rest := rest) ⟨X.1, X.2.1, X.2.2.1, X.2.2.2.1, X.2.2.2.2.1⟩ (hM H.size) (va_cwS n X.2.2.2.2.1 (ALL_good (fun w hw => by
      simp only [va_wsS, List.mem_append, List.mem_cons, List.not_mem_nil, or_false] at hw
      rcases hw with (rfl | rfl | rfl) | rfl | hw
      · exact hl1
      · exact hl2
      · exact hl3
      · exact hl4
      · exact hw)) rfl rfl rfl hd hR) hp rfl hn hl.1 hst (lv_room hw) hdg hf) kk
/-- cells and kinds in another order, or fewer -/
theorem i_pick (is js : List Nat) (hn : va_nd is = true) {ws' : va_W} {tys' : List (ClassId × FieldType)} (hw : is.map (fun i => ws[i]?) = ws'.map some) (ht : js.filterMap (fun i => tys[i]?) = tys') (kk : VC z A cl sl nL pc lv rest ws' tys') : VC z A cl sl nL pc lv rest ws tys := by
  intro H locs ls hK hP hD hS hl
  have hPc : va_P (zD z) vwCl ws' H := by
    have h9 := hP.sub (ws' := is.filterMap (fun i => ws[i]?)) is rfl
    have e9 : is.filterMap (fun i => ws[i]?) = ws' := by
      have h1 : (is.map (fun i => ws[i]?)).filterMap id = (ws'.map some).filterMap id := by rw [hw]
      simpa [List.filterMap_map] using h1
    rw [e9] at h9; exact h9
  exact kk H locs ls (hK.sub (tys' := tys') js ht) hPc (hD.sub (ws' := ws') is hn hw) hS hl
end IN
def fl (x : Int32) (f : Nat → Int32) (i : Nat) : Nat → Int32 := fun j => if j < i then x else f j
theorem fl_0 (x : Int32) (f : Nat → Int32) : fl x f 0 = f := by funext j; simp [fl]
theorem fl_s (x : Int32) (f : Nat → Int32) (i : Nat) : upd (fl x f i) i x = fl x f (i + 1) := by
  funext j
  unfold upd fl
  by_cases h : j = i
  · subst h; simp
  · by_cases h2 : j < i
    · have : j < i + 1 := by omega
      simp [h, h2, this]
    · have : ¬ j < i + 1 := by omega
      simp [h, h2, this]
/-- Arrays.fill -/
theorem c_fill (l : Launch) (D : va_G) (q : Nat) (cA : ClassId) (n : Nat) (hn : n < 2 ^ 31) (f : Nat → Int32) (x : Int32) : CtN l yJ7_fill_53178 cJ7_fill_53178 4 0 0 0 0 D [.ref q, .int x] [(q, .inl (cA, n, .inl f))] [(cA, .int)] (fun _ => [(q, .inl (cA, n, .inl (fun _ => x)))]) (fun _ => [(cA, .int)]) := by
  refine ct_N (by decide +kernel) (Nat.le_of_ble_eq_true rfl) (fun z A e1 e2 X hnm Rt => ?_)
  have loop : ∀ (k i : Nat), i + k = n → VC z A 0 0 4 5 [(2, .int (nI i)), (3, .int (nI n)), (0, .ref q), (1, .int x)] [] [(q, .inl (cA, n, .inl (fl x f i)))] [(cA, .int)] := by
    intro k
    induction k with
    | zero =>
      intro i hi
      refine i_iload_n X dJ7_fill_53178_5 rfl 0 rfl ?_
      refine i_iload_n X dJ7_fill_53178_6 rfl 1 rfl ?_
      refine i_ge X 20 dJ7_fill_53178_7 (by decide) (fun g => ?_) (fun g => absurd (nI_le (by omega) (by omega)) g)
      refine i_fun 0 (fun _ => x) rfl (fun j hj => by unfold fl; rw [if_pos (by omega)]) rfl ?_
      exact Rt 20 _ (fun _ => 0, fun _ => 0) dJ7_fill_53178_20
    | succ k ih =>
      intro i hi
      refine i_iload_n X dJ7_fill_53178_5 rfl 0 rfl ?_
      refine i_iload_n X dJ7_fill_53178_6 rfl 1 rfl ?_
      refine i_ge X 20 dJ7_fill_53178_7 (by decide) (fun g => absurd g (nI_ge (by omega) (by omega))) (fun g => ?_)
      refine i_aload_n X dJ7_fill_53178_10 rfl 2 rfl ?_
      refine i_iload_n X dJ7_fill_53178_11 rfl 0 rfl ?_
      refine i_iload_n X dJ7_fill_53178_12 rfl 3 rfl ?_
      refine i_iast X 0 0 rfl rfl i (by omega) hn rfl (ws' := [(q, .inl (cA, n, .inl (fl x f (i + 1))))]) (by rw [← fl_s]; rfl) dJ7_fill_53178_13 ?_
      refine i_iinc X (nI (i + 1)) [(2, .int (nI (i + 1))), (3, .int (nI n)), (0, .ref q), (1, .int x)] dJ7_fill_53178_14 0 rfl (nI_1 i) (by decide) rfl ?_
      refine i_goto X 5 dJ7_fill_53178_17 (by decide) ?_
      exact ih (i + 1) (by omega)
  refine i_iconst X 0 dJ7_fill_53178_0 (by decide) ?_
  refine i_istore_n X [(2, .int 0), (0, .ref q), (1, .int x)] dJ7_fill_53178_1 rfl (by decide) rfl ?_
  refine i_aload_n X dJ7_fill_53178_2 rfl 1 rfl ?_
  refine i_alen X 0 0 rfl rfl dJ7_fill_53178_3 ?_
  refine i_istore_n X [(3, .int (nI n)), (2, .int 0), (0, .ref q), (1, .int x)] dJ7_fill_53178_4 rfl (by decide) rfl ?_
  refine i_sub [1, 0, 2, 3] rfl ?_
  have h9 := loop n 0 (by omega)
  rw [fl_0] at h9
  exact h9
