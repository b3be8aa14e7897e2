/-! ===== 'throw new E("text")' where E's constructor hands its text on by any entry of its own pool (the library's row knows the entry 7 alone; NoSuchElementException has 13) ===== -/
def vy_at (own : String) (ic : Nat) (X sup : String) (ix : Nat) (bts : ByteArray) (names : List String) : List Cond :=
  Bundle.throwableAtoms ++ (Bundle.throwableSAtoms ++ (Bundle.passSAtoms X sup ix bts ++ (Bundle.chainSAtoms sup names ++
  ([.methodLink own ic (Bundle.initS X), .instantiable X 6, .selects X Bundle.tFill0 Bundle.tFill0, .selects X Bundle.tFill Bundle.tFill,
    .lays X Bundle.tN "cause" "Ljava/lang/Throwable;", .lays X Bundle.tN "stackTrace" Bundle.steD, .lays X Bundle.tN "suppressedExceptions" Bundle.listD, .lays X Bundle.tN "detailMessage" "Ljava/lang/String;",
    .isRef (.static Bundle.tN "UNASSIGNED_STACK" Bundle.steD), .isRef (.static Bundle.tN "SUPPRESSED_SENTINEL" Bundle.listD),
    .fieldLink Bundle.tN 198 Bundle.tN "backtrace" "Ljava/lang/Object;", .lays Bundle.tN Bundle.tN "backtrace" "Ljava/lang/Object;", .lays X Bundle.tN "backtrace" "Ljava/lang/Object;"] : List Cond))))
def vy_B (bts : ByteArray) (ix : Nat) : Prop := decode bts 0 = .ok (.aload_n 0, 1) ∧ decode bts 1 = .ok (.aload_n 1, 1) ∧ decode bts 2 = .ok (.invokespecial ix, 3) ∧ decode bts 5 = .ok (.return_, 1)
set_option maxHeartbeats 4000000 in
theorem vy_ctor {p : Program} {l : Launch} {e : Env} {R : Room} {s : State} {m : MethodId} {args : Array Value} {below : List Frame} {meth : Method} {c : Code} {W9 : State} {cells slots : Nat}
    (X : Stand p l e R s m args below meth c W9 [] cells slots) (hexec : p.tables.exec = Jvm.exec) (htr : e.platform.stackTraces = false) {own cls sup : String} {names : List String} {ic ix : Nat} {bts : ByteArray} (hB : vy_B bts ix)
    (hown : s.vm.findClass own = some m.cls) (hcls : Bundle.fit cls = true) (hsup : Bundle.fit sup = true) (hnames : ∀ n ∈ names, Bundle.fit n = true) (h : ∀ a ∈ vy_at own ic cls sup ix bts names, a.before args s = true)
    {a : Addr} {cX : ClassId} {kX : Class} (hfX : s.vm.findClass cls = some cX) (hkX : s.vm.classes[cX]? = some kX) (hcell : W9.heap[a]? = some (freshCell cX kX)) (hnew : s.heap.size ≤ a) {msg : Value} (hmsg : msg.isRef = true)
    {g : JFrame} (hg : g.method = m) (hsize : g.locals.size = c.maxLocals) (hlocked : g.locked = none) (hentered : g.entered = []) {rest : List Value} (hstack : g.stack = msg :: .ref a :: .ref a :: rest)
    (hd6 : decode c.code g.pc = .ok (.invokespecial ic, 3)) (hd9 : decode c.code (g.pc + 3) = .ok (.athrow, 1)) (hout : ∀ x ∈ c.exceptionTable.toList, covers x (g.pc + 3) = false)
    (hRf : names.length + 4 < R.frames) (hRl : 2 * g.monitorRoom + ((Value.ref a :: rest).map fun v => v.category).sum + (13 * (names.length + 2) + 42) ≤ R.locals) (hlocks : meth.locks = false) :
    ∃ U : State, Steps p.tables e below (W9.setTop g) U ∧ U.status = .running ∧ Ended U below (.threw a) ∧ s.WarmedH U.vm ∧ s.sameButNew ({ U with vm := s.vm } : State) [] cells slots ∧ ∃ ce : Cell, U.heap[a]? = some ce ∧ ce.vm = .none ∧ s.vm.findClass cls = some ce.cls := by
  have hpl : e.platform.magicAccessors = ({} : Platform).magicAccessors := by rw [X.admits.platform]
  have hA : ∀ x, x ∈ vy_at own ic cls sup ix bts names → x.holds args s none s [] = true := fun x hx => h x hx
  have hpass : ∀ x ∈ Bundle.passSAtoms cls sup ix bts, x.before args s = true := fun x hx => h x (by simp only [vy_at, List.mem_append]; exact Or.inr (Or.inr (Or.inl hx)))
  -- the tables of Throwable, of its constructor with a text, and the constructors on the way
  obtain ⟨T, Z0, L, -, Y⟩ := ThrowableC.of_atoms (args := args) (by rw [X.admits.platform]) (by rw [X.admits.platform]) hpl (fun x hx => h x (by simp only [vy_at, List.mem_append]; exact Or.inl hx))
  obtain ⟨Z, M, LZ, LM, hZ⟩ := Init0T.ofS_atoms (args := args) hpl L Y (fun x hx => h x (by simp only [vy_at, List.mem_append]; exact Or.inr (Or.inl hx)))
  obtain ⟨P1, L1, hm1, hs1⟩ := PassC.ofS_atoms (args := args) (s := s) hpl (X := cls) (Y := sup) (Bundle.fit_spec hcls).1 (Bundle.fit_spec hsup).2 hB.1 hB.2.1 hB.2.2.1 hB.2.2.2 hpass
  obtain ⟨P2, Ps, hlen, L2, hLs, hm2, hk2, hk⟩ := Bundle.chainS (args := args) hpl hZ names sup hsup hnames (fun x hx => h x (by simp only [vy_at, List.mem_append]; exact Or.inr (Or.inr (Or.inr (Or.inl hx)))))
  have hk1 : P1.sup = P2.m := Option.some.inj (hs1.symm.trans hm2)
  have hPs : ∀ P ∈ P1 :: P2 :: Ps, P.LinksS e.platform s := by
    intro P hP
    rcases List.mem_cons.mp hP with rfl | hP
    · exact L1
    · rcases List.mem_cons.mp hP with rfl | hP
      · exact L2
      · exact hLs P hP
  have hfound : s.vm.findClass cls = some P1.m.cls := findClass_of_methodNamed hm1
  cases Option.some.inj (hfX.symm.trans hfound)
  obtain ⟨c1, k1, hc1, hck, hord, -, -, hn6⟩ := Cond.instantiable_spec (hA (.instantiable cls 6) (by simp [vy_at]))
  cases Option.some.inj (hc1.symm.trans hfound)
  cases Option.some.inj (hkX.symm.trans hck)
  -- which methods the object's class selects
  have hsel : ∀ {y : MethodName} {t : MethodId}, s.methodNamed? y = some t → (y.cls ≠ "java/lang/invoke/MethodHandle" ∧ y.cls ≠ "java/lang/invoke/VarHandle") → (Cond.selects cls y y).holds args s none s [] = true → selectMethod e.platform s.vm P1.m.cls t = .method t := by
    intro y t hy hnot hs
    obtain ⟨c2, r2, m2, q1, q2, q3, q4, -⟩ := Cond.selects_spec hs
    cases Option.some.inj (q1.symm.trans hfound)
    cases Option.some.inj (q2.symm.trans (State.methodFound?_of_named hy hnot))
    cases Option.some.inj (q3.symm.trans hy)
    rw [Launch.admits_selectMethod X.admits]; exact q4
  have hsel0 := hsel Y.fill0 (by decide) (hA (.selects cls Bundle.tFill0 Bundle.tFill0) (by simp [vy_at]))
  have hselF := hsel Y.fill (by decide) (hA (.selects cls Bundle.tFill Bundle.tFill) (by simp [vy_at]))
  -- the two statics, in the heap as it is now
  obtain ⟨S0, hS0, hiss⟩ := Y.statics
  obtain ⟨u0, hu0⟩ := Cond.staticRefV Y.unassigned L.unassignedStatic L.statics hS0 hiss (hA (.isRef (.static Bundle.tN "UNASSIGNED_STACK" Bundle.steD)) (by simp [vy_at]))
  obtain ⟨sen, hsen⟩ := Cond.staticRefV Y.sentinel L.sentinelStatic L.statics hS0 hiss (hA (.isRef (.static Bundle.tN "SUPPRESSED_SENTINEL" Bundle.listD)) (by simp [vy_at]))
  obtain ⟨S1, hS1, heS, -, hkeep⟩ := X.same.2.2.2.2.2 T.aS S0 hS0
  have hS1' : W9.heap[T.aS]? = some S1 := hS1
  have hknS : S1.vm ≠ .unknown := by
    intro hu
    rw [heS] at hu
    rw [show S0.vm = .unknown from hu] at hiss
    cases hiss
  have hneS : T.aS ≠ a := Nat.ne_of_lt (Nat.lt_of_lt_of_le (Array.getElem?_eq_some_iff.mp hS0).1 hnew)
  -- where the object's fields lie
  obtain ⟨ciB, iB, fB, hkB, hgB, haB, hsB, -, hnB, htB, hffB⟩ := Cond.ownField (t := .object "java/lang/Object") Y.found L.cls (by decide +kernel) (hA (.fieldLink Bundle.tN 198 Bundle.tN "backtrace" "Ljava/lang/Object;") (by simp [vy_at])) (hA (.lays Bundle.tN Bundle.tN "backtrace" "Ljava/lang/Object;") (by simp [vy_at])) e.platform hpl
  obtain ⟨iM, hffM⟩ := Y.msg
  obtain ⟨tyC, dC, hdC, hdnC⟩ := Cond.laysAt hfound hkX Y.cause (hA (.lays cls Bundle.tN "cause" "Ljava/lang/Throwable;") (by simp [vy_at]))
  obtain ⟨tyS, dS, hdS, hdnS⟩ := Cond.laysAt hfound hkX Y.stack (hA (.lays cls Bundle.tN "stackTrace" Bundle.steD) (by simp [vy_at]))
  obtain ⟨tyP, dP, hdP, hdnP⟩ := Cond.laysAt hfound hkX Y.supp (hA (.lays cls Bundle.tN "suppressedExceptions" Bundle.listD) (by simp [vy_at]))
  obtain ⟨tyM, dM, hdM, hdnM⟩ := Cond.laysAt hfound hkX hffM (hA (.lays cls Bundle.tN "detailMessage" "Ljava/lang/String;") (by simp [vy_at]))
  obtain ⟨tyB, dB, hdB, hdnB⟩ := Cond.laysAt hfound hkX hffB (hA (.lays cls Bundle.tN "backtrace" "Ljava/lang/Object;") (by simp [vy_at]))
  have n1 := Cond.laysApart hdB hdC hdnB hdnC (by rw [hnB, Y.causeName]; decide)
  have n2 := Cond.laysApart hdB hdS hdnB hdnS (by rw [hnB, Y.stackName]; decide)
  have n3 := Cond.laysApart hdB hdP hdnB hdnP (by rw [hnB, Y.suppName]; decide)
  have hskip : SkipFacts T e.platform s (fun u => u) u0 ((preparedCellV T.toThrowableT (freshCell P1.m.cls kX) a u0 sen).withEntry W9.cur) := by
    refine ⟨{ ci198 := ciB, i198 := iB, fBack := fB }, ⟨hkB, hgB, haB, hsB⟩, ?_, fun _ _ => rfl⟩
    have h9 := fresh_default (c := P1.m.cls) tyB
    rw [htB] at h9
    simpa [preparedCellV, Cell.setSlot, Cell.withEntry, Array.getElem?_setIfInBounds, n1, n2, n3, n1.symm, n2.symm, n3.symm, defaultValue] using h9
  -- the call, the constructors, the throw
  obtain ⟨tm, _, _, _, vm1, hnC, -, -, -, -, -, -, -, hW1, st1⟩ := Steps.initColdS (tb := p.tables) (e := e) (below := below) (s := s) (U := W9) X.here hexec X.warmed hpl hown (t := Bundle.initS cls) rfl rfl (Bundle.fit_spec hcls).2
    (hA (.methodLink own ic (Bundle.initS cls)) (by simp [vy_at])) (hpass (.instanceMethod (Bundle.initS cls)) (by simp [Bundle.passSAtoms])) (bytes := bts) (maxL := 2) (hpass (.code (Bundle.initS cls) bts 2 none) (by simp [Bundle.passSAtoms]))
    (f := g) hg (a := a) (msg := msg) (rest := .ref a :: rest) hstack hd6
  cases Option.some.inj (hnC.symm.trans hm1)
  obtain ⟨vm2, X2, st2⟩ := (X.noted hW1).ctorMessageOffV hexec (g := { g with stack := .ref a :: rest }) hg hsize T L Z LZ M LM (P1 :: P2 :: Ps) hPs ⟨hk1, hk2, hk⟩ (u0 := u0) (sen := sen) (self := a) hmsg (cell := freshCell P1.m.cls kX) (cellS := S1)
    hcell (fun _ => by simp) (by simp) rfl rfl hsel0 hselF hS1' hneS hknS (by rw [hkeep _ (by simp)]; exact hu0) (by rw [hkeep _ (by simp)]; exact hsen)
    (Takes.of_laid hkX hord tyC (by rw [Y.causeType]; rfl)) (Takes.of_laid hkX hord tyS (by rw [Y.stackType]; exact fits_refV_array _ u0)) (Takes.of_laid hkX hord tyP (by rw [Y.suppType]; exact fits_refV_object _ sen))
    (Takes.of_laid hkX hord tyM (by rw [Y.msgType]; exact fits_refV_object _ ⟨msg, hmsg⟩)) Y.objLocals hskip htr [] hd6
    (by simp only [List.length_cons, hlen]; omega) (by simp only [List.length_cons, hlen]; exact hRl)
  obtain ⟨hwalk, hrun, hended, hWU, hsame⟩ := X2.athrowLeaves hexec (g := { g with stack := .ref a :: rest, pc := g.pc + 3 }) hg hlocked hentered hout (a := a) (rest := rest) rfl hd9 hlocks
  have hlt : a < ((W9.setVm vm1).setVm vm2).heap.size := (Array.getElem?_eq_some_iff.mp hcell).1
  refine ⟨_, st1 _ (fun acts => by rw [doInvoke_state]; exact st2 _ hwalk), hrun, hended, hWU, hsame.weaken (fun y hy hl9 => ?_) (Nat.le_refl _) (Nat.le_refl _), _, heapAt_setCell_self (s := (W9.setVm vm1).setVm vm2) _ hlt, rfl, hfound⟩
  have hb : y.base = a := by
    simp only [List.nil_append, List.mem_cons, List.not_mem_nil, or_false] at hy
    rcases hy with rfl | rfl | rfl | rfl | rfl <;> rfl
  rw [hb] at hl9
  exact absurd hnew (Nat.not_le.mpr hl9)
theorem vy_throwS {p : Program} {l : Launch} {e : Env} {R : Room} {s : State} {m : MethodId} {args : Array Value} {below : List Frame} {meth : Method} {c : Code} {H : Heap} {locs : List Loc} {cells slots : Nat} {free : Addr → Prop} {ls : Array Slot} {rest : List Value} {Qc : Array Value → State → Outcome → State → Prop} {XC : String → State → State → Prop} {cc : ByteArray} {pc : Nat} (hexec : p.tables.exec = Jvm.exec) (hb : c.code = cc) (hl : l.stackTraces = false) {own cls sup text : String} {ix : Nat} {bts : ByteArray} (hB : vy_B bts ix) {names : List String} {ik is ic mc ms sa : Nat} {A : Nat → Prop}
    (hown : s.vm.findClass own = some m.cls) (hcls : Bundle.fit cls = true) (hsup : Bundle.fit sup = true) (hnames : ∀ n ∈ names, Bundle.fit n = true)
    (hk : (Cond.classLink own ik cls).before args s = true) (hini : (Cond.initialized cls).before args s = true) (hstr : vk_R own is text sa s) (hat : ∀ w ∈ (vy_at own ic cls sup ix bts names).filter vx_no, w.before args s = true)
    (hgood : ∀ w ∈ Cond.classLink own ik cls :: Cond.initialized cls :: (vy_at own ic cls sup ix bts names).filter vx_no, vx_ot w = true)
    (hU : vx_Zq Bundle.tN "UNASSIGNED_STACK" Bundle.steD A s s.heap) (hN : vx_Zq Bundle.tN "SUPPRESSED_SENTINEL" Bundle.listD A s s.heap) (hS : va_S A s.heap H locs) (hsize : ls.size = c.maxLocals)
    (d0 : decode cc pc = .ok (.new ik, 3)) (d3 : decode cc (pc + 3) = .ok (.dup, 1)) (d4 : decode cc (pc + 4) = .ok (.ldc is, 2)) (d6 : decode cc (pc + 6) = .ok (.invokespecial ic, 3)) (d9 : decode cc (pc + 9) = .ok (.athrow, 1))
    (hout : ∀ x ∈ c.exceptionTable.toList, covers x (pc + 9) = false)
    (hRframes : names.length + 4 < R.frames) (hRlocals : (rest.map fun v => v.category).sum + (13 * (names.length + 2) + 43) ≤ R.locals) (hRcells : cells + 1 ≤ R.cells) (hRslots : slots + 6 ≤ R.slots) (hlocks : meth.locks = false)
    (hx : ∀ t : State, s.vm.Alike t.vm → H.size ≤ t.heap.size → (∀ q : Nat, q < H.size → t.heap[q]? = H[q]?) → XC cls s t)
    (hf : ∀ z ∈ locs, free z.base) (hc : cells + 1 ≤ mc) (hs : slots + 6 ≤ ms) :
    W p l e R s m args below meth c H locs cells slots (vx_MQ below Qc XC args s mc ms free) (F0 m pc ls rest) := by
  intro T hT X
  have htr : e.platform.stackTraces = false := (show e.platform.stackTraces = l.stackTraces by rw [X.admits.platform]).trans hl
  have Y := vx_rebase X (R' := { frames := R.frames, locals := R.locals, cells := 1, slots := 6 }) (Nat.le_refl _) (Nat.le_refl _) hRcells hRslots
  obtain ⟨s', hA⟩ : ∃ z, z = (T.setVm s.vm).setFrames (.invoking m args :: below) := ⟨_, rfl⟩
  rw [← hA] at Y
  have hvm : s'.vm = s.vm := by rw [hA]; rfl
  have hhp : s'.heap = H := by rw [hA]; exact hT
  have hW0 : s.WarmedH s'.vm := by rw [hvm]; exact State.WarmedH.refl s
  have hat' : ∀ w ∈ (vy_at own ic cls sup ix bts names).filter vx_no, w.before args s' = true := fun w hw => vx_ot_at hW0 hvm.symm (hgood w (List.mem_cons_of_mem _ (List.mem_cons_of_mem _ hw))) (hat w hw)
  have hk' : (Cond.classLink own ik cls).before args s' = true := vx_ot_at hW0 hvm.symm (hgood _ List.mem_cons_self) hk
  have hini' : (Cond.initialized cls).before args s' = true := vx_ot_at hW0 hvm.symm (hgood _ (List.mem_cons_of_mem _ List.mem_cons_self)) hini
  have hU' : vx_Zq Bundle.tN "UNASSIGNED_STACK" Bundle.steD A s' s'.heap := by rw [hhp]; exact vx_Zq.moved hW0.alike (hU.kept hS.2.1)
  have hN' : vx_Zq Bundle.tN "SUPPRESSED_SENTINEL" Bundle.listD A s' s'.heap := by rw [hhp]; exact vx_Zq.moved hW0.alike (hN.kept hS.2.1)
  have h : ∀ w ∈ vy_at own ic cls sup ix bts names, w.before args s' = true := vx_own hat' (vx_isRefq hU'.1) (vx_isRefq hN'.1) hU'.2.word hN'.2.word
  have hown' : s'.vm.findClass own = some m.cls := by rw [hvm]; exact hown
  have hins : (Cond.instantiable cls 6).before args s' = true := h _ (by simp [vy_at])
  obtain ⟨vm₁, cX, kX, hfX, hkX, -, -, X₁, st1⟩ := Y.newCold hexec (own := own) (C := cls) (index := ik) (n := 6) hown' hk' hins hini'
    (g := F0 m pc ls rest) rfl (by rw [hb]; exact d0) (Nat.le_refl _) (Nat.le_refl _)
  generalize hT1 : (T.setVm vm₁).pushCell { cls := cX, slots := kX.instanceTypes.map defaultValue, vm := .none } = T1 at X₁ st1
  have hcat : (Value.ref T.heap.size).category = 1 := rfl
  have hcellA : T1.heap[T.heap.size]? = some (freshCell cX kX) := by rw [← hT1]; exact State.heap_pushCell_size _ _
  have d3' : decode c.code (pc + 3) = .ok (.dup, 1) := by rw [hb]; exact d3
  have d4' : decode c.code (pc + 4) = .ok (.ldc is, 2) := by rw [hb]; exact d4
  have hstr' : vk_R own is text sa s' := vk_R.warm hW0 hstr
  obtain ⟨U, hsteps, hrun, hend, hW, hsame, ce, hce, hOv, hOc⟩ := vy_ctor X₁ hexec htr hB (own := own) (cls := cls) (names := names) (ic := ic) hown' hcls hsup hnames h hfX hkX hcellA (by rw [hhp, hT]; exact Nat.le_refl _) (msg := .ref sa) rfl
    (g := { method := m, pc := pc + 6, locals := ls, stack := .ref sa :: .ref T.heap.size :: .ref T.heap.size :: rest, locked := none }) rfl hsize rfl rfl (rest := rest) rfl
    (by rw [hb]; exact d6) (by rw [hb]; exact d9) hout hRframes (by simp only [List.map_cons, List.sum_cons, hcat]; omega) hlocks
  obtain ⟨f1, f2⟩ := vx_frame hsame
  rw [hhp] at f1 f2
  have hWs : s.WarmedH U.vm := State.WarmedH.trans hW0 hW
  have hcl : s.vm.findClass cls = some ce.cls := by
    have h9 := hOc
    rw [hvm] at h9
    exact h9
  have hall : s.sameButNew ({ U with vm := s.vm } : State) locs mc ms := by
    subst hA
    obtain ⟨e1, e2⟩ := hsame
    rw [State.setFrames_setFrames] at e1
    have h2 : (T.setVm s.vm).sameButNew ({ U with vm := s.vm } : State) [] (0 + 1) (0 + 6) := ⟨e1, e2⟩
    have h3 := X.same.trans h2
    rw [List.append_nil] at h3
    exact h3.mono hc hs
  refine ⟨U, ?_, .threw T.heap.size, hrun, hend, Or.inr ⟨T.heap.size, rfl, cls, ce, locs, hx U hWs.alike f1 (fun q hq => f2 q hq (fun z hz => nomatch hz)), hce, hOv, hcl, hWs, hall, hf⟩⟩
  refine st1 _ ?_
  show Steps p.tables e below (T1.setTop { method := m, pc := pc + 3, locals := ls, stack := .ref T.heap.size :: rest, locked := none }) _
  jvm_step X₁.here [X₁.here.top, hexec, d3', Value.category]
  exact X₁.ldcString hexec (own := own) (text := text) (index := is) (a := sa) hown' hstr'.1 hstr'.2
    (g := { method := m, pc := pc + 4, locals := ls, stack := .ref T.heap.size :: .ref T.heap.size :: rest, locked := none }) rfl d4' _ hsteps
/-! ===== bodies that may throw ===== -/
def RtT (z : Cz) (cc : ByteArray) (nL : Nat) (res : Out) : Prop := ∀ (pc : Nat) (lv : List (Nat × Value)) (v : Int32) (σ : Sg), decode cc pc = .ok (.ireturn, 1) → (.inr v, σ) = res → V z 0 nL pc lv [.int v] σ
def RtU (z : Cz) (cc : ByteArray) (nL : Nat) (res : Out) : Prop := ∀ (pc : Nat) (lv : List (Nat × Value)) (σ : Sg), decode cc pc = .ok (.return_, 1) → (.inr 0, σ) = res → V z 0 nL pc lv [] σ
def ThT (z : Cz) (res : Out) : Prop := ∀ (E : String) (σ' : Sg), res = (.inl E, σ') → 1 ≤ (zR z).cells ∧ 6 ≤ (zR z).slots ∧ z0 z = 0 ∧ z1 z = 0 ∧ (zc z).exceptionTable.toList = [] ∧ zQ z = vx_MQ (zb z) (fun _ _ _ _ => False) (Xe (zD z) (zy z) (zA z) (zs z).heap.size E σ') (za z) (zs z) 1 6 (Ar (zA z) (zs z).heap.size)
abbrev exN : List String := ["java/lang/Exception"]
def Tw (ik ic : Nat) (cls : String) (ix : Nat) (bts : ByteArray) : Prop := Bundle.fit cls = true ∧ Cond.classLink RX7 ik cls ∈ ALL ∧ Cond.initialized cls ∈ ALL ∧ (∀ w ∈ (vy_at RX7 ic cls "java/lang/RuntimeException" ix bts exN).filter vx_no, (w ∈ ALL ∨ w ∈ Nst) ∧ vx_ot w = true) ∧ vy_B bts ix
section TH
variable {z : Cz} {k nL pc : Nat} {lv : List (Nat × Value)} {rest : List Value} {σ : Sg} {cc : ByteArray} {own : String} {res : Out}
theorem r_tret (Rt : RtT z cc nL res) {v : Int32} (hdg : decode cc pc = .ok (.ireturn, 1)) (h : some ((.inr v, σ) : Out) = some res) : V z 0 nL pc lv [.int v] σ := Rt pc lv v σ hdg (Option.some.inj h)
theorem r_uret (Rt : RtU z cc nL res) (hdg : decode cc pc = .ok (.return_, 1)) (h : some ((.inr 0, σ) : Out) = some res) : V z 0 nL pc lv [] σ := Rt pc lv σ hdg (Option.some.inj h)
theorem exN_fit : ∀ n ∈ exN, Bundle.fit n = true := by decide +kernel
theorem exR_fit : Bundle.fit "java/lang/RuntimeException" = true := by decide +kernel
theorem r_throw (X : Cx z cc nL RX7) (Th : ThT z res) {fr lo : Nat} (hR : fr ≤ (zR z).frames ∧ lo ≤ (zR z).locals) (hf : 6 ≤ fr) (hlo : (rest.map fun v => v.category).sum + 82 ≤ lo) {ik is ic : Nat} {ix : Nat} {bts : ByteArray} {cls text : String} (hs9 : (RX7, is, text) ∈ Strs) (Wd : Tw ik ic cls ix bts) (h : some ((.inl cls, σ) : Out) = some res)
    (d0 : decode cc pc = .ok (.new ik, 3)) (d3 : decode cc (pc + 3) = .ok (.dup, 1)) (d4 : decode cc (pc + 4) = .ok (.ldc is, 2)) (d6 : decode cc (pc + 6) = .ok (.invokespecial ic, 3)) (d9 : decode cc (pc + 9) = .ok (.athrow, 1)) : V z 0 nL pc lv rest σ := by
  intro H locs ls hc hP hD hS hl
  obtain ⟨h1, h2, h3, h4, h5, h6⟩ := Th cls σ (Option.some.inj h).symm
  have key := vy_throwS (l := zl z) (p := zp z) (e := ze z) (R := zR z) (s := zs z) (m := zm z) (args := za z) (below := zb z) (meth := zh z) (c := zc z) (H := H) (locs := locs) (cells := z0 z + 0) (slots := z1 z + 6 * 0) (ls := ls) (rest := rest) (Qc := fun _ _ _ _ => False) (XC := Xe (zD z) (zy z) (zA z) (zs z).heap.size cls σ) (free := Ar (zA z) (zs z).heap.size) (mc := 1) (ms := 6)
    X.1 X.2.1 X.2.2.2.2.2.2.2.1 Wd.2.2.2.2 (own := RX7) (cls := cls) (sup := "java/lang/RuntimeException") (text := text) (names := exN) X.2.2.2.1 Wd.1 exR_fit exN_fit (X.2.2.2.2.1 _ Wd.2.1) (X.2.2.2.2.1 _ Wd.2.2.1) (X.2.2.2.2.2.2.1.2.1 _ hs9)
    (fun w hw => ((Wd.2.2.2.1 w hw).1.elim (fun g => X.2.2.2.2.1 w g) (fun g => va_Nw.use (nst_on (Nst_k w g)) (X.2.2.2.2.2.2.1.1 w g))))
    (fun w hw => by
      rcases List.mem_cons.mp hw with rfl | hw
      · rfl
      · rcases List.mem_cons.mp hw with rfl | hw
        · rfl
        · exact (Wd.2.2.2.1 w hw).2)
    X.2.2.2.2.2.2.1.2.2.2.1 X.2.2.2.2.2.2.1.2.2.2.2 hS (hl.1.trans X.2.2.1.symm) d0 d3 d4 d6 d9 (by rw [h5]; intro x hx; exact nomatch hx)
    (Nat.lt_of_lt_of_le (by decide : 1 + 4 < 6) (Nat.le_trans hf hR.1)) (Nat.le_trans hlo hR.2) (by rw [h3]; exact h1) (by rw [h4]; exact h2) X.2.2.2.2.2.2.2.2
    (fun t hvm hsz hsame => ⟨(), trivial, ⟨rfl, hP.kept (fun i q hq => hsame _ (vx_lt hP hq))⟩, ⟨Nat.le_trans hS.1 hsz, fun q hq hA => by rw [hsame q (Nat.lt_of_lt_of_le hq hS.1)]; exact hS.2.1 q hq hA⟩⟩) hS.2.2 (by rw [h3]; exact Nat.le_refl _) (by rw [h4]; exact Nat.le_refl _)
  rw [h6]
  exact key
/-- a thrown object goes on to the caller -/
theorem vt_out (X : Cx z cc nL own) (Th : ThT z res) {E : String} {σ' : Sg} (hres : res = (.inl E, σ')) {H1 : Heap} {locs1 : List Loc} {ls : Array Slot} {ce : Cell} {q9 : Addr} (hP : va_P (zD z) vwCl (wW (zy z) (zA z) σ') H1) (hS : va_S (Ar (zA z) (zs z).heap.size) (zs z).heap H1 locs1) (hce : H1[q9]? = some ce) (hcv : ce.vm = .none) (hcl : (zs z).vm.findClass E = some ce.cls) :
    vx_W (zp z) (zl z) (ze z) (zR z) (zs z) (zm z) (za z) (zb z) (zh z) (zc z) H1 locs1 (z0 z + 0 + 1) (z1 z + 6 * 0 + 6) (zQ z) (F0 (zm z) pc ls rest) q9 := by
  obtain ⟨h1, h2, h3, h4, h5, h6⟩ := Th E σ' hres
  rw [h6]
  exact vx_out (by rw [h5]; intro x hx; exact nomatch hx) X.2.2.2.2.2.2.2.2 hce hcv hcl (fun t ht hvm => ⟨(), trivial, ⟨rfl, by show va_P (zD z) vwCl (wW (zy z) (zA z) σ') t.heap; rw [ht]; exact hP⟩, hS.F ht⟩) hS.2.2 (by rw [h3]; exact Nat.le_refl _) (by rw [h4]; exact Nat.le_refl _)
theorem va_Qi_false {S : Type} {post : Int32 → S → Prop} {B : S → State → Prop} {A1 : Nat → Prop} {a : Array Value} {p : Program} {l : Launch} {e : Env} {R : Room} {s : State} {m : MethodId} {args : Array Value} {below : List Frame} {meth : Method} {c : Code} {H : Heap} {locs : List Loc} {cells slots mc ms : Nat} {g : JFrame} {rest : List Value} {XC : String → State → State → Prop} {free : Addr → Prop} (h : vx_Run p l e R s m args below meth c H locs cells slots mc ms g rest (fun _ _ _ => False) XC free) : vx_Run p l e R s m args below meth c H locs cells slots mc ms g rest (va_Qi post B A1 a) XC free := by
  intro T hT X
  rcases h T hT X with ⟨v, st₀, t, T', L, h0, X', hL, e1, e2, hq, st⟩ | hx
  · exact hq.elim
  · exact Or.inr hx
variable {index : Nat} {C : String} {y : MethodName} {code : ByteArray} {maxL : Nat} {ret : Option FieldType} {n fr lo : Nat} {As : List Value} {x : Option Out} {K : Int32 → Sg → Option Out}
theorem r_callVt (X : Cx z cc nL own) (Th : ThT z res) (q ci : Nat) {fs : List Value} {CC : vw_C} (hq : q < 57) (he : ccW (zy z) (zA z) q (σ q) = .inr (ci, fs)) (hc9 : vwCl[ci]? = some CC) (hC : CC.1 = C) (L : LkV own index C y code maxL ret n) (hM : CtT (zl z) y code maxL ret fr lo (zD z) (zy z) (zA z) (zS z) (.ref (zA z q) :: As) σ x) (hR : fr + 1 ≤ (zR z).frames ∧ 8 + (maxL + 11) + lo ≤ (zR z).locals) (hn : As.length = n) {stk : List Value} (hst : stk = As.reverse ++ .ref (zA z q) :: rest) (hw : (rest.map fun v => v.category).sum ≤ 8)
    (hdg : decode cc pc = .ok (.invokevirtual index, 3)) (h : cT x K = some res) (kk : ∀ (r : Int32) (σ' : Sg), K r σ' = some res → V z 0 nL (pc + 3) lv (.int r :: rest) σ') : V z 0 nL pc lv stk σ := by
  rcases cT_some h with ⟨r, σ', hx, hk⟩ | ⟨E, σ', hx, hres⟩
  · exact r_callV X q ci hq he hc9 hC L (x := some (r, σ')) (fun sz r9 σ9 h9 => by cases h9; exact hM.1 sz r σ' hx) hR hn hst hw hdg (K := fun r σ => K r σ) hk kk
  · intro H locs ls hc hP hD hS hl
    subst hC
    obtain ⟨t1, t2, t3, t4, t5, t6⟩ := Th E σ' hres
    refine vx_calli (a := #[]) (A1 := Ar (zA z) H.size) (post := fun _ (_ : Unit) => False) (B := fun _ _ => True) (va_Qi_false (a := #[]) (vx_runV (As := As) (rest := rest) ⟨X.1, X.2.1, X.2.2.1, X.2.2.2.1, X.2.2.2.2.1⟩ (hM.2 H.size E σ' hx) (lk_cwV X L hR) ⟨Pm_blind, rc_at X q ci hq he hc9 hP, fun U hU hW => pm_at X _ hP hD hS U hU hW⟩ rfl hn hl.1 hst (lv_room hw) hdg ⟨by rw [t3]; exact t1, by rw [t4]; exact t2⟩)) hS (fun q _ h => Ar_mono hS.1 h) (fun q h => Ar_mono hS.1 h) (fun q _ h => Ar_mono hS.1 h) (fun E9 ce q9 u t H1 locs1 ht hvm _ hB hz1 hk1 hS1 hce hcv hcl => ?_) (fun _ _ _ _ _ _ _ hf _ _ _ _ => hf.elim)
    obtain ⟨hE9, hP1⟩ := hB
    subst hE9; subst ht
    exact vt_out X Th hres hP1 hS1 hce hcv hcl
theorem r_callVu (X : Cx z cc nL own) (Th : ThT z res) (q ci : Nat) {fs : List Value} {CC : vw_C} (hq : q < 57) (he : ccW (zy z) (zA z) q (σ q) = .inr (ci, fs)) (hc9 : vwCl[ci]? = some CC) (hC : CC.1 = C) (L : LkV own index C y code maxL none n) (hM : CtU (zl z) y code maxL fr lo (zD z) (zy z) (zA z) (zS z) (.ref (zA z q) :: As) σ x) (hR : fr + 1 ≤ (zR z).frames ∧ 8 + (maxL + 11) + lo ≤ (zR z).locals) (hn : As.length = n) {stk : List Value} (hst : stk = As.reverse ++ .ref (zA z q) :: rest) (hw : (rest.map fun v => v.category).sum ≤ 8)
    (hdg : decode cc pc = .ok (.invokevirtual index, 3)) (h : cT x K = some res) (kk : ∀ (r : Int32) (σ' : Sg), K r σ' = some res → V z 0 nL (pc + 3) lv rest σ') : V z 0 nL pc lv stk σ := by
  rcases cT_some h with ⟨r, σ', hx, hk⟩ | ⟨E, σ', hx, hres⟩
  · exact r_callVv X q ci hq he hc9 hC L (x := some (r, σ')) (fun sz r9 σ9 h9 => by cases h9; exact hM.1 sz r σ' hx) hR hn hst hw hdg (K := fun r σ => K r σ) hk kk
  · intro H locs ls hc hP hD hS hl
    subst hC
    obtain ⟨t1, t2, t3, t4, t5, t6⟩ := Th E σ' hres
    refine vx_calli (a := #[]) (A1 := Ar (zA z) H.size) (post := fun _ (_ : Unit) => False) (B := fun _ _ => True) (va_Qi_false (a := #[]) (vx_runV (As := As) (rest := rest) ⟨X.1, X.2.1, X.2.2.1, X.2.2.2.1, X.2.2.2.2.1⟩ (hM.2 H.size E σ' hx) (lk_cwV X L hR) ⟨Pm_blind, rc_at X q ci hq he hc9 hP, fun U hU hW => pm_at X _ hP hD hS U hU hW⟩ rfl hn hl.1 hst (lv_room hw) hdg ⟨by rw [t3]; exact t1, by rw [t4]; exact t2⟩)) hS (fun q _ h => Ar_mono hS.1 h) (fun q h => Ar_mono hS.1 h) (fun q _ h => Ar_mono hS.1 h) (fun E9 ce q9 u t H1 locs1 ht hvm _ hB hz1 hk1 hS1 hce hcv hcl => ?_) (fun _ _ _ _ _ _ _ hf _ _ _ _ => hf.elim)
    obtain ⟨hE9, hP1⟩ := hB
    subst hE9; subst ht
    exact vt_out X Th hres hP1 hS1 hce hcv hcl
theorem r_callSt (X : Cx z cc nL own) (Th : ThT z res) (L : LkS own index y code maxL ret n) (hM : CtT (zl z) y code maxL ret fr lo (zD z) (zy z) (zA z) (zS z) As σ x) (hR : fr + 1 ≤ (zR z).frames ∧ 8 + (maxL + 11) + lo ≤ (zR z).locals) (hn : As.length = n) {stk : List Value} (hst : stk = As.reverse ++ rest) (hw : (rest.map fun v => v.category).sum ≤ 8)
    (hdg : decode cc pc = .ok (.invokestatic index, 3)) (h : cT x K = some res) (kk : ∀ (r : Int32) (σ' : Sg), K r σ' = some res → V z 0 nL (pc + 3) lv (.int r :: rest) σ') : V z 0 nL pc lv stk σ := by
  rcases cT_some h with ⟨r, σ', hx, hk⟩ | ⟨E, σ', hx, hres⟩
  · exact r_callS X L (x := some (r, σ')) (fun sz r9 σ9 h9 => by cases h9; exact hM.1 sz r σ' hx) hR hn hst hw hdg (K := fun r σ => K r σ) hk kk
  · intro H locs ls hc hP hD hS hl
    obtain ⟨t1, t2, t3, t4, t5, t6⟩ := Th E σ' hres
    refine vx_calli (a := #[]) (A1 := Ar (zA z) H.size) (post := fun _ (_ : Unit) => False) (B := fun _ _ => True) (va_Qi_false (a := #[]) (vx_runS (As := As) (rest := rest) ⟨X.1, X.2.1, X.2.2.1, X.2.2.2.1, X.2.2.2.2.1⟩ (hM.2 H.size E σ' hx) (lk_cwS X L hR) ⟨Pm_blind, fun U hU hW => pm_at X _ hP hD hS U hU hW⟩ rfl hn hl.1 hst (lv_room hw) hdg ⟨by rw [t3]; exact t1, by rw [t4]; exact t2⟩)) hS (fun q _ h => Ar_mono hS.1 h) (fun q h => Ar_mono hS.1 h) (fun q _ h => Ar_mono hS.1 h) (fun E9 ce q9 u t H1 locs1 ht hvm _ hB hz1 hk1 hS1 hce hcv hcl => ?_) (fun _ _ _ _ _ _ _ hf _ _ _ _ => hf.elim)
    obtain ⟨hE9, hP1⟩ := hB
    subst hE9; subst ht
    exact vt_out X Th hres hP1 hS1 hce hcv hcl
theorem r_callSu (X : Cx z cc nL own) (Th : ThT z res) (L : LkS own index y code maxL none n) (hM : CtU (zl z) y code maxL fr lo (zD z) (zy z) (zA z) (zS z) As σ x) (hR : fr + 1 ≤ (zR z).frames ∧ 8 + (maxL + 11) + lo ≤ (zR z).locals) (hn : As.length = n) {stk : List Value} (hst : stk = As.reverse ++ rest) (hw : (rest.map fun v => v.category).sum ≤ 8)
    (hdg : decode cc pc = .ok (.invokestatic index, 3)) (h : cT x K = some res) (kk : ∀ (r : Int32) (σ' : Sg), K r σ' = some res → V z 0 nL (pc + 3) lv rest σ') : V z 0 nL pc lv stk σ := by
  rcases cT_some h with ⟨r, σ', hx, hk⟩ | ⟨E, σ', hx, hres⟩
  · exact r_callSv X L (x := some (r, σ')) (fun sz r9 σ9 h9 => by cases h9; exact hM.1 sz r σ' hx) hR hn hst hw hdg (K := fun r σ => K r σ) hk kk
  · intro H locs ls hc hP hD hS hl
    obtain ⟨t1, t2, t3, t4, t5, t6⟩ := Th E σ' hres
    refine vx_calli (a := #[]) (A1 := Ar (zA z) H.size) (post := fun _ (_ : Unit) => False) (B := fun _ _ => True) (va_Qi_false (a := #[]) (vx_runS (As := As) (rest := rest) ⟨X.1, X.2.1, X.2.2.1, X.2.2.2.1, X.2.2.2.2.1⟩ (hM.2 H.size E σ' hx) (lk_cwS X L hR) ⟨Pm_blind, fun U hU hW => pm_at X _ hP hD hS U hU hW⟩ rfl hn hl.1 hst (lv_room hw) hdg ⟨by rw [t3]; exact t1, by rw [t4]; exact t2⟩)) hS (fun q _ h => Ar_mono hS.1 h) (fun q h => Ar_mono hS.1 h) (fun q _ h => Ar_mono hS.1 h) (fun E9 ce q9 u t H1 locs1 ht hvm _ hB hz1 hk1 hS1 hce hcv hcl => ?_) (fun _ _ _ _ _ _ _ hf _ _ _ _ => hf.elim)
    obtain ⟨hE9, hP1⟩ := hB
    subst hE9; subst ht
    exact vt_out X Th hres hP1 hS1 hce hcv hcl
end TH
section CT
variable {l : Launch} {y : MethodName} {code : ByteArray} {maxL fr lo : Nat} {D : va_G} {cy : Nat → ClassId} {ad sa : Nat → Nat} {avs : List Value} {σ : Sg} {x : Option Out}
theorem ct_T (hl : l.stackTraces = false) (hy : plainName y.cls = true) (hn : (lg_sl avs).length ≤ maxL) (walk : ∀ (z : Cz) (res : Out), zl z = l → zD z = D → zy z = cy → zA z = ad → zS z = sa → (fr ≤ (zR z).frames ∧ lo ≤ (zR z).locals) → Cx z code maxL y.cls → RtT z code maxL res → ThT z res → x = some res → V z 0 maxL 0 (lv_args 0 avs) [] σ) : CtT l y code maxL (some .int) fr lo D cy ad sa avs σ x := by
  refine ⟨fun sz r σ' hx => ?_, fun sz E σ' hx => ?_⟩
  · refine Met.ofW (cc := code) (maxL := maxL) (ret := some .int) hy rfl ?_
    intro p e s m args below meth c s₁ B hml hv
    obtain ⟨rfl, hsz, hP, hK, hD0, hE⟩ := hv
    subst hsz
    have hts0 := atoms_spec (ws := wy y code maxL (some .int)) B.pre
    have hts : ∀ w ∈ ALL, w.before avs.toArray s = true := fun w hw => hts0 w (List.mem_cons_of_mem _ hw)
    have hown : s.vm.findClass y.cls = some m.cls := findClass_of_methodNamed B.named
    have hl9 := lv_entry avs (n := maxL) hn
    rw [lg_entry_eq]
    generalize (lg_sl avs ++ List.replicate (maxL - (lg_sl avs).length) Slot.unset).toArray = ls at hl9 ⊢
    have hD : va_D (Ar ad s.heap.size) (wW cy ad σ) := wW_D σ hD0 (fun k hk _ => wW_in hk)
    exact walk (p, l, e, rm fr lo 0 0, s, m, avs.toArray, below, meth, c, MQ below (Qi D cy ad s.heap.size r σ') avs.toArray s 0 0 (Ar ad s.heap.size), D, cy, ad, sa, 0, 0) (.inr r, σ') rfl rfl rfl rfl rfl ⟨Nat.le_refl _, Nat.le_refl _⟩
      ⟨B.exec, B.bytes, hml, hown, hts, hK, hE, hl, B.notSynchronized⟩
      (fun pc lv v τ hdg e9 H locs ls hc hP hD hS hl => by
        cases e9
        exact W.iret B.exec B.bytes B.returns (fun t ht hW => ⟨⟨_, (), rfl, rfl, by show va_P D vwCl (wW cy ad _) t.heap; rw [ht]; exact hP⟩, hS.F ht⟩) hS.2.2 hdg B.notSynchronized) (fun E9 σ9 h9 => by cases h9) hx s.heap [] ls ⟨Nat.le_refl 0, Nat.le_refl 0⟩ hP hD va_S.rf hl9
  · refine vx_ofW (cc := code) (maxL := maxL) (ret := some .int) hy rfl ?_
    intro p e s m args below meth c s₁ B hml hnx hv
    obtain ⟨rfl, hsz, hP, hK, hD0, hE⟩ := hv
    subst hsz
    have hts0 := atoms_spec (ws := wy y code maxL (some .int)) B.pre
    have hts : ∀ w ∈ ALL, w.before avs.toArray s = true := fun w hw => hts0 w (List.mem_cons_of_mem _ hw)
    have hown : s.vm.findClass y.cls = some m.cls := findClass_of_methodNamed B.named
    have hl9 := lv_entry avs (n := maxL) hn
    rw [lg_entry_eq]
    generalize (lg_sl avs ++ List.replicate (maxL - (lg_sl avs).length) Slot.unset).toArray = ls at hl9 ⊢
    have hD : va_D (Ar ad s.heap.size) (wW cy ad σ) := wW_D σ hD0 (fun k hk _ => wW_in hk)
    have hnh : c.exceptionTable.toList = [] := List.eq_nil_iff_forall_not_mem.mpr hnx
    exact walk (p, l, e, rm fr lo 1 6, s, m, avs.toArray, below, meth, c, vx_MQ below (fun _ _ _ _ => False) (Xe D cy ad s.heap.size E σ') avs.toArray s 1 6 (Ar ad s.heap.size), D, cy, ad, sa, 0, 0) (.inl E, σ') rfl rfl rfl rfl rfl ⟨Nat.le_refl _, Nat.le_refl _⟩
      ⟨B.exec, B.bytes, hml, hown, hts, hK, hE, hl, B.notSynchronized⟩
      (fun pc lv v τ hdg e9 => by cases e9) (fun E9 σ9 h9 => by cases h9; exact ⟨Nat.le_refl _, Nat.le_refl _, rfl, rfl, hnh, rfl⟩) hx s.heap [] ls ⟨Nat.zero_le _, Nat.zero_le _⟩ hP hD va_S.rf hl9
theorem ct_U (hl : l.stackTraces = false) (hy : plainName y.cls = true) (hn : (lg_sl avs).length ≤ maxL) (walk : ∀ (z : Cz) (res : Out), zl z = l → zD z = D → zy z = cy → zA z = ad → zS z = sa → (fr ≤ (zR z).frames ∧ lo ≤ (zR z).locals) → Cx z code maxL y.cls → RtU z code maxL res → ThT z res → x = some res → V z 0 maxL 0 (lv_args 0 avs) [] σ) : CtU l y code maxL fr lo D cy ad sa avs σ x := by
  refine ⟨fun sz r σ' hx => ?_, fun sz E σ' hx => ?_⟩
  · refine Met.ofW (cc := code) (maxL := maxL) (ret := none) hy rfl ?_
    intro p e s m args below meth c s₁ B hml hv
    obtain ⟨rfl, hsz, hP, hK, hD0, hE⟩ := hv
    subst hsz
    have hts0 := atoms_spec (ws := wy y code maxL none) B.pre
    have hts : ∀ w ∈ ALL, w.before avs.toArray s = true := fun w hw => hts0 w (List.mem_cons_of_mem _ hw)
    have hown : s.vm.findClass y.cls = some m.cls := findClass_of_methodNamed B.named
    have hl9 := lv_entry avs (n := maxL) hn
    rw [lg_entry_eq]
    generalize (lg_sl avs ++ List.replicate (maxL - (lg_sl avs).length) Slot.unset).toArray = ls at hl9 ⊢
    have hD : va_D (Ar ad s.heap.size) (wW cy ad σ) := wW_D σ hD0 (fun k hk _ => wW_in hk)
    exact walk (p, l, e, rm fr lo 0 0, s, m, avs.toArray, below, meth, c, MQ below (Qv D cy ad s.heap.size σ') avs.toArray s 0 0 (Ar ad s.heap.size), D, cy, ad, sa, 0, 0) (.inr r, σ') rfl rfl rfl rfl rfl ⟨Nat.le_refl _, Nat.le_refl _⟩
      ⟨B.exec, B.bytes, hml, hown, hts, hK, hE, hl, B.notSynchronized⟩
      (fun pc lv τ hdg e9 H locs ls hc hP hD hS hl => by
        cases e9
        exact W.vret B.exec B.bytes B.returns (fun t ht hW => ⟨⟨(), rfl, trivial, by show va_P D vwCl (wW cy ad _) t.heap; rw [ht]; exact hP⟩, hS.F ht⟩) hS.2.2 hdg B.notSynchronized) (fun E9 σ9 h9 => by cases h9) hx s.heap [] ls ⟨Nat.le_refl 0, Nat.le_refl 0⟩ hP hD va_S.rf hl9
  · refine vx_ofW (cc := code) (maxL := maxL) (ret := none) hy rfl ?_
    intro p e s m args below meth c s₁ B hml hnx hv
    obtain ⟨rfl, hsz, hP, hK, hD0, hE⟩ := hv
    subst hsz
    have hts0 := atoms_spec (ws := wy y code maxL none) B.pre
    have hts : ∀ w ∈ ALL, w.before avs.toArray s = true := fun w hw => hts0 w (List.mem_cons_of_mem _ hw)
    have hown : s.vm.findClass y.cls = some m.cls := findClass_of_methodNamed B.named
    have hl9 := lv_entry avs (n := maxL) hn
    rw [lg_entry_eq]
    generalize (lg_sl avs ++ List.replicate (maxL - (lg_sl avs).length) Slot.unset).toArray = ls at hl9 ⊢
    have hD : va_D (Ar ad s.heap.size) (wW cy ad σ) := wW_D σ hD0 (fun k hk _ => wW_in hk)
    have hnh : c.exceptionTable.toList = [] := List.eq_nil_iff_forall_not_mem.mpr hnx
    exact walk (p, l, e, rm fr lo 1 6, s, m, avs.toArray, below, meth, c, vx_MQ below (fun _ _ _ _ => False) (Xe D cy ad s.heap.size E σ') avs.toArray s 1 6 (Ar ad s.heap.size), D, cy, ad, sa, 0, 0) (.inl E, σ') rfl rfl rfl rfl rfl ⟨Nat.le_refl _, Nat.le_refl _⟩
      ⟨B.exec, B.bytes, hml, hown, hts, hK, hE, hl, B.notSynchronized⟩
      (fun pc lv τ hdg e9 => by cases e9) (fun E9 σ9 h9 => by cases h9; exact ⟨Nat.le_refl _, Nat.le_refl _, rfl, rfl, hnh, rfl⟩) hx s.heap [] ls ⟨Nat.zero_le _, Nat.zero_le _⟩ hP hD va_S.rf hl9
end CT
section LN
variable {z : Cz} {k nL pc : Nat} {lv : List (Nat × Value)} {rest : List Value} {σ : Sg} {cc : ByteArray} {own : String}
theorem ln_21 (X : Cx z cc nL own) (hdg : decode cc pc = .ok (.arraylength, 1)) (kk : V z k nL (pc + 1) lv (.int 480 :: rest) σ) : V z k nL pc lv (.ref (zA z 21) :: rest) σ :=
  fun H locs ls hc hP hD hS hl => va_alen X.1 X.2.1 X.2.2.2.2.2.1 hP 21 14 (wW_at _ _ _ 21 (by decide)) rfl rfl hdg (kk H locs ls hc hP hD hS hl)
theorem ln_33 (X : Cx z cc nL own) (hdg : decode cc pc = .ok (.arraylength, 1)) (kk : V z k nL (pc + 1) lv (.int 10 :: rest) σ) : V z k nL pc lv (.ref (zA z 33) :: rest) σ :=
  fun H locs ls hc hP hD hS hl => va_alen X.1 X.2.1 X.2.2.2.2.2.1 hP 33 25 (wW_at _ _ _ 33 (by decide)) rfl rfl hdg (kk H locs ls hc hP hD hS hl)
end LN
set_option maxRecDepth 100000 in
set_option maxHeartbeats 4000000 in
theorem tw_240_244 : Tw 240 244 "java/util/NoSuchElementException" 13 prog_21_method_4_code := by
  refine ⟨by decide +kernel, wd2_187, wd1_14, ?_, by decide +kernel, by decide +kernel, by decide +kernel, by decide +kernel⟩
  intro w hw
  have hno := (List.mem_filter.mp hw).2
  have hw := (List.mem_filter.mp hw).1
  simp only [vy_at, Bundle.throwableAtoms, Bundle.throwableSAtoms, Bundle.chainSAtoms, Bundle.passSAtoms, List.cons_append, List.nil_append, List.append_assoc, List.mem_cons, List.not_mem_nil, or_false] at hw
  rcases hw with rfl | rfl | rfl | rfl | rfl | rfl | rfl | rfl | rfl | rfl | rfl | rfl | rfl | rfl | rfl | rfl | rfl | rfl | rfl | rfl | rfl | rfl | rfl | rfl | rfl | rfl | rfl | rfl | rfl | rfl | rfl | rfl | rfl | rfl | rfl | rfl | rfl | rfl | rfl | rfl | rfl | rfl | rfl | rfl | rfl | rfl | rfl | rfl | rfl | rfl | rfl | rfl | rfl | rfl | rfl | rfl
  · exact ⟨Or.inl (mA1 11 rfl rfl), rfl⟩
  · exact ⟨Or.inl (mA2 209 rfl rfl), rfl⟩
  · exact ⟨Or.inl (mA2 218 rfl rfl), rfl⟩
  · exact ⟨Or.inl (mA2 223 rfl rfl), rfl⟩
  · exact ⟨Or.inl (mA2 226 rfl rfl), rfl⟩
  · exact ⟨Or.inl (mA2 228 rfl rfl), rfl⟩
  · exact ⟨Or.inl (mA2 210 rfl rfl), rfl⟩
  · exact ⟨Or.inl (mA2 211 rfl rfl), rfl⟩
  · exact ⟨Or.inl (mA1 25 rfl rfl), rfl⟩
  · exact ⟨Or.inl (mA1 26 rfl rfl), rfl⟩
  · exact ⟨Or.inl (mA2 212 rfl rfl), rfl⟩
  · exact ⟨Or.inl (mA2 217 rfl rfl), rfl⟩
  · exact ⟨Or.inl (mA2 224 rfl rfl), rfl⟩
  · exact ⟨Or.inl (mA3 4 rfl rfl), rfl⟩
  · exact ⟨Or.inl (mA2 199 rfl rfl), rfl⟩
  · exact ⟨Or.inl (mA3 5 rfl rfl), rfl⟩
  · exact ⟨Or.inl (mA2 201 rfl rfl), rfl⟩
  · exact ⟨Or.inl (mA3 6 rfl rfl), rfl⟩
  · exact ⟨Or.inl (mA2 203 rfl rfl), rfl⟩
  · exact ⟨Or.inl (mA2 213 rfl rfl), rfl⟩
  · exact absurd hno (by decide +kernel)
  · exact ⟨Or.inl (mA2 215 rfl rfl), rfl⟩
  · exact absurd hno (by decide +kernel)
  · exact ⟨Or.inl (mA2 205 rfl rfl), rfl⟩
  · exact ⟨Or.inl (mA3 0 rfl rfl), rfl⟩
  · exact ⟨Or.inl (mA3 1 rfl rfl), rfl⟩
  · exact ⟨Or.inl (mA3 3 rfl rfl), rfl⟩
  · exact ⟨Or.inl (mA2 205 rfl rfl), rfl⟩
  · exact ⟨Or.inl (mA2 231 rfl rfl), rfl⟩
  · exact ⟨Or.inl (mA2 232 rfl rfl), rfl⟩
  · exact ⟨Or.inl (mA2 233 rfl rfl), rfl⟩
  · exact ⟨Or.inl (mA2 234 rfl rfl), rfl⟩
  · exact ⟨Or.inr (List.mem_of_getElem? (i := 20) rfl), rfl⟩
  · exact ⟨Or.inl (mA2 234 rfl rfl), rfl⟩
  · exact ⟨Or.inl (mA2 235 rfl rfl), rfl⟩
  · exact ⟨Or.inl (mA2 236 rfl rfl), rfl⟩
  · exact ⟨Or.inl (mA2 237 rfl rfl), rfl⟩
  · exact ⟨Or.inr (List.mem_of_getElem? (i := 22) rfl), rfl⟩
  · exact ⟨Or.inl (mA2 237 rfl rfl), rfl⟩
  · exact ⟨Or.inl (mA2 238 rfl rfl), rfl⟩
  · exact ⟨Or.inl (mA2 239 rfl rfl), rfl⟩
  · exact ⟨Or.inl (mA3 0 rfl rfl), rfl⟩
  · exact ⟨Or.inr (List.mem_of_getElem? (i := 24) rfl), rfl⟩
  · exact ⟨Or.inl (mA2 230 rfl rfl), rfl⟩
  · exact ⟨Or.inl (mA2 188 rfl rfl), rfl⟩
  · exact ⟨Or.inl (mA2 196 rfl rfl), rfl⟩
  · exact ⟨Or.inl (mA2 197 rfl rfl), rfl⟩
  · exact ⟨Or.inl (mA2 198 rfl rfl), rfl⟩
  · exact ⟨Or.inl (mA2 200 rfl rfl), rfl⟩
  · exact ⟨Or.inl (mA2 202 rfl rfl), rfl⟩
  · exact ⟨Or.inl (mA2 204 rfl rfl), rfl⟩
  · exact absurd hno (by decide +kernel)
  · exact absurd hno (by decide +kernel)
  · exact ⟨Or.inl (mA2 208 rfl rfl), rfl⟩
  · exact ⟨Or.inl (mA2 207 rfl rfl), rfl⟩
  · exact ⟨Or.inl (mA2 206 rfl rfl), rfl⟩
set_option maxRecDepth 100000 in
set_option maxHeartbeats 4000000 in
theorem tw_109_113 : Tw 109 113 "java/lang/IllegalArgumentException" 7 prog_13_method_2_code := by
  refine ⟨by decide +kernel, wd3_19, wd1_15, ?_, by decide +kernel, by decide +kernel, by decide +kernel, by decide +kernel⟩
  intro w hw
  have hno := (List.mem_filter.mp hw).2
  have hw := (List.mem_filter.mp hw).1
  simp only [vy_at, Bundle.throwableAtoms, Bundle.throwableSAtoms, Bundle.chainSAtoms, Bundle.passSAtoms, List.cons_append, List.nil_append, List.append_assoc, List.mem_cons, List.not_mem_nil, or_false] at hw
  rcases hw with rfl | rfl | rfl | rfl | rfl | rfl | rfl | rfl | rfl | rfl | rfl | rfl | rfl | rfl | rfl | rfl | rfl | rfl | rfl | rfl | rfl | rfl | rfl | rfl | rfl | rfl | rfl | rfl | rfl | rfl | rfl | rfl | rfl | rfl | rfl | rfl | rfl | rfl | rfl | rfl | rfl | rfl | rfl | rfl | rfl | rfl | rfl | rfl | rfl | rfl | rfl | rfl | rfl | rfl | rfl | rfl
  · exact ⟨Or.inl (mA1 11 rfl rfl), rfl⟩
  · exact ⟨Or.inl (mA2 209 rfl rfl), rfl⟩
  · exact ⟨Or.inl (mA2 218 rfl rfl), rfl⟩
  · exact ⟨Or.inl (mA2 223 rfl rfl), rfl⟩
  · exact ⟨Or.inl (mA2 226 rfl rfl), rfl⟩
  · exact ⟨Or.inl (mA2 228 rfl rfl), rfl⟩
  · exact ⟨Or.inl (mA2 210 rfl rfl), rfl⟩
  · exact ⟨Or.inl (mA2 211 rfl rfl), rfl⟩
  · exact ⟨Or.inl (mA1 25 rfl rfl), rfl⟩
  · exact ⟨Or.inl (mA1 26 rfl rfl), rfl⟩
  · exact ⟨Or.inl (mA2 212 rfl rfl), rfl⟩
  · exact ⟨Or.inl (mA2 217 rfl rfl), rfl⟩
  · exact ⟨Or.inl (mA2 224 rfl rfl), rfl⟩
  · exact ⟨Or.inl (mA3 4 rfl rfl), rfl⟩
  · exact ⟨Or.inl (mA2 199 rfl rfl), rfl⟩
  · exact ⟨Or.inl (mA3 5 rfl rfl), rfl⟩
  · exact ⟨Or.inl (mA2 201 rfl rfl), rfl⟩
  · exact ⟨Or.inl (mA3 6 rfl rfl), rfl⟩
  · exact ⟨Or.inl (mA2 203 rfl rfl), rfl⟩
  · exact ⟨Or.inl (mA2 213 rfl rfl), rfl⟩
  · exact absurd hno (by decide +kernel)
  · exact ⟨Or.inl (mA2 215 rfl rfl), rfl⟩
  · exact absurd hno (by decide +kernel)
  · exact ⟨Or.inl (mA2 205 rfl rfl), rfl⟩
  · exact ⟨Or.inl (mA3 0 rfl rfl), rfl⟩
  · exact ⟨Or.inl (mA3 1 rfl rfl), rfl⟩
  · exact ⟨Or.inl (mA3 3 rfl rfl), rfl⟩
  · exact ⟨Or.inl (mA2 205 rfl rfl), rfl⟩
  · exact ⟨Or.inl (mA3 30 rfl rfl), rfl⟩
  · exact ⟨Or.inl (mA3 31 rfl rfl), rfl⟩
  · exact ⟨Or.inl (mA3 32 rfl rfl), rfl⟩
  · exact ⟨Or.inl (mA2 234 rfl rfl), rfl⟩
  · exact ⟨Or.inr (List.mem_of_getElem? (i := 20) rfl), rfl⟩
  · exact ⟨Or.inl (mA2 234 rfl rfl), rfl⟩
  · exact ⟨Or.inl (mA2 235 rfl rfl), rfl⟩
  · exact ⟨Or.inl (mA2 236 rfl rfl), rfl⟩
  · exact ⟨Or.inl (mA2 237 rfl rfl), rfl⟩
  · exact ⟨Or.inr (List.mem_of_getElem? (i := 22) rfl), rfl⟩
  · exact ⟨Or.inl (mA2 237 rfl rfl), rfl⟩
  · exact ⟨Or.inl (mA2 238 rfl rfl), rfl⟩
  · exact ⟨Or.inl (mA2 239 rfl rfl), rfl⟩
  · exact ⟨Or.inl (mA3 0 rfl rfl), rfl⟩
  · exact ⟨Or.inr (List.mem_of_getElem? (i := 24) rfl), rfl⟩
  · exact ⟨Or.inl (mA3 29 rfl rfl), rfl⟩
  · exact ⟨Or.inl (mA3 20 rfl rfl), rfl⟩
  · exact ⟨Or.inl (mA3 22 rfl rfl), rfl⟩
  · exact ⟨Or.inl (mA2 220 rfl rfl), rfl⟩
  · exact ⟨Or.inl (mA3 23 rfl rfl), rfl⟩
  · exact ⟨Or.inl (mA3 24 rfl rfl), rfl⟩
  · exact ⟨Or.inl (mA3 25 rfl rfl), rfl⟩
  · exact ⟨Or.inl (mA3 26 rfl rfl), rfl⟩
  · exact absurd hno (by decide +kernel)
  · exact absurd hno (by decide +kernel)
  · exact ⟨Or.inl (mA2 208 rfl rfl), rfl⟩
  · exact ⟨Or.inl (mA2 207 rfl rfl), rfl⟩
  · exact ⟨Or.inl (mA3 27 rfl rfl), rfl⟩
set_option maxRecDepth 100000 in
set_option maxHeartbeats 4000000 in
theorem tw_119_123 : Tw 119 123 "java/lang/UnsupportedOperationException" 7 prog_19_method_2_code := by
  refine ⟨by decide +kernel, wd3_35, wd1_16, ?_, by decide +kernel, by decide +kernel, by decide +kernel, by decide +kernel⟩
  intro w hw
  have hno := (List.mem_filter.mp hw).2
  have hw := (List.mem_filter.mp hw).1
  simp only [vy_at, Bundle.throwableAtoms, Bundle.throwableSAtoms, Bundle.chainSAtoms, Bundle.passSAtoms, List.cons_append, List.nil_append, List.append_assoc, List.mem_cons, List.not_mem_nil, or_false] at hw
  rcases hw with rfl | rfl | rfl | rfl | rfl | rfl | rfl | rfl | rfl | rfl | rfl | rfl | rfl | rfl | rfl | rfl | rfl | rfl | rfl | rfl | rfl | rfl | rfl | rfl | rfl | rfl | rfl | rfl | rfl | rfl | rfl | rfl | rfl | rfl | rfl | rfl | rfl | rfl | rfl | rfl | rfl | rfl | rfl | rfl | rfl | rfl | rfl | rfl | rfl | rfl | rfl | rfl | rfl | rfl | rfl | rfl
  · exact ⟨Or.inl (mA1 11 rfl rfl), rfl⟩
  · exact ⟨Or.inl (mA2 209 rfl rfl), rfl⟩
  · exact ⟨Or.inl (mA2 218 rfl rfl), rfl⟩
  · exact ⟨Or.inl (mA2 223 rfl rfl), rfl⟩
  · exact ⟨Or.inl (mA2 226 rfl rfl), rfl⟩
  · exact ⟨Or.inl (mA2 228 rfl rfl), rfl⟩
  · exact ⟨Or.inl (mA2 210 rfl rfl), rfl⟩
  · exact ⟨Or.inl (mA2 211 rfl rfl), rfl⟩
  · exact ⟨Or.inl (mA1 25 rfl rfl), rfl⟩
  · exact ⟨Or.inl (mA1 26 rfl rfl), rfl⟩
  · exact ⟨Or.inl (mA2 212 rfl rfl), rfl⟩
  · exact ⟨Or.inl (mA2 217 rfl rfl), rfl⟩
  · exact ⟨Or.inl (mA2 224 rfl rfl), rfl⟩
  · exact ⟨Or.inl (mA3 4 rfl rfl), rfl⟩
  · exact ⟨Or.inl (mA2 199 rfl rfl), rfl⟩
  · exact ⟨Or.inl (mA3 5 rfl rfl), rfl⟩
  · exact ⟨Or.inl (mA2 201 rfl rfl), rfl⟩
  · exact ⟨Or.inl (mA3 6 rfl rfl), rfl⟩
  · exact ⟨Or.inl (mA2 203 rfl rfl), rfl⟩
  · exact ⟨Or.inl (mA2 213 rfl rfl), rfl⟩
  · exact absurd hno (by decide +kernel)
  · exact ⟨Or.inl (mA2 215 rfl rfl), rfl⟩
  · exact absurd hno (by decide +kernel)
  · exact ⟨Or.inl (mA2 205 rfl rfl), rfl⟩
  · exact ⟨Or.inl (mA3 0 rfl rfl), rfl⟩
  · exact ⟨Or.inl (mA3 1 rfl rfl), rfl⟩
  · exact ⟨Or.inl (mA3 3 rfl rfl), rfl⟩
  · exact ⟨Or.inl (mA2 205 rfl rfl), rfl⟩
  · exact ⟨Or.inl (mA3 46 rfl rfl), rfl⟩
  · exact ⟨Or.inl (mA3 47 rfl rfl), rfl⟩
  · exact ⟨Or.inl (mA3 48 rfl rfl), rfl⟩
  · exact ⟨Or.inl (mA2 234 rfl rfl), rfl⟩
  · exact ⟨Or.inr (List.mem_of_getElem? (i := 20) rfl), rfl⟩
  · exact ⟨Or.inl (mA2 234 rfl rfl), rfl⟩
  · exact ⟨Or.inl (mA2 235 rfl rfl), rfl⟩
  · exact ⟨Or.inl (mA2 236 rfl rfl), rfl⟩
  · exact ⟨Or.inl (mA2 237 rfl rfl), rfl⟩
  · exact ⟨Or.inr (List.mem_of_getElem? (i := 22) rfl), rfl⟩
  · exact ⟨Or.inl (mA2 237 rfl rfl), rfl⟩
  · exact ⟨Or.inl (mA2 238 rfl rfl), rfl⟩
  · exact ⟨Or.inl (mA2 239 rfl rfl), rfl⟩
  · exact ⟨Or.inl (mA3 0 rfl rfl), rfl⟩
  · exact ⟨Or.inr (List.mem_of_getElem? (i := 24) rfl), rfl⟩
  · exact ⟨Or.inl (mA3 45 rfl rfl), rfl⟩
  · exact ⟨Or.inl (mA3 36 rfl rfl), rfl⟩
  · exact ⟨Or.inl (mA3 38 rfl rfl), rfl⟩
  · exact ⟨Or.inl (mA2 222 rfl rfl), rfl⟩
  · exact ⟨Or.inl (mA3 39 rfl rfl), rfl⟩
  · exact ⟨Or.inl (mA3 40 rfl rfl), rfl⟩
  · exact ⟨Or.inl (mA3 41 rfl rfl), rfl⟩
  · exact ⟨Or.inl (mA3 42 rfl rfl), rfl⟩
  · exact absurd hno (by decide +kernel)
  · exact absurd hno (by decide +kernel)
  · exact ⟨Or.inl (mA2 208 rfl rfl), rfl⟩
  · exact ⟨Or.inl (mA2 207 rfl rfl), rfl⟩
  · exact ⟨Or.inl (mA3 43 rfl rfl), rfl⟩
set_option maxRecDepth 100000 in
set_option maxHeartbeats 4000000 in
theorem tw_169_173 : Tw 169 173 "java/lang/IndexOutOfBoundsException" 7 prog_14_method_2_code := by
  refine ⟨by decide +kernel, wd3_118, wd1_17, ?_, by decide +kernel, by decide +kernel, by decide +kernel, by decide +kernel⟩
  intro w hw
  have hno := (List.mem_filter.mp hw).2
  have hw := (List.mem_filter.mp hw).1
  simp only [vy_at, Bundle.throwableAtoms, Bundle.throwableSAtoms, Bundle.chainSAtoms, Bundle.passSAtoms, List.cons_append, List.nil_append, List.append_assoc, List.mem_cons, List.not_mem_nil, or_false] at hw
  rcases hw with rfl | rfl | rfl | rfl | rfl | rfl | rfl | rfl | rfl | rfl | rfl | rfl | rfl | rfl | rfl | rfl | rfl | rfl | rfl | rfl | rfl | rfl | rfl | rfl | rfl | rfl | rfl | rfl | rfl | rfl | rfl | rfl | rfl | rfl | rfl | rfl | rfl | rfl | rfl | rfl | rfl | rfl | rfl | rfl | rfl | rfl | rfl | rfl | rfl | rfl | rfl | rfl | rfl | rfl | rfl | rfl
  · exact ⟨Or.inl (mA1 11 rfl rfl), rfl⟩
  · exact ⟨Or.inl (mA2 209 rfl rfl), rfl⟩
  · exact ⟨Or.inl (mA2 218 rfl rfl), rfl⟩
  · exact ⟨Or.inl (mA2 223 rfl rfl), rfl⟩
  · exact ⟨Or.inl (mA2 226 rfl rfl), rfl⟩
  · exact ⟨Or.inl (mA2 228 rfl rfl), rfl⟩
  · exact ⟨Or.inl (mA2 210 rfl rfl), rfl⟩
  · exact ⟨Or.inl (mA2 211 rfl rfl), rfl⟩
  · exact ⟨Or.inl (mA1 25 rfl rfl), rfl⟩
  · exact ⟨Or.inl (mA1 26 rfl rfl), rfl⟩
  · exact ⟨Or.inl (mA2 212 rfl rfl), rfl⟩
  · exact ⟨Or.inl (mA2 217 rfl rfl), rfl⟩
  · exact ⟨Or.inl (mA2 224 rfl rfl), rfl⟩
  · exact ⟨Or.inl (mA3 4 rfl rfl), rfl⟩
  · exact ⟨Or.inl (mA2 199 rfl rfl), rfl⟩
  · exact ⟨Or.inl (mA3 5 rfl rfl), rfl⟩
  · exact ⟨Or.inl (mA2 201 rfl rfl), rfl⟩
  · exact ⟨Or.inl (mA3 6 rfl rfl), rfl⟩
  · exact ⟨Or.inl (mA2 203 rfl rfl), rfl⟩
  · exact ⟨Or.inl (mA2 213 rfl rfl), rfl⟩
  · exact absurd hno (by decide +kernel)
  · exact ⟨Or.inl (mA2 215 rfl rfl), rfl⟩
  · exact absurd hno (by decide +kernel)
  · exact ⟨Or.inl (mA2 205 rfl rfl), rfl⟩
  · exact ⟨Or.inl (mA3 0 rfl rfl), rfl⟩
  · exact ⟨Or.inl (mA3 1 rfl rfl), rfl⟩
  · exact ⟨Or.inl (mA3 3 rfl rfl), rfl⟩
  · exact ⟨Or.inl (mA2 205 rfl rfl), rfl⟩
  · exact ⟨Or.inl (mA3 129 rfl rfl), rfl⟩
  · exact ⟨Or.inl (mA3 130 rfl rfl), rfl⟩
  · exact ⟨Or.inl (mA3 131 rfl rfl), rfl⟩
  · exact ⟨Or.inl (mA2 234 rfl rfl), rfl⟩
  · exact ⟨Or.inr (List.mem_of_getElem? (i := 20) rfl), rfl⟩
  · exact ⟨Or.inl (mA2 234 rfl rfl), rfl⟩
  · exact ⟨Or.inl (mA2 235 rfl rfl), rfl⟩
  · exact ⟨Or.inl (mA2 236 rfl rfl), rfl⟩
  · exact ⟨Or.inl (mA2 237 rfl rfl), rfl⟩
  · exact ⟨Or.inr (List.mem_of_getElem? (i := 22) rfl), rfl⟩
  · exact ⟨Or.inl (mA2 237 rfl rfl), rfl⟩
  · exact ⟨Or.inl (mA2 238 rfl rfl), rfl⟩
  · exact ⟨Or.inl (mA2 239 rfl rfl), rfl⟩
  · exact ⟨Or.inl (mA3 0 rfl rfl), rfl⟩
  · exact ⟨Or.inr (List.mem_of_getElem? (i := 24) rfl), rfl⟩
  · exact ⟨Or.inl (mA3 128 rfl rfl), rfl⟩
  · exact ⟨Or.inl (mA3 119 rfl rfl), rfl⟩
  · exact ⟨Or.inl (mA3 121 rfl rfl), rfl⟩
  · exact ⟨Or.inl (mA2 221 rfl rfl), rfl⟩
  · exact ⟨Or.inl (mA3 122 rfl rfl), rfl⟩
  · exact ⟨Or.inl (mA3 123 rfl rfl), rfl⟩
  · exact ⟨Or.inl (mA3 124 rfl rfl), rfl⟩
  · exact ⟨Or.inl (mA3 125 rfl rfl), rfl⟩
  · exact absurd hno (by decide +kernel)
  · exact absurd hno (by decide +kernel)
  · exact ⟨Or.inl (mA2 208 rfl rfl), rfl⟩
  · exact ⟨Or.inl (mA2 207 rfl rfl), rfl⟩
  · exact ⟨Or.inl (mA3 126 rfl rfl), rfl⟩
