/-! ===== the one world: all cells of the class, of the reference, and the law's row; a state is a function from cell and place to a number ===== -/
abbrev Sg : Type := Nat → Nat → Int32
def ss (σ : Sg) (c i : Nat) (x : Int32) : Sg := fun c' => if c' = c then upd (σ c) i x else σ c'
def ccW (cy : Nat → ClassId) (ad : Nat → Nat) (k : Nat) (f : Nat → Int32) : va_E := match k with
  | 0 => .inr (7, [.ref (ad 1), .ref (ad 3), .ref (ad 9), .ref (ad 12), .ref (ad 16), .ref (ad 20), .ref (ad 22), .ref (ad 26), .ref (ad 27), .ref (ad 28), .ref (ad 29), .ref (ad 30), .ref (ad 31), .int (f 13), .ref (ad 32), .int (f 15), .ref (ad 33)])
  | 1 => .inr (4, [.ref (ad 2)])
  | 2 => .inl (cy 2, 20, .inl f)
  | 3 => .inr (6, [.ref (ad 1), .ref (ad 4), .ref (ad 5), .ref (ad 6), .ref (ad 7), .ref (ad 8), .int (f 6), .int (f 7)])
  | 4 => .inl (cy 4, 60, .inl f)
  | 5 => .inl (cy 5, 60, .inl f)
  | 6 => .inl (cy 6, 60, .inl f)
  | 7 => .inl (cy 7, 260, .inl f)
  | 8 => .inl (cy 8, 260, .inl f)
  | 9 => .inr (5, [.ref (ad 3), .ref (ad 10), .ref (ad 11), .int (f 3), .int (f 4)])
  | 10 => .inl (cy 10, 60, .inl f)
  | 11 => .inl (cy 11, 100, .inl f)
  | 12 => .inr (3, [.ref (ad 13), .ref (ad 14), .ref (ad 15)])
  | 13 => .inl (cy 13, 200, .inl f)
  | 14 => .inl (cy 14, 200, .inl f)
  | 15 => .inl (cy 15, 10, .inl f)
  | 16 => .inr (2, [.ref (ad 17), .ref (ad 18), .ref (ad 19), .int (f 3)])
  | 17 => .inl (cy 17, 60, .inl f)
  | 18 => .inl (cy 18, 60, .inl f)
  | 19 => .inl (cy 19, 60, .inl f)
  | 20 => .inr (1, [.ref (ad 21), .int (f 1), .int (f 2), .int (f 3), .int (f 4), .int (f 5)])
  | 21 => .inl (cy 21, 480, .inl f)
  | 22 => .inr (0, [.ref (ad 23), .ref (ad 24), .ref (ad 25), .int (f 3)])
  | 23 => .inl (cy 23, 760, .inl f)
  | 24 => .inl (cy 24, 760, .inl f)
  | 25 => .inl (cy 25, 760, .inl f)
  | 26 => .inl (cy 26, 60, .inl f)
  | 27 => .inl (cy 27, 60, .inl f)
  | 28 => .inl (cy 28, 60, .inl f)
  | 29 => .inl (cy 29, 60, .inl f)
  | 30 => .inl (cy 30, 40, .inl f)
  | 31 => .inl (cy 31, 40, .inl f)
  | 32 => .inl (cy 32, 200, .inl f)
  | 33 => .inl (cy 33, 10, .inl f)
  | 34 => .inl (cy 34, 1, .inr (.inl (fun j => (f j).toInt64)))
  | 35 => .inr (8, [.int (f 0), .int (f 1), .ref (ad 36), .ref (ad 37), .ref (ad 38), .ref (ad 39), .ref (ad 40), .ref (ad 41), .int (f 8), .ref (ad 42), .ref (ad 43), .int (f 11), .int (f 12), .ref (ad 44), .ref (ad 45), .int (f 15), .ref (ad 46), .int (f 17), .ref (ad 47), .ref (ad 48), .ref (ad 49), .ref (ad 50), .int (f 22), .ref (ad 51), .ref (ad 52), .int (f 25), .ref (ad 53), .ref (ad 54), .ref (ad 55), .ref (ad 56)])
  | 36 => .inl (cy 36, 60, .inl f)
  | 37 => .inl (cy 37, 60, .inl f)
  | 38 => .inl (cy 38, 60, .inl f)
  | 39 => .inl (cy 39, 60, .inl f)
  | 40 => .inl (cy 40, 60, .inl f)
  | 41 => .inl (cy 41, 20, .inl f)
  | 42 => .inl (cy 42, 160, .inl f)
  | 43 => .inl (cy 43, 160, .inl f)
  | 44 => .inl (cy 44, 40, .inl f)
  | 45 => .inl (cy 45, 40, .inl f)
  | 46 => .inl (cy 46, 200, .inl f)
  | 47 => .inl (cy 47, 160, .inl f)
  | 48 => .inl (cy 48, 160, .inl f)
  | 49 => .inl (cy 49, 61, .inl f)
  | 50 => .inl (cy 50, 61, .inl f)
  | 51 => .inl (cy 51, 60, .inl f)
  | 52 => .inl (cy 52, 60, .inl f)
  | 53 => .inl (cy 53, 700, .inl f)
  | 54 => .inl (cy 54, 700, .inl f)
  | 55 => .inl (cy 55, 700, .inl f)
  | _ => .inl (cy 56, 500, .inl f)
def tyW (cy : Nat → ClassId) : List (ClassId × FieldType) := [(cy 2, .int), (cy 4, .int), (cy 5, .int), (cy 6, .int), (cy 7, .int), (cy 8, .int), (cy 10, .int), (cy 11, .int), (cy 13, .int), (cy 14, .int), (cy 15, .int), (cy 17, .int), (cy 18, .int), (cy 19, .int), (cy 21, .int), (cy 23, .int), (cy 24, .int), (cy 25, .int), (cy 26, .int), (cy 27, .boolean), (cy 28, .int), (cy 29, .int), (cy 30, .int), (cy 31, .int), (cy 32, .int), (cy 33, .int), (cy 34, .long), (cy 36, .int), (cy 37, .int), (cy 38, .boolean), (cy 39, .int), (cy 40, .int), (cy 41, .int), (cy 42, .int), (cy 43, .int), (cy 44, .int), (cy 45, .int), (cy 46, .int), (cy 47, .int), (cy 48, .int), (cy 49, .int), (cy 50, .int), (cy 51, .int), (cy 52, .int), (cy 53, .int), (cy 54, .int), (cy 55, .int), (cy 56, .int)]
def wW (cy : Nat → ClassId) (ad : Nat → Nat) (σ : Sg) : va_W := (List.range 57).map (fun k => (ad k, ccW cy ad k (σ k)))
theorem wW_at (cy : Nat → ClassId) (ad : Nat → Nat) (σ : Sg) (k : Nat) (h : k < 57) : (wW cy ad σ)[k]? = some (ad k, ccW cy ad k (σ k)) := by
  simp [wW, h]
theorem wW_set (cy : Nat → ClassId) (ad : Nat → Nat) (σ : Sg) (k : Nat) (g : Nat → Int32) : (wW cy ad σ).set k (ad k, ccW cy ad k g) = wW cy ad (fun c => if c = k then g else σ c) := by
  apply List.ext_getElem?
  intro i
  by_cases hi : i < 57
  · rw [wW_at _ _ _ i hi, List.getElem?_set]
    by_cases e : k = i
    · subst e
      simp [wW, hi]
    · have e' : ¬ i = k := fun h => e h.symm
      simp [e, e', wW, hi]
  · have h1 : (wW cy ad (fun c => if c = k then g else σ c)).length ≤ i := by simp [wW]; omega
    have h2 : ((wW cy ad σ).set k (ad k, ccW cy ad k g)).length ≤ i := by simp [wW]; omega
    rw [List.getElem?_eq_none h1, List.getElem?_eq_none h2]
/-- the addresses alone decide that the cells are apart -/
theorem wW_D {cy : Nat → ClassId} {ad : Nat → Nat} {σ : Sg} (σ' : Sg) {A B : Nat → Prop} (h : va_D A (wW cy ad σ)) (hB : ∀ k, k < 57 → A (ad k) → B (ad k)) : va_D B (wW cy ad σ') := by
  have hk : ∀ (τ : Sg) (i : Nat) (q : Nat × va_E), (wW cy ad τ)[i]? = some q → i < 57 ∧ q.1 = ad i := by
    intro τ i q hq
    have hi : i < 57 := by
      rcases Nat.lt_or_ge i 57 with h9 | h9
      · exact h9
      · rw [List.getElem?_eq_none (by simp [wW]; omega)] at hq; cases hq
    rw [wW_at _ _ _ i hi] at hq
    cases hq
    exact ⟨hi, rfl⟩
  refine ⟨fun i j p q hp hq e => ?_, fun k q hq => ?_⟩
  · obtain ⟨hi, e1⟩ := hk _ _ _ hp
    obtain ⟨hj, e2⟩ := hk _ _ _ hq
    exact h.1 i j _ _ (wW_at _ _ _ i hi) (wW_at _ _ _ j hj) (by rw [← e1, ← e2]; exact e)
  · obtain ⟨hi, e1⟩ := hk _ _ _ hq
    rw [e1]
    exact hB k hi (h.2 k _ (wW_at _ _ _ k hi))
def Ar (ad : Nat → Nat) (sz : Nat) (q : Nat) : Prop := (∃ k, k < 57 ∧ q = ad k) ∨ sz ≤ q
theorem Ar_mono {ad : Nat → Nat} {a b : Nat} (h : a ≤ b) {q : Nat} (hq : Ar ad b q) : Ar ad a q := hq.elim Or.inl (fun g => Or.inr (Nat.le_trans h g))
theorem wW_in {ad : Nat → Nat} {sz k : Nat} (h : k < 57) : Ar ad sz (ad k) := Or.inl ⟨k, h, rfl⟩
/-- words that keep in their own way -/
def Nst : List Cond := [Cond.fieldLinkNest RX7 116 "StructureRows$Tree" "elements" "I" "StructureRows", Cond.fieldLinkNest RX7 151 "StructureRows$Tree" "parts" "I" "StructureRows", Cond.fieldLinkNest RX7 250 "StructureRows$Trail" "elementNumbers" "[I" "StructureRows", Cond.fieldLinkNest RX7 174 "StructureRows$Trail" "partCodes" "[I" "StructureRows", Cond.fieldLinkNest RX7 249 "StructureRows$Trail" "elements" "I" "StructureRows", Cond.fieldLinkNest RX7 165 "StructureRows$Trail" "parts" "I" "StructureRows", Cond.methodLinkNest RX7 43 yX2_init "StructureRows", Cond.fieldLinkNest RX7 230 "StructureRows$Headings" "elements" "[I" "StructureRows", Cond.fieldLinkNest RX7 234 "StructureRows$Headings" "levels" "[I" "StructureRows", Cond.fieldLinkNest RX7 231 "StructureRows$Headings" "depths" "[I" "StructureRows", Cond.fieldLinkNest RX7 227 "StructureRows$Headings" "count" "I" "StructureRows", Cond.methodLinkNest RX7 50 yX1_init "StructureRows", Cond.fieldLinkNest RX7 295 "StructureRows$Grid" "uneven" "Z" "StructureRows", Cond.methodLinkNest RX7 57 yX0_init "StructureRows", Cond.fieldLinkNest RX7 212 "StructureRows$Faults" "kinds" "[I" "StructureRows", Cond.fieldLinkNest RX7 215 "StructureRows$Faults" "elements" "[I" "StructureRows", Cond.fieldLinkNest RX7 217 "StructureRows$Faults" "numbers" "[I" "StructureRows", Cond.fieldLinkNest RX7 177 "StructureRows$Faults" "count" "I" "StructureRows", Cond.castable "java/util/NoSuchElementException" "java/util/NoSuchElementException", Cond.declares ⟨"java/lang/RuntimeException", "<init>", "()V"⟩, Cond.declares ⟨"java/lang/RuntimeException", "<init>", "(Ljava/lang/String;)V"⟩, Cond.declares ⟨"java/lang/Exception", "<init>", "()V"⟩, Cond.declares ⟨"java/lang/Exception", "<init>", "(Ljava/lang/String;)V"⟩, Cond.declares ⟨"java/lang/Throwable", "<init>", "()V"⟩, Cond.declares ⟨"java/lang/Throwable", "<init>", "(Ljava/lang/String;)V"⟩, Cond.castable "java/lang/IllegalArgumentException" "java/lang/IllegalArgumentException", Cond.castable "java/lang/UnsupportedOperationException" "java/lang/UnsupportedOperationException", Cond.castable "java/lang/IndexOutOfBoundsException" "java/lang/IndexOutOfBoundsException", Cond.castable "StructureRows" "java/lang/Object", Cond.castable "StructureRows$Roles" "java/lang/Object", Cond.castable "StructureRows$Tree" "java/lang/Object", Cond.castable "StructureRows$Trail" "java/lang/Object", Cond.castable "StructureRows$Pages" "java/lang/Object", Cond.castable "StructureRows$Headings" "java/lang/Object", Cond.castable "StructureRows$Grid" "java/lang/Object", Cond.castable "StructureRows$Faults" "java/lang/Object", Cond.castable "StructureRowsModel" "java/lang/Object", Cond.castable "java/util/NoSuchElementException" "java/lang/Object", Cond.castable "java/lang/IllegalArgumentException" "java/lang/Object", Cond.castable "java/lang/UnsupportedOperationException" "java/lang/Object", Cond.castable "java/lang/IndexOutOfBoundsException" "java/lang/Object", Cond.castable "java/lang/Throwable" "java/lang/Object", Cond.castable "java/lang/String" "java/lang/Object"]
theorem Nst_in : ∀ w ∈ Nst, w ∈ lw_tbl := by
  intro w hw
  simp only [Nst, List.mem_cons, List.not_mem_nil, or_false] at hw
  rcases hw with rfl | rfl | rfl | rfl | rfl | rfl | rfl | rfl | rfl | rfl | rfl | rfl | rfl | rfl | rfl | rfl | rfl | rfl | rfl | rfl | rfl | rfl | rfl | rfl | rfl | rfl | rfl | rfl | rfl | rfl | rfl | rfl | rfl | rfl | rfl | rfl | rfl | rfl | rfl | rfl | rfl | rfl | rfl
  · exact mT1 55 rfl
  · exact mT1 57 rfl
  · exact mT1 83 rfl
  · exact mT1 85 rfl
  · exact mT1 87 rfl
  · exact mT1 89 rfl
  · exact mT1 120 rfl
  · exact mT1 125 rfl
  · exact mT1 127 rfl
  · exact mT1 129 rfl
  · exact mT1 131 rfl
  · exact mT1 143 rfl
  · exact mT1 153 rfl
  · exact mT1 169 rfl
  · exact mT1 174 rfl
  · exact mT1 176 rfl
  · exact mT1 178 rfl
  · exact mT1 180 rfl
  · exact mT2 189 rfl
  · exact mT2 190 rfl
  · exact mT2 191 rfl
  · exact mT2 192 rfl
  · exact mT2 193 rfl
  · exact mT2 194 rfl
  · exact mT2 195 rfl
  · exact mT3 21 rfl
  · exact mT3 37 rfl
  · exact mT3 120 rfl
  · exact mT4 201 rfl
  · exact mT4 202 rfl
  · exact mT4 203 rfl
  · exact mT4 204 rfl
  · exact mT4 205 rfl
  · exact mT4 206 rfl
  · exact mT4 207 rfl
  · exact mT4 208 rfl
  · exact mT4 209 rfl
  · exact mT4 210 rfl
  · exact mT4 211 rfl
  · exact mT4 212 rfl
  · exact mT4 213 rfl
  · exact mT4 214 rfl
  · exact mT4 215 rfl
def nstK : Cond → Bool
  | .fieldLinkNest .. | .methodLinkNest .. | .castable .. | .declares .. => true
  | _ => false
theorem Nst_k : ∀ w ∈ Nst, nstK w = true := by
  intro w hw
  exact List.all_eq_true.mp (show Nst.all nstK = true from rfl) w hw
theorem nst_warm {w : Cond} (hk : nstK w = true) {s U : State} (hW : s.WarmedH U.vm) (h : va_Nw w s) : va_Nw w U := by
  cases w <;> first | exact va_Nw.warmF hW h | exact va_Nw.warmM hW h | exact va_Nw.warmC hW h | exact va_Nw.warmD hW h | cases hk
theorem nst_same {w : Cond} (hk : nstK w = true) {s U : State} (hv : s.vm = U.vm) (h : va_Nw w s) : va_Nw w U := by
  cases w <;> first | exact va_tabs rfl hv h | cases hk
theorem nst_on {w : Cond} (hk : nstK w = true) : w.onTables = true := by
  cases w <;> first | rfl | cases hk
def Strs : List (String × Nat × String) := [(RX7, 111, "no role for an element"), (RX7, 121, "all elements are there"), (RX7, 131, "no own role, or no role to map it to"), (RX7, 154, "all marked parts are there"), (RX7, 171, "the walk has no such part"), (RX7, 210, "the latest check has no such fault"), (RX7, 220, "no level"), (RX7, 222, "no span"), (RX7, 228, "the outline has no such heading"), (RX7, 238, "no such untagged mark"), (RX7, 242, "no such element"), (RX7, 245, "no such page or mark"), (RX7, 247, "0, 1 or 2 is asked for")]
def Ncs : List (String × String) := [("java/lang/IllegalArgumentException", "java/util/NoSuchElementException"), ("java/lang/UnsupportedOperationException", "java/util/NoSuchElementException"), ("java/lang/UnsupportedOperationException", "java/lang/IllegalArgumentException")]
/-- what rides beside the world: words of their own kind, the texts, the two statics that every throw reads -/
def Ext (sa : Nat → Nat) (A : Nat → Prop) (U : State) (H : Heap) : Prop :=
  (∀ w ∈ Nst, va_Nw w U) ∧ (∀ q ∈ Strs, vk_R q.1 q.2.1 q.2.2 (sa q.2.1) U) ∧ (∀ q ∈ Ncs, va_Nc q.1 q.2 U) ∧ vx_Zq Bundle.tN "UNASSIGNED_STACK" Bundle.steD A U H ∧ vx_Zq Bundle.tN "SUPPRESSED_SENTINEL" Bundle.listD A U H
theorem Ext.go {sa : Nat → Nat} {A B : Nat → Prop} {s U : State} {H H1 : Heap} (h : Ext sa A s H) (hW : s.WarmedH U.vm) (hq : ∀ a : Nat, a < H.size → ¬ A a → H1[a]? = H[a]?) (hAB : ∀ q, B q → A q) : Ext sa B U H1 :=
  ⟨fun w hw => nst_warm (Nst_k w hw) hW (h.1 w hw), fun q hq9 => vk_R.warm hW (h.2.1 q hq9), fun q hq9 => va_Nc.moved hW.alike (h.2.2.1 q hq9), ((h.2.2.2.1.kept hq).moved hW.alike).narrow hAB, ((h.2.2.2.2.kept hq).moved hW.alike).narrow hAB⟩
theorem Ext.same {sa : Nat → Nat} {A : Nat → Prop} {s U : State} {H : Heap} (h : Ext sa A s H) (hv : s.vm = U.vm) : Ext sa A U H :=
  ⟨fun w hw => nst_same (Nst_k w hw) hv (h.1 w hw), fun q hq9 => vk_R.same hv.symm (h.2.1 q hq9), fun q hq9 => va_Nc.moved (by rw [← hv]; exact Vm.Alike.refl _) (h.2.2.1 q hq9), h.2.2.2.1.moved (by rw [← hv]; exact Vm.Alike.refl _), h.2.2.2.2.moved (by rw [← hv]; exact Vm.Alike.refl _)⟩
/-! ===== the judgement: at a place of the code, with these locals, this stack, and the world in this state ===== -/
abbrev Cz : Type := Program × Launch × Env × Room × State × MethodId × Array Value × List Frame × Method × Code × (State → Prop) × va_G × (Nat → ClassId) × (Nat → Nat) × (Nat → Nat) × Nat × Nat
abbrev zp (z : Cz) : Program := z.1
abbrev zl (z : Cz) : Launch := z.2.1
abbrev ze (z : Cz) : Env := z.2.2.1
abbrev zR (z : Cz) : Room := z.2.2.2.1
abbrev zs (z : Cz) : State := z.2.2.2.2.1
abbrev zm (z : Cz) : MethodId := z.2.2.2.2.2.1
abbrev za (z : Cz) : Array Value := z.2.2.2.2.2.2.1
abbrev zb (z : Cz) : List Frame := z.2.2.2.2.2.2.2.1
abbrev zh (z : Cz) : Method := z.2.2.2.2.2.2.2.2.1
abbrev zc (z : Cz) : Code := z.2.2.2.2.2.2.2.2.2.1
abbrev zQ (z : Cz) : State → Prop := z.2.2.2.2.2.2.2.2.2.2.1
abbrev zD (z : Cz) : va_G := z.2.2.2.2.2.2.2.2.2.2.2.1
abbrev zy (z : Cz) : Nat → ClassId := z.2.2.2.2.2.2.2.2.2.2.2.2.1
abbrev zA (z : Cz) : Nat → Nat := z.2.2.2.2.2.2.2.2.2.2.2.2.2.1
abbrev zS (z : Cz) : Nat → Nat := z.2.2.2.2.2.2.2.2.2.2.2.2.2.2.1
abbrev z0 (z : Cz) : Nat := z.2.2.2.2.2.2.2.2.2.2.2.2.2.2.2.1
abbrev z1 (z : Cz) : Nat := z.2.2.2.2.2.2.2.2.2.2.2.2.2.2.2.2
/-- what a body knows from its start on -/
def Cx (z : Cz) (cc : ByteArray) (nL : Nat) (own : String) : Prop :=
  (zp z).tables.exec = Jvm.exec ∧ (zc z).code = cc ∧ (zc z).maxLocals = nL ∧ (zs z).vm.findClass own = some (zm z).cls ∧ (∀ w ∈ ALL, w.before (za z) (zs z) = true) ∧ va_K (zD z) vwCl (tyW (zy z)) (zs z) ∧ Ext (zS z) (Ar (zA z) (zs z).heap.size) (zs z) (zs z).heap ∧ (zl z).stackTraces = false ∧ (zh z).locks = false
def V (z : Cz) (k nL pc : Nat) (lv : List (Nat × Value)) (st : List Value) (σ : Sg) : Prop :=
  ∀ (H : Heap) (locs : List Loc) (ls : Array Slot), (z0 z + k ≤ (zR z).cells ∧ z1 z + 6 * k ≤ (zR z).slots) → va_P (zD z) vwCl (wW (zy z) (zA z) σ) H → va_D (Ar (zA z) (zs z).heap.size) (wW (zy z) (zA z) σ) → va_S (Ar (zA z) (zs z).heap.size) (zs z).heap H locs → lv_has ls nL lv →
    W (zp z) (zl z) (ze z) (zR z) (zs z) (zm z) (za z) (zb z) (zh z) (zc z) H locs (z0 z + k) (z1 z + 6 * k) (zQ z) (F0 (zm z) pc ls st)
/-! the words of the mirrors: a value is named, read, written; a call is made -/
def lt {β : Type} (x : Int32) (K : Int32 → Option β) : Option β := K x
def st {β : Type} (σ : Sg) (K : Sg → Option β) : Option β := K σ
def rdA {β : Type} (n : Nat) (f : Nat → Int32) (i : Int32) (K : Int32 → Option β) : Option β := if i < 0 then none else if n ≤ i.toNatClampNeg then none else K (f i.toNatClampNeg)
def wrA {β : Type} (n : Nat) (σ : Sg) (c : Nat) (i x : Int32) (K : Sg → Option β) : Option β := if i < 0 then none else if n ≤ i.toNatClampNeg then none else K (ss σ c i.toNatClampNeg x)
def gd {β : Type} (c : Prop) [Decidable c] (K : Option β) : Option β := if c then K else none
def cI {β : Type} (x : Option (Int32 × Sg)) (K : Int32 → Sg → Option β) : Option β := match x with
  | none => none
  | some q => K q.1 q.2
abbrev Out : Type := (String ⊕ Int32) × Sg
def cT (x : Option Out) (K : Int32 → Sg → Option Out) : Option Out := match x with
  | none => none
  | some (.inl E, σ) => some (.inl E, σ)
  | some (.inr r, σ) => K r σ
