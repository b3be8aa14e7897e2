/-! ===== the law's loop ===== -/
def Scr (z : Cz) (b L : Nat) (xs : Nat → Int32) : Prop := va_X b L xs (zs z) (zs z).heap ∧ b < (zs z).heap.size ∧ ¬ Ar (zA z) (zs z).heap.size b
def LkW (own : String) (index : Nat) (y : MethodName) (code : ByteArray) (maxL : Nat) (hh : List (Nat × Nat × Nat × Nat)) (n : Nat) : Prop :=
  Cond.methodLink own index y ∈ ALL ∧ Cond.static y ∈ ALL ∧ Cond.initialized y.cls ∈ ALL ∧ Cond.codeWith y code maxL (some .int) hh ∈ ALL ∧ y.cls ≠ "java/lang/invoke/MethodHandle" ∧ y.cls ≠ "java/lang/invoke/VarHandle" ∧ (parseMethodDescriptor y.desc).map (fun d => d.parameters.length) = some n
theorem lkc_eq (x y : Int32) : lg_cmp x.toInt64 y.toInt64 = 0 ↔ x = y := by
  constructor
  · intro h
    by_cases e : x = y
    · exact e
    · exfalso
      have hne : x.toInt ≠ y.toInt := fun h9 => e (Int32.toInt_inj.mp h9)
      rcases Int.lt_or_gt_of_ne hne with g | g
      · have h1 : x.toInt64 < y.toInt64 := by rw [Int64.lt_iff_toInt_lt]; simpa using g
        have h2 : ¬ y.toInt64 < x.toInt64 := by rw [Int64.lt_iff_toInt_lt]; simp; omega
        simp [lg_cmp, h1, h2] at h
        rw [h, Int64.lt_iff_toInt_lt] at h1
        omega
      · have h1 : y.toInt64 < x.toInt64 := by rw [Int64.lt_iff_toInt_lt]; simpa using g
        simp [lg_cmp, h1] at h
  · rintro rfl
    have h1 : ¬ x.toInt64 < x.toInt64 := by rw [Int64.lt_iff_toInt_lt]; omega
    simp [lg_cmp, h1]
def RtL (z : Cz) : Prop := ∀ (k pc : Nat) (lv : List (Nat × Value)) (σ : Sg), k ≤ 512 → decode cL_law pc = .ok (.ireturn, 1) → V z k 7 pc lv [.int 1] σ
section LW
variable {z : Cz} {k nL pc : Nat} {lv : List (Nat × Value)} {rest : List Value} {σ : Sg} {cc : ByteArray} {own : String} {β : Type} {res : β}
theorem r_slen (X : Cx z cc nL own) {b L : Nat} {xs : Nat → Int32} (S : Scr z b L xs) (hdg : decode cc pc = .ok (.arraylength, 1)) (kk : V z k nL (pc + 1) lv (.int (nI L) :: rest) σ) : V z k nL pc lv (.ref b :: rest) σ :=
  fun H locs ls hc hP hD hS hl => va_slen X.1 X.2.1 S.1 S.2.1 S.2.2 hS hdg (kk H locs ls hc hP hD hS hl)
theorem r_sld (X : Cx z cc nL own) {b L : Nat} {xs : Nat → Int32} (S : Scr z b L xs) {i : Int32} (hdg : decode cc pc = .ok (.iaload, 1)) {K : Int32 → Option β} (h : rdA L xs i K = some res) (kk : ∀ v : Int32, K v = some res → V z k nL (pc + 1) lv (.int v :: rest) σ) : V z k nL pc lv (.int i :: .ref b :: rest) σ :=
  fun H locs ls hc hP hD hS hl => va_sld X.1 X.2.1 S.1 S.2.1 S.2.2 hS (rdA_in h).1 hdg (kk _ (rdA_in h).2 H locs ls hc hP hD hS hl)
theorem r_kup (hk : z0 z + (k + 1) ≤ (zR z).cells ∧ z1 z + 6 * (k + 1) ≤ (zR z).slots) (kk : V z (k + 1) nL pc lv rest σ) : V z k nL pc lv rest σ :=
  fun H locs ls hc hP hD hS hl => W.widen (by omega) (by omega) (kk H locs ls hk hP hD hS hl)
theorem r_iincE (X : Cx z cc nL own) {i : Nat} {n : Int} {x : Int32} (c : Int32) (lv' : Int32 → List (Nat × Value)) (hdg : decode cc pc = .ok (.iinc i n, 3)) (j : Nat) (hj : lv[j]? = some (i, .int x)) (hc9 : Int32.ofInt n = c) (hn : i < nL) (hv : ∀ v : Int32, (i, Value.int v) :: lv.filter (fun q => !(q.1 == i) && !(q.1 + 1 == i && q.2.category == 2)) = lv' v)
    {K : Int32 → Option β} (h : lt (x + c) K = some res) (kk : ∀ v : Int32, v = x + c → K v = some res → V z k nL (pc + 3) (lv' v) rest σ) : V z k nL pc lv rest σ :=
  fun H locs ls hc hP hD hS hl => lv_iinc (v := x + c) X.1 X.2.1 hdg hl hj (by rw [hc9]) hn (hv _) (fun ls hl => kk (x + c) rfl h H locs ls hc hP hD hS hl)
theorem r_lcmp (X : Cx z cc nL own) {x y : Int32} {off : Int} (tgt : Nat) (hd1 : decode cc pc = .ok (.lcmp, 1)) (hd2 : decode cc (pc + 1) = .ok (.ifCond .eq off, 3)) (ht : ((pc + 1 : Nat) : Int) + off = (tgt : Int)) {dc : Decidable (x = y)} {f1 f2 : Option β} (h : @ite _ (x = y) dc f1 f2 = some res) (kt : x = y → f1 = some res → V z k nL tgt lv rest σ) (kf : ¬ (x = y) → f2 = some res → V z k nL (pc + 1 + 3) lv rest σ) : V z k nL pc lv (.long y.toInt64 :: .long x.toInt64 :: rest) σ :=
  fun H locs ls hc hP hD hS hl => W.lcmp X.1 X.2.1 hd1 (lv_if_eq X.1 X.2.1 hd2 ht (fun g => by
      have g := (lkc_eq x y).mp g
      exact kt g (by rw [if_pos g] at h; exact h) H locs ls hc hP hD hS hl) (fun g => by
      have g : ¬ (x = y) := fun g9 => g ((lkc_eq x y).mpr g9)
      exact kf g (by rw [if_neg g] at h; exact h) H locs ls hc hP hD hS hl))
variable {index : Nat} {y : MethodName} {code : ByteArray} {maxL : Nat} {n fr lo : Nat} {As : List Value} {x : Option (Int32 × Sg)} {K : Int32 → Sg → Option β} {hh : List (Nat × Nat × Nat × Nat)}
theorem lk_cwW {mc ms : Nat} (X : Cx z cc nL own) (L : LkW own index y code maxL hh n) (hR : fr + 1 ≤ (zR z).frames ∧ 8 + (maxL + 11) + lo ≤ (zR z).locals) : vx_CSW (zR z) (zs z) (za z) own index y code maxL (some .int) hh (Cond.codeWith y code maxL (some .int) hh :: ALL) (rm fr lo mc ms) mc ms n := by
  obtain ⟨h1, h2, h3, h4, h5, h6, h7⟩ := L
  refine vx_cwSW n X.2.2.2.2.1 (ALL_good ?_) rfl rfl rfl ⟨h5, h6, h7⟩ hR
  intro w hw
  simp only [va_wsS, List.mem_append, List.mem_cons, List.not_mem_nil, or_false] at hw
  rcases hw with (rfl | rfl | rfl) | rfl | hw
  · exact h1
  · exact h2
  · exact h3
  · exact h4
  · exact hw
theorem r_callW (X : Cx z cc nL own) (hk : z0 z + (k + 1) ≤ (zR z).cells ∧ z1 z + 6 * (k + 1) ≤ (zR z).slots) (L : LkW own index y code maxL hh n) (hM : CtW (zl z) y code maxL hh fr lo (zD z) (zy z) (zA z) (zS z) As σ x) (hR : fr + 1 ≤ (zR z).frames ∧ 8 + (maxL + 11) + lo ≤ (zR z).locals) (hn : As.length = n) {stk : List Value} (hst : stk = As.reverse ++ rest) (hw : (rest.map fun v => v.category).sum ≤ 8)
    (hdg : decode cc pc = .ok (.invokestatic index, 3)) (h : cI x K = some res) (kk : ∀ (r : Int32) (σ' : Sg), K r σ' = some res → V z (k + 1) nL (pc + 3) lv (.int r :: rest) σ') : V z k nL pc lv stk σ := by
  intro H locs ls hc hP hD hS hl
  obtain ⟨r, σ', hx, hk9⟩ := cI_some h
  refine vx_calli (px := fun (_ : Unit) => True) (BX := fun _ _ _ => False) (AX := fun _ => False) (A1 := Ar (zA z) H.size) ?_ hS (fun q _ h => Ar_mono hS.1 h) (fun q h => Ar_mono hS.1 h) (fun q _ h => h.elim) (fun _ _ _ _ _ _ _ _ _ _ hf => hf.elim) (fun r9 u t H1 locs1 ht hvm hpo hB hz1 hk1 hS1 => ?_) (rest := rest) (mc := 1) (ms := 6) (free := Ar (zA z) H.size) (post := fun r' (_ : Unit) => r' = r) (B := fun _ t => va_P (zD z) vwCl (wW (zy z) (zA z) σ') t.heap) (a := As.toArray)
  · have key := vx_runSX (As := As) (rest := rest) (hh := hh) (Ts := ALL) (nL := nL) (g := F0 (zm z) pc ls stk) (cells := z0 z + k) (slots := z1 z + 6 * k) (locs := locs) (below := zb z) (meth := zh z) (e := ze z) ⟨X.1, X.2.1, X.2.2.1, X.2.2.2.1, X.2.2.2.2.1⟩ (hM H.size r σ' hx) (lk_cwW X L hR) ⟨Pm_blind, fun U hU hW => pm_at X _ hP hD hS U hU hW⟩ rfl hn hl.1 hst (lv_room hw) hdg ⟨by omega, by omega⟩
    intro T hT XX
    rcases key T hT XX with h1 | ⟨q, st₀, t, T', L9, E, ce, _, _, _, _, _, hf, _⟩
    · exact Or.inl h1
    · exact hf.elim
  · subst hpo; subst ht
    exact kk r9 σ' hk9 _ locs1 ls hk hB (wW_D σ' hD (fun _ _ h => h)) hS1 hl
theorem sw_in (X : Cx z cL_law 7 RL) {x : Int32} (c : Nat) (tgt : Nat) (off : Int) (hx : x = nI c) (hc : c ≤ 13) (ho : (#[69, 137, 205, 285, 353, 366, 434, 502, 515, 583, 651, 735, 815, 883] : Array Int)[c]? = some off) (ht : (39 : Int) + off = (tgt : Int)) (kk : V z k 7 tgt lv rest σ) : V z k 7 39 lv (.int x :: rest) σ := by
  intro H locs ls hc9 hP hD hS hl
  have e1 : x.toInt = (c : Int) := by rw [hx]; exact nI_toInt (by omega)
  exact lv_tableIn (off := off) (tgt := tgt) X.1 X.2.1 dL_law_39 (by rw [e1]; omega) (by rw [e1]; omega) (by rw [e1]; simpa using ho) ht (kk H locs ls hc9 hP hD hS hl)
theorem sw_out (X : Cx z cL_law 7 RL) {x : Int32} (hx : ∀ c : Nat, c ≤ 13 → x ≠ nI c) (kk : V z k 7 978 lv rest σ) : V z k 7 39 lv (.int x :: rest) σ := by
  intro H locs ls hc9 hP hD hS hl
  refine lv_tableOut (tgt := 978) X.1 X.2.1 dL_law_39 ?_ (by decide) (kk H locs ls hc9 hP hD hS hl)
  by_cases h1 : x.toInt < 0
  · exact Or.inl h1
  · by_cases h2 : 13 < x.toInt
    · exact Or.inr h2
    · exfalso
      refine hx x.toInt.toNat (by omega) (Int32.toInt_inj.mp ?_)
      rw [nI_toInt (by omega)]
      omega
end LW
theorem law_i {L t : Nat} (hL : L ≤ 2048) (ht : t ≤ 512) (h : ¬ (nI L - 4 < nI (4 * t))) : t + 1 ≤ 512 ∧ 4 * t + 4 ≤ L := by
  have e1 : (nI L - 4).toInt = (L : Int) - 4 := pk_sub_toInt (a := L) (b := 4) (by omega) (by decide)
  have e2 : (nI (4 * t)).toInt = ((4 * t : Nat) : Int) := nI_toInt (by omega)
  have h3 : ¬ ((nI L - 4).toInt < (nI (4 * t)).toInt) := fun g => h (Int32.lt_iff_toInt_lt.mpr g)
  rw [e1, e2] at h3
  omega
theorem lk_L_61 : LkW RL 61 yL_element cL_element 5 [(0, 10, 13, 13), (0, 10, 17, 15), (0, 10, 21, 17)] 4 := ⟨wd2_173, wd2_174, wd1_0, wd2_175, by decide, by decide, by decide +kernel⟩
theorem lk_L_71 : LkW RL 71 yL_map cL_map 5 [(0, 10, 13, 15)] 4 := ⟨wd3_59, wd3_60, wd1_0, wd3_61, by decide, by decide, by decide +kernel⟩
theorem lk_L_74 : LkW RL 74 yL_content cL_content 6 [(0, 12, 15, 13), (0, 12, 19, 15), (0, 12, 23, 17)] 5 := ⟨wd3_76, wd3_77, wd1_0, wd3_78, by decide, by decide, by decide +kernel⟩
theorem lk_L_78 : LkW RL 78 yL_shows cL_shows 5 [(0, 10, 13, 15)] 4 := ⟨wd3_96, wd3_97, wd1_0, wd3_98, by decide, by decide, by decide +kernel⟩
theorem lk_L_85 : LkW RL 85 yL_at cL_at 5 [(0, 10, 13, 32)] 4 := ⟨wd3_107, wd3_108, wd1_0, wd3_109, by decide, by decide, by decide +kernel⟩
theorem lk_L_88 : LkW RL 88 yL_parent cL_parent 5 [(0, 10, 13, 15)] 4 := ⟨wd3_135, wd3_136, wd1_0, wd3_137, by decide, by decide, by decide +kernel⟩
theorem lk_L_95 : LkW RL 95 yL_fault cL_fault 5 [(0, 10, 13, 32)] 4 := ⟨wd3_142, wd3_143, wd1_0, wd3_144, by decide, by decide, by decide +kernel⟩
theorem lk_L_98 : LkW RL 98 yL_heading cL_heading 5 [(0, 10, 13, 13), (0, 10, 17, 15)] 4 := ⟨wd3_150, wd3_151, wd1_0, wd3_152, by decide, by decide, by decide +kernel⟩
theorem lk_L_101 : LkW RL 101 yL_words cL_words 5 [(0, 10, 13, 13)] 4 := ⟨wd3_158, wd3_159, wd1_0, wd3_160, by decide, by decide, by decide +kernel⟩
theorem lk_L_105 : LkW RL 105 yL_span cL_span 6 [(0, 12, 15, 13), (0, 12, 19, 15)] 5 := ⟨wd3_165, wd3_166, wd1_0, wd3_167, by decide, by decide, by decide +kernel⟩
theorem lk_L_108 : LkW RL 108 yL_outline cL_outline 5 [(0, 10, 13, 32)] 4 := ⟨wd3_173, wd3_174, wd1_0, wd3_175, by decide, by decide, by decide +kernel⟩
theorem lk_L_111 : LkW RL 111 yL_untagged cL_untagged 4 [(0, 9, 12, 32)] 3 := ⟨wd3_181, wd3_182, wd1_0, wd3_183, by decide, by decide, by decide +kernel⟩
def f_law (N L : Nat) (xs : Nat → Int32) : Nat → Int32 → Sg → Option Int32
  | 0, _, _ => none
  | n + 1, x4, σ => if ((nI L) - 4) < x4 then (some 1) else (rdA L xs x4 (fun v2 => if (v2 &&& 15) = 0 then (rdA L xs (x4 + 1) (fun v217 => rdA L xs (x4 + 2) (fun v218 => cI (f_L_element N v217 v218 σ) (fun v219 σ220 => rdA L xs (x4 + 1) (fun v221 => rdA L xs (x4 + 2) (fun v222 => cI (f_X8_element N v221 v222 σ220) (fun v223 σ224 => cI (f_X8_thrown N σ224) (fun v225 σ226 => if v225 = v219 then (if v219 = 0 then (if (σ226 34 0) = v223 then (lt (x4 + 4) (fun v230 => f_law N L xs n v230 σ226)) else (some 0)) else (lt (x4 + 4) (fun v229 => f_law N L xs n v229 σ226))) else (some 0))))))))) else (if (v2 &&& 15) = 1 then (rdA L xs (x4 + 1) (fun v202 => rdA L xs (x4 + 2) (fun v203 => cI (f_L_map N v202 v203 σ) (fun v204 σ205 => rdA L xs (x4 + 1) (fun v206 => rdA L xs (x4 + 2) (fun v207 => cI (f_X8_map N v206 v207 σ205) (fun v208 σ209 => cI (f_X8_thrown N σ209) (fun v210 σ211 => if v210 = v204 then (if v204 = 0 then (if (σ211 34 0) = v208 then (lt (x4 + 4) (fun v215 => f_law N L xs n v215 σ211)) else (some 0)) else (lt (x4 + 4) (fun v214 => f_law N L xs n v214 σ211))) else (some 0))))))))) else (if (v2 &&& 15) = 2 then (rdA L xs (x4 + 1) (fun v185 => rdA L xs (x4 + 2) (fun v186 => rdA L xs (x4 + 3) (fun v187 => cI (f_L_content N v185 v186 v187 σ) (fun v188 σ189 => rdA L xs (x4 + 1) (fun v190 => rdA L xs (x4 + 2) (fun v191 => rdA L xs (x4 + 3) (fun v192 => cI (f_X8_content N v190 v191 v192 σ189) (fun v193 σ194 => cI (f_X8_thrown N σ194) (fun v195 σ196 => if v195 = v188 then (if v188 = 0 then (if (σ196 34 0) = v193 then (lt (x4 + 4) (fun v200 => f_law N L xs n v200 σ196)) else (some 0)) else (lt (x4 + 4) (fun v199 => f_law N L xs n v199 σ196))) else (some 0))))))))))) else (if (v2 &&& 15) = 3 then (rdA L xs (x4 + 1) (fun v170 => rdA L xs (x4 + 2) (fun v171 => cI (f_L_shows N v170 v171 σ) (fun v172 σ173 => rdA L xs (x4 + 1) (fun v174 => rdA L xs (x4 + 2) (fun v175 => cI (f_X8_shows N v174 v175 σ173) (fun v176 σ177 => cI (f_X8_thrown N σ177) (fun v178 σ179 => if v178 = v172 then (if v172 = 0 then (if (σ179 34 0) = v176 then (lt (x4 + 4) (fun v183 => f_law N L xs n v183 σ179)) else (some 0)) else (lt (x4 + 4) (fun v182 => f_law N L xs n v182 σ179))) else (some 0))))))))) else (if (v2 &&& 15) = 4 then (cI (f_X7_walk N σ) (fun v164 σ165 => cI (f_X8_walk N σ165) (fun v166 σ167 => if v164 = v166 then (lt (x4 + 4) (fun v169 => f_law N L xs n v169 σ167)) else (some 0)))) else (if (v2 &&& 15) = 5 then (rdA L xs (x4 + 1) (fun v149 => rdA L xs (x4 + 2) (fun v150 => cI (f_L_at N v149 v150 σ) (fun v151 σ152 => rdA L xs (x4 + 1) (fun v153 => rdA L xs (x4 + 2) (fun v154 => cI (f_X8_at N v153 v154 σ152) (fun v155 σ156 => cI (f_X8_thrown N σ156) (fun v157 σ158 => if v157 = v151 then (if v151 = 0 then (if (σ158 34 0) = v155 then (lt (x4 + 4) (fun v162 => f_law N L xs n v162 σ158)) else (some 0)) else (lt (x4 + 4) (fun v161 => f_law N L xs n v161 σ158))) else (some 0))))))))) else (if (v2 &&& 15) = 6 then (rdA L xs (x4 + 1) (fun v134 => rdA L xs (x4 + 2) (fun v135 => cI (f_L_parent N v134 v135 σ) (fun v136 σ137 => rdA L xs (x4 + 1) (fun v138 => rdA L xs (x4 + 2) (fun v139 => cI (f_X8_parent N v138 v139 σ137) (fun v140 σ141 => cI (f_X8_thrown N σ141) (fun v142 σ143 => if v142 = v136 then (if v136 = 0 then (if (σ143 34 0) = v140 then (lt (x4 + 4) (fun v147 => f_law N L xs n v147 σ143)) else (some 0)) else (lt (x4 + 4) (fun v146 => f_law N L xs n v146 σ143))) else (some 0))))))))) else (if (v2 &&& 15) = 7 then (cI (f_X7_check N σ) (fun v128 σ129 => cI (f_X8_check N σ129) (fun v130 σ131 => if v128 = v130 then (lt (x4 + 4) (fun v133 => f_law N L xs n v133 σ131)) else (some 0)))) else (if (v2 &&& 15) = 8 then (rdA L xs (x4 + 1) (fun v113 => rdA L xs (x4 + 2) (fun v114 => cI (f_L_fault N v113 v114 σ) (fun v115 σ116 => rdA L xs (x4 + 1) (fun v117 => rdA L xs (x4 + 2) (fun v118 => cI (f_X8_fault N v117 v118 σ116) (fun v119 σ120 => cI (f_X8_thrown N σ120) (fun v121 σ122 => if v121 = v115 then (if v115 = 0 then (if (σ122 34 0) = v119 then (lt (x4 + 4) (fun v126 => f_law N L xs n v126 σ122)) else (some 0)) else (lt (x4 + 4) (fun v125 => f_law N L xs n v125 σ122))) else (some 0))))))))) else (if (v2 &&& 15) = 9 then (rdA L xs (x4 + 1) (fun v98 => rdA L xs (x4 + 2) (fun v99 => cI (f_L_heading N v98 v99 σ) (fun v100 σ101 => rdA L xs (x4 + 1) (fun v102 => rdA L xs (x4 + 2) (fun v103 => cI (f_X8_heading N v102 v103 σ101) (fun v104 σ105 => cI (f_X8_thrown N σ105) (fun v106 σ107 => if v106 = v100 then (if v100 = 0 then (if (σ107 34 0) = v104 then (lt (x4 + 4) (fun v111 => f_law N L xs n v111 σ107)) else (some 0)) else (lt (x4 + 4) (fun v110 => f_law N L xs n v110 σ107))) else (some 0))))))))) else (if (v2 &&& 15) = 10 then (rdA L xs (x4 + 1) (fun v49 => rdA L xs (x4 + 2) (fun v50 => if v50 = 0 then (cI (f_L_words N v49 0 σ) (fun v52 σ53 => rdA L xs (x4 + 1) (fun v54 => rdA L xs (x4 + 2) (fun v55 => if v55 = 0 then (cI (f_X8_words N v54 0 σ53) (fun v57 σ58 => cI (f_X8_thrown N σ58) (fun v59 σ60 => if v59 = v52 then (if v52 = 0 then (if (σ60 34 0) = v57 then (lt (x4 + 4) (fun v64 => f_law N L xs n v64 σ60)) else (some 0)) else (lt (x4 + 4) (fun v63 => f_law N L xs n v63 σ60))) else (some 0)))) else (cI (f_X8_words N v54 1 σ53) (fun v66 σ67 => cI (f_X8_thrown N σ67) (fun v68 σ69 => if v68 = v52 then (if v52 = 0 then (if (σ69 34 0) = v66 then (lt (x4 + 4) (fun v73 => f_law N L xs n v73 σ69)) else (some 0)) else (lt (x4 + 4) (fun v72 => f_law N L xs n v72 σ69))) else (some 0)))))))) else (cI (f_L_words N v49 1 σ) (fun v75 σ76 => rdA L xs (x4 + 1) (fun v77 => rdA L xs (x4 + 2) (fun v78 => if v78 = 0 then (cI (f_X8_words N v77 0 σ76) (fun v80 σ81 => cI (f_X8_thrown N σ81) (fun v82 σ83 => if v82 = v75 then (if v75 = 0 then (if (σ83 34 0) = v80 then (lt (x4 + 4) (fun v87 => f_law N L xs n v87 σ83)) else (some 0)) else (lt (x4 + 4) (fun v86 => f_law N L xs n v86 σ83))) else (some 0)))) else (cI (f_X8_words N v77 1 σ76) (fun v89 σ90 => cI (f_X8_thrown N σ90) (fun v91 σ92 => if v91 = v75 then (if v75 = 0 then (if (σ92 34 0) = v89 then (lt (x4 + 4) (fun v96 => f_law N L xs n v96 σ92)) else (some 0)) else (lt (x4 + 4) (fun v95 => f_law N L xs n v95 σ92))) else (some 0))))))))))) else (if (v2 &&& 15) = 11 then (rdA L xs (x4 + 1) (fun v32 => rdA L xs (x4 + 2) (fun v33 => rdA L xs (x4 + 3) (fun v34 => cI (f_L_span N v32 v33 v34 σ) (fun v35 σ36 => rdA L xs (x4 + 1) (fun v37 => rdA L xs (x4 + 2) (fun v38 => rdA L xs (x4 + 3) (fun v39 => cI (f_X8_span N v37 v38 v39 σ36) (fun v40 σ41 => cI (f_X8_thrown N σ41) (fun v42 σ43 => if v42 = v35 then (if v35 = 0 then (if (σ43 34 0) = v40 then (lt (x4 + 4) (fun v47 => f_law N L xs n v47 σ43)) else (some 0)) else (lt (x4 + 4) (fun v46 => f_law N L xs n v46 σ43))) else (some 0))))))))))) else (if (v2 &&& 15) = 12 then (rdA L xs (x4 + 1) (fun v17 => rdA L xs (x4 + 2) (fun v18 => cI (f_L_outline N v17 v18 σ) (fun v19 σ20 => rdA L xs (x4 + 1) (fun v21 => rdA L xs (x4 + 2) (fun v22 => cI (f_X8_outline N v21 v22 σ20) (fun v23 σ24 => cI (f_X8_thrown N σ24) (fun v25 σ26 => if v25 = v19 then (if v19 = 0 then (if (σ26 34 0) = v23 then (lt (x4 + 4) (fun v30 => f_law N L xs n v30 σ26)) else (some 0)) else (lt (x4 + 4) (fun v29 => f_law N L xs n v29 σ26))) else (some 0))))))))) else (if (v2 &&& 15) = 13 then (rdA L xs (x4 + 1) (fun v4 => cI (f_L_untagged N v4 σ) (fun v5 σ6 => rdA L xs (x4 + 1) (fun v7 => cI (f_X8_untagged N v7 σ6) (fun v8 σ9 => cI (f_X8_thrown N σ9) (fun v10 σ11 => if v10 = v5 then (if v5 = 0 then (if (σ11 34 0) = v8 then (lt (x4 + 4) (fun v15 => f_law N L xs n v15 σ11)) else (some 0)) else (lt (x4 + 4) (fun v14 => f_law N L xs n v14 σ11))) else (some 0))))))) else (lt (x4 + 4) (fun v3 => f_law N L xs n v3 σ)))))))))))))))))
set_option maxHeartbeats 8000000 in
set_option maxRecDepth 100000 in
theorem w_law {z : Cz} (X : Cx z cL_law 7 RL) (hR : 9 ≤ (zR z).frames ∧ 175 ≤ (zR z).locals) {b L : Nat} {xs : Nat → Int32} (S : Scr z b L xs) (hL : L ≤ 2048) (hz : z0 z = 57 ∧ z1 z = 8921 ∧ 1094 ≤ (zR z).cells ∧ 17191 ≤ (zR z).slots) (Rt : RtL z) (N : Nat) : ∀ (n t : Nat) (x4 : Int32) (σ : Sg), x4 = nI (4 * t) → t ≤ 512 → f_law N L xs n x4 σ = some 1 → V z t 7 23 [(0, .ref b), (1, .ref (zA z 0)), (2, .ref (zA z 35)), (3, .ref (zA z 34)), (4, .int x4)] [] σ := by
  obtain ⟨hz0, hz1, hzc, hzs⟩ := hz
  intro n
  induction n with
  | zero =>
    intro t x4 σ ei ht h
    rw [f_law] at h
    cases h
  | succ n ih =>
    intro t x4 σ ei ht h
    rw [f_law] at h
    refine r_iload X dL_law_23 4 rfl ?_
    refine r_aload_n X dL_law_25 rfl 0 rfl ?_
    refine r_slen X S dL_law_26 ?_
    refine r_iconst X 4 dL_law_27 (by decide) ?_
    refine r_isub X dL_law_28 ?_
    refine r_icmp_gt X 984 dL_law_29 (by decide) h (fun g1 h => ?_) (fun g1 h => ?_)
    · refine r_iconst X 1 dL_law_984 (by decide) ?_
      exact Rt _ _ _ _ ht dL_law_985
    · have hi := law_i hL ht (by rw [← ei]; exact g1)
      have hk : z0 z + (t + 1) ≤ (zR z).cells ∧ z1 z + 6 * (t + 1) ≤ (zR z).slots := ⟨by omega, by omega⟩
      refine r_aload_n X dL_law_32 rfl 0 rfl ?_
      refine r_iload X dL_law_33 4 rfl ?_
      refine r_sld X S dL_law_35 h (fun v2 h => ?_)
      refine r_bipush X 15 dL_law_36 (by decide) ?_
      refine r_iand X dL_law_38 ?_
      by_cases gs0 : (v2 &&& 15) = 0
      · rw [if_pos gs0] at h
        refine sw_in X 0 108 69 gs0 (by decide) rfl (by decide) ?_
        refine r_aload_n X dL_law_108 rfl 1 rfl ?_
        refine r_aload_n X dL_law_109 rfl 0 rfl ?_
        refine r_iload X dL_law_110 4 rfl ?_
        refine r_iconst X 1 dL_law_112 (by decide) ?_
        refine r_iadd X dL_law_113 ?_
        refine r_sld X S dL_law_114 h (fun v217 h => ?_)
        refine r_aload_n X dL_law_115 rfl 0 rfl ?_
        refine r_iload X dL_law_116 4 rfl ?_
        refine r_iconst X 2 dL_law_118 (by decide) ?_
        refine r_iadd X dL_law_119 ?_
        refine r_sld X S dL_law_120 h (fun v218 h => ?_)
        refine r_aload_n X dL_law_121 rfl 3 rfl ?_
        refine r_callW X hk lk_L_61 (c_L_element (zl z) X.2.2.2.2.2.2.2.1 N (zD z) (zy z) (zA z) (zS z) v217 v218 σ) ⟨Nat.le_trans (by decide) hR.1, Nat.le_trans (by decide) hR.2⟩ rfl rfl (Nat.le_of_ble_eq_true rfl) dL_law_122 h (fun v219 σ220 h => ?_)
        refine r_istore X [(5, .int v219), (0, .ref b), (1, .ref (zA z 0)), (2, .ref (zA z 35)), (3, .ref (zA z 34)), (4, .int x4)] dL_law_125 (by decide) rfl ?_
        refine r_aload_n X dL_law_127 rfl 3 rfl ?_
        refine r_aload_n X dL_law_128 rfl 1 rfl ?_
        refine r_iload X dL_law_129 5 rfl ?_
        refine r_iconst X 1 dL_law_131 (by decide) ?_
        refine r_iadd X dL_law_132 ?_
        refine r_sld X S dL_law_133 h (fun v221 h => ?_)
        refine r_aload_n X dL_law_134 rfl 1 rfl ?_
        refine r_iload X dL_law_135 5 rfl ?_
        refine r_iconst X 2 dL_law_137 (by decide) ?_
        refine r_iadd X dL_law_138 ?_
        refine r_sld X S dL_law_139 h (fun v222 h => ?_)
        refine r_callV X 35 8 (by decide) rfl rfl rfl lk_L_66 (c_X8_element (zl z) X.2.2.2.2.2.2.2.1 N (zD z) (zy z) (zA z) (zS z) v221 v222 σ220) ⟨Nat.le_trans (by decide) hR.1, Nat.le_trans (by decide) hR.2⟩ rfl rfl (Nat.le_of_ble_eq_true rfl) dL_law_140 h (fun v223 σ224 h => ?_)
        refine r_istore X [(6, .int v223), (5, .int v219), (0, .ref b), (1, .ref (zA z 0)), (2, .ref (zA z 35)), (3, .ref (zA z 34)), (4, .int x4)] dL_law_143 (by decide) rfl ?_
        refine r_aload_n X dL_law_145 rfl 4 rfl ?_
        refine r_callV X 35 8 (by decide) rfl rfl rfl lk_L_67 (c_X8_thrown (zl z) X.2.2.2.2.2.2.2.1 N (zD z) (zy z) (zA z) (zS z) σ224) ⟨Nat.le_trans (by decide) hR.1, Nat.le_trans (by decide) hR.2⟩ rfl rfl (Nat.le_of_ble_eq_true rfl) dL_law_146 h (fun v225 σ226 h => ?_)
        refine r_iload X dL_law_149 1 rfl ?_
        refine r_icmp_eq X 156 dL_law_151 (by decide) h (fun g227 h => ?_) (fun g227 h => ?_)
        · refine r_iload X dL_law_156 1 rfl ?_
          refine r_if_ne X 173 dL_law_158 (by decide) h (fun g228 h => ?_) (fun g228 h => ?_)
          · refine r_aload_n X dL_law_161 rfl 5 rfl ?_
            refine r_iconst X 0 dL_law_162 (by decide) ?_
            refine r_lald X dL_law_163 ?_
            refine r_iload X dL_law_164 0 rfl ?_
            refine r_i2l X dL_law_166 ?_
            refine r_lcmp X 173 dL_law_167 dL_law_168 (by decide) h (fun g231 h => ?_) (fun g231 h => ?_)
            · refine r_goto X 978 dL_law_173 (by decide) ?_
              refine r_iincE X 4 (fun v230 => [(4, .int v230), (6, .int v223), (5, .int v219), (0, .ref b), (1, .ref (zA z 0)), (2, .ref (zA z 35)), (3, .ref (zA z 34))]) dL_law_978 6 rfl (by decide) (by decide) (fun _ => rfl) h (fun v230 ev h => ?_)
              refine r_goto X 23 dL_law_981 (by decide) ?_
              refine r_sub [3, 4, 5, 6, 0] rfl ?_
              exact ih (t + 1) v230 σ226 (by rw [ev, ei]; exact nI_add (4 * t) 4) hi.1 h
            · refine r_iconst X 0 dL_law_171 (by decide) ?_
              cases h
          · refine r_goto X 978 dL_law_173 (by decide) ?_
            refine r_iincE X 4 (fun v229 => [(4, .int v229), (6, .int v223), (5, .int v219), (0, .ref b), (1, .ref (zA z 0)), (2, .ref (zA z 35)), (3, .ref (zA z 34))]) dL_law_978 6 rfl (by decide) (by decide) (fun _ => rfl) h (fun v229 ev h => ?_)
            refine r_goto X 23 dL_law_981 (by decide) ?_
            refine r_sub [3, 4, 5, 6, 0] rfl ?_
            exact ih (t + 1) v229 σ226 (by rw [ev, ei]; exact nI_add (4 * t) 4) hi.1 h
        · refine r_iconst X 0 dL_law_154 (by decide) ?_
          cases h
      · rw [if_neg gs0] at h
        by_cases gs1 : (v2 &&& 15) = 1
        · rw [if_pos gs1] at h
          refine sw_in X 1 176 137 gs1 (by decide) rfl (by decide) ?_
          refine r_aload_n X dL_law_176 rfl 1 rfl ?_
          refine r_aload_n X dL_law_177 rfl 0 rfl ?_
          refine r_iload X dL_law_178 4 rfl ?_
          refine r_iconst X 1 dL_law_180 (by decide) ?_
          refine r_iadd X dL_law_181 ?_
          refine r_sld X S dL_law_182 h (fun v202 h => ?_)
          refine r_aload_n X dL_law_183 rfl 0 rfl ?_
          refine r_iload X dL_law_184 4 rfl ?_
          refine r_iconst X 2 dL_law_186 (by decide) ?_
          refine r_iadd X dL_law_187 ?_
          refine r_sld X S dL_law_188 h (fun v203 h => ?_)
          refine r_aload_n X dL_law_189 rfl 3 rfl ?_
          refine r_callW X hk lk_L_71 (c_L_map (zl z) X.2.2.2.2.2.2.2.1 N (zD z) (zy z) (zA z) (zS z) v202 v203 σ) ⟨Nat.le_trans (by decide) hR.1, Nat.le_trans (by decide) hR.2⟩ rfl rfl (Nat.le_of_ble_eq_true rfl) dL_law_190 h (fun v204 σ205 h => ?_)
          refine r_istore X [(5, .int v204), (0, .ref b), (1, .ref (zA z 0)), (2, .ref (zA z 35)), (3, .ref (zA z 34)), (4, .int x4)] dL_law_193 (by decide) rfl ?_
          refine r_aload_n X dL_law_195 rfl 3 rfl ?_
          refine r_aload_n X dL_law_196 rfl 1 rfl ?_
          refine r_iload X dL_law_197 5 rfl ?_
          refine r_iconst X 1 dL_law_199 (by decide) ?_
          refine r_iadd X dL_law_200 ?_
          refine r_sld X S dL_law_201 h (fun v206 h => ?_)
          refine r_aload_n X dL_law_202 rfl 1 rfl ?_
          refine r_iload X dL_law_203 5 rfl ?_
          refine r_iconst X 2 dL_law_205 (by decide) ?_
          refine r_iadd X dL_law_206 ?_
          refine r_sld X S dL_law_207 h (fun v207 h => ?_)
          refine r_callV X 35 8 (by decide) rfl rfl rfl lk_L_73 (c_X8_map (zl z) X.2.2.2.2.2.2.2.1 N (zD z) (zy z) (zA z) (zS z) v206 v207 σ205) ⟨Nat.le_trans (by decide) hR.1, Nat.le_trans (by decide) hR.2⟩ rfl rfl (Nat.le_of_ble_eq_true rfl) dL_law_208 h (fun v208 σ209 h => ?_)
          refine r_istore X [(6, .int v208), (5, .int v204), (0, .ref b), (1, .ref (zA z 0)), (2, .ref (zA z 35)), (3, .ref (zA z 34)), (4, .int x4)] dL_law_211 (by decide) rfl ?_
          refine r_aload_n X dL_law_213 rfl 4 rfl ?_
          refine r_callV X 35 8 (by decide) rfl rfl rfl lk_L_67 (c_X8_thrown (zl z) X.2.2.2.2.2.2.2.1 N (zD z) (zy z) (zA z) (zS z) σ209) ⟨Nat.le_trans (by decide) hR.1, Nat.le_trans (by decide) hR.2⟩ rfl rfl (Nat.le_of_ble_eq_true rfl) dL_law_214 h (fun v210 σ211 h => ?_)
          refine r_iload X dL_law_217 1 rfl ?_
          refine r_icmp_eq X 224 dL_law_219 (by decide) h (fun g212 h => ?_) (fun g212 h => ?_)
          · refine r_iload X dL_law_224 1 rfl ?_
            refine r_if_ne X 241 dL_law_226 (by decide) h (fun g213 h => ?_) (fun g213 h => ?_)
            · refine r_aload_n X dL_law_229 rfl 5 rfl ?_
              refine r_iconst X 0 dL_law_230 (by decide) ?_
              refine r_lald X dL_law_231 ?_
              refine r_iload X dL_law_232 0 rfl ?_
              refine r_i2l X dL_law_234 ?_
              refine r_lcmp X 241 dL_law_235 dL_law_236 (by decide) h (fun g216 h => ?_) (fun g216 h => ?_)
              · refine r_goto X 978 dL_law_241 (by decide) ?_
                refine r_iincE X 4 (fun v215 => [(4, .int v215), (6, .int v208), (5, .int v204), (0, .ref b), (1, .ref (zA z 0)), (2, .ref (zA z 35)), (3, .ref (zA z 34))]) dL_law_978 6 rfl (by decide) (by decide) (fun _ => rfl) h (fun v215 ev h => ?_)
                refine r_goto X 23 dL_law_981 (by decide) ?_
                refine r_sub [3, 4, 5, 6, 0] rfl ?_
                exact ih (t + 1) v215 σ211 (by rw [ev, ei]; exact nI_add (4 * t) 4) hi.1 h
              · refine r_iconst X 0 dL_law_239 (by decide) ?_
                cases h
            · refine r_goto X 978 dL_law_241 (by decide) ?_
              refine r_iincE X 4 (fun v214 => [(4, .int v214), (6, .int v208), (5, .int v204), (0, .ref b), (1, .ref (zA z 0)), (2, .ref (zA z 35)), (3, .ref (zA z 34))]) dL_law_978 6 rfl (by decide) (by decide) (fun _ => rfl) h (fun v214 ev h => ?_)
              refine r_goto X 23 dL_law_981 (by decide) ?_
              refine r_sub [3, 4, 5, 6, 0] rfl ?_
              exact ih (t + 1) v214 σ211 (by rw [ev, ei]; exact nI_add (4 * t) 4) hi.1 h
          · refine r_iconst X 0 dL_law_222 (by decide) ?_
            cases h
        · rw [if_neg gs1] at h
          by_cases gs2 : (v2 &&& 15) = 2
          · rw [if_pos gs2] at h
            refine sw_in X 2 244 205 gs2 (by decide) rfl (by decide) ?_
            refine r_aload_n X dL_law_244 rfl 1 rfl ?_
            refine r_aload_n X dL_law_245 rfl 0 rfl ?_
            refine r_iload X dL_law_246 4 rfl ?_
            refine r_iconst X 1 dL_law_248 (by decide) ?_
            refine r_iadd X dL_law_249 ?_
            refine r_sld X S dL_law_250 h (fun v185 h => ?_)
            refine r_aload_n X dL_law_251 rfl 0 rfl ?_
            refine r_iload X dL_law_252 4 rfl ?_
            refine r_iconst X 2 dL_law_254 (by decide) ?_
            refine r_iadd X dL_law_255 ?_
            refine r_sld X S dL_law_256 h (fun v186 h => ?_)
            refine r_aload_n X dL_law_257 rfl 0 rfl ?_
            refine r_iload X dL_law_258 4 rfl ?_
            refine r_iconst X 3 dL_law_260 (by decide) ?_
            refine r_iadd X dL_law_261 ?_
            refine r_sld X S dL_law_262 h (fun v187 h => ?_)
            refine r_aload_n X dL_law_263 rfl 3 rfl ?_
            refine r_callW X hk lk_L_74 (c_L_content (zl z) X.2.2.2.2.2.2.2.1 N (zD z) (zy z) (zA z) (zS z) v185 v186 v187 σ) ⟨Nat.le_trans (by decide) hR.1, Nat.le_trans (by decide) hR.2⟩ rfl rfl (Nat.le_of_ble_eq_true rfl) dL_law_264 h (fun v188 σ189 h => ?_)
            refine r_istore X [(5, .int v188), (0, .ref b), (1, .ref (zA z 0)), (2, .ref (zA z 35)), (3, .ref (zA z 34)), (4, .int x4)] dL_law_267 (by decide) rfl ?_
            refine r_aload_n X dL_law_269 rfl 3 rfl ?_
            refine r_aload_n X dL_law_270 rfl 1 rfl ?_
            refine r_iload X dL_law_271 5 rfl ?_
            refine r_iconst X 1 dL_law_273 (by decide) ?_
            refine r_iadd X dL_law_274 ?_
            refine r_sld X S dL_law_275 h (fun v190 h => ?_)
            refine r_aload_n X dL_law_276 rfl 1 rfl ?_
            refine r_iload X dL_law_277 5 rfl ?_
            refine r_iconst X 2 dL_law_279 (by decide) ?_
            refine r_iadd X dL_law_280 ?_
            refine r_sld X S dL_law_281 h (fun v191 h => ?_)
            refine r_aload_n X dL_law_282 rfl 1 rfl ?_
            refine r_iload X dL_law_283 5 rfl ?_
            refine r_iconst X 3 dL_law_285 (by decide) ?_
            refine r_iadd X dL_law_286 ?_
            refine r_sld X S dL_law_287 h (fun v192 h => ?_)
            refine r_callV X 35 8 (by decide) rfl rfl rfl lk_L_77 (c_X8_content (zl z) X.2.2.2.2.2.2.2.1 N (zD z) (zy z) (zA z) (zS z) v190 v191 v192 σ189) ⟨Nat.le_trans (by decide) hR.1, Nat.le_trans (by decide) hR.2⟩ rfl rfl (Nat.le_of_ble_eq_true rfl) dL_law_288 h (fun v193 σ194 h => ?_)
            refine r_istore X [(6, .int v193), (5, .int v188), (0, .ref b), (1, .ref (zA z 0)), (2, .ref (zA z 35)), (3, .ref (zA z 34)), (4, .int x4)] dL_law_291 (by decide) rfl ?_
            refine r_aload_n X dL_law_293 rfl 4 rfl ?_
            refine r_callV X 35 8 (by decide) rfl rfl rfl lk_L_67 (c_X8_thrown (zl z) X.2.2.2.2.2.2.2.1 N (zD z) (zy z) (zA z) (zS z) σ194) ⟨Nat.le_trans (by decide) hR.1, Nat.le_trans (by decide) hR.2⟩ rfl rfl (Nat.le_of_ble_eq_true rfl) dL_law_294 h (fun v195 σ196 h => ?_)
            refine r_iload X dL_law_297 1 rfl ?_
            refine r_icmp_eq X 304 dL_law_299 (by decide) h (fun g197 h => ?_) (fun g197 h => ?_)
            · refine r_iload X dL_law_304 1 rfl ?_
              refine r_if_ne X 321 dL_law_306 (by decide) h (fun g198 h => ?_) (fun g198 h => ?_)
              · refine r_aload_n X dL_law_309 rfl 5 rfl ?_
                refine r_iconst X 0 dL_law_310 (by decide) ?_
                refine r_lald X dL_law_311 ?_
                refine r_iload X dL_law_312 0 rfl ?_
                refine r_i2l X dL_law_314 ?_
                refine r_lcmp X 321 dL_law_315 dL_law_316 (by decide) h (fun g201 h => ?_) (fun g201 h => ?_)
                · refine r_goto X 978 dL_law_321 (by decide) ?_
                  refine r_iincE X 4 (fun v200 => [(4, .int v200), (6, .int v193), (5, .int v188), (0, .ref b), (1, .ref (zA z 0)), (2, .ref (zA z 35)), (3, .ref (zA z 34))]) dL_law_978 6 rfl (by decide) (by decide) (fun _ => rfl) h (fun v200 ev h => ?_)
                  refine r_goto X 23 dL_law_981 (by decide) ?_
                  refine r_sub [3, 4, 5, 6, 0] rfl ?_
                  exact ih (t + 1) v200 σ196 (by rw [ev, ei]; exact nI_add (4 * t) 4) hi.1 h
                · refine r_iconst X 0 dL_law_319 (by decide) ?_
                  cases h
              · refine r_goto X 978 dL_law_321 (by decide) ?_
                refine r_iincE X 4 (fun v199 => [(4, .int v199), (6, .int v193), (5, .int v188), (0, .ref b), (1, .ref (zA z 0)), (2, .ref (zA z 35)), (3, .ref (zA z 34))]) dL_law_978 6 rfl (by decide) (by decide) (fun _ => rfl) h (fun v199 ev h => ?_)
                refine r_goto X 23 dL_law_981 (by decide) ?_
                refine r_sub [3, 4, 5, 6, 0] rfl ?_
                exact ih (t + 1) v199 σ196 (by rw [ev, ei]; exact nI_add (4 * t) 4) hi.1 h
            · refine r_iconst X 0 dL_law_302 (by decide) ?_
              cases h
          · rw [if_neg gs2] at h
            by_cases gs3 : (v2 &&& 15) = 3
            · rw [if_pos gs3] at h
              refine sw_in X 3 324 285 gs3 (by decide) rfl (by decide) ?_
              refine r_aload_n X dL_law_324 rfl 1 rfl ?_
              refine r_aload_n X dL_law_325 rfl 0 rfl ?_
              refine r_iload X dL_law_326 4 rfl ?_
              refine r_iconst X 1 dL_law_328 (by decide) ?_
              refine r_iadd X dL_law_329 ?_
              refine r_sld X S dL_law_330 h (fun v170 h => ?_)
              refine r_aload_n X dL_law_331 rfl 0 rfl ?_
              refine r_iload X dL_law_332 4 rfl ?_
              refine r_iconst X 2 dL_law_334 (by decide) ?_
              refine r_iadd X dL_law_335 ?_
              refine r_sld X S dL_law_336 h (fun v171 h => ?_)
              refine r_aload_n X dL_law_337 rfl 3 rfl ?_
              refine r_callW X hk lk_L_78 (c_L_shows (zl z) X.2.2.2.2.2.2.2.1 N (zD z) (zy z) (zA z) (zS z) v170 v171 σ) ⟨Nat.le_trans (by decide) hR.1, Nat.le_trans (by decide) hR.2⟩ rfl rfl (Nat.le_of_ble_eq_true rfl) dL_law_338 h (fun v172 σ173 h => ?_)
              refine r_istore X [(5, .int v172), (0, .ref b), (1, .ref (zA z 0)), (2, .ref (zA z 35)), (3, .ref (zA z 34)), (4, .int x4)] dL_law_341 (by decide) rfl ?_
              refine r_aload_n X dL_law_343 rfl 3 rfl ?_
              refine r_aload_n X dL_law_344 rfl 1 rfl ?_
              refine r_iload X dL_law_345 5 rfl ?_
              refine r_iconst X 1 dL_law_347 (by decide) ?_
              refine r_iadd X dL_law_348 ?_
              refine r_sld X S dL_law_349 h (fun v174 h => ?_)
              refine r_aload_n X dL_law_350 rfl 1 rfl ?_
              refine r_iload X dL_law_351 5 rfl ?_
              refine r_iconst X 2 dL_law_353 (by decide) ?_
              refine r_iadd X dL_law_354 ?_
              refine r_sld X S dL_law_355 h (fun v175 h => ?_)
              refine r_callV X 35 8 (by decide) rfl rfl rfl lk_L_80 (c_X8_shows (zl z) X.2.2.2.2.2.2.2.1 N (zD z) (zy z) (zA z) (zS z) v174 v175 σ173) ⟨Nat.le_trans (by decide) hR.1, Nat.le_trans (by decide) hR.2⟩ rfl rfl (Nat.le_of_ble_eq_true rfl) dL_law_356 h (fun v176 σ177 h => ?_)
              refine r_istore X [(6, .int v176), (5, .int v172), (0, .ref b), (1, .ref (zA z 0)), (2, .ref (zA z 35)), (3, .ref (zA z 34)), (4, .int x4)] dL_law_359 (by decide) rfl ?_
              refine r_aload_n X dL_law_361 rfl 4 rfl ?_
              refine r_callV X 35 8 (by decide) rfl rfl rfl lk_L_67 (c_X8_thrown (zl z) X.2.2.2.2.2.2.2.1 N (zD z) (zy z) (zA z) (zS z) σ177) ⟨Nat.le_trans (by decide) hR.1, Nat.le_trans (by decide) hR.2⟩ rfl rfl (Nat.le_of_ble_eq_true rfl) dL_law_362 h (fun v178 σ179 h => ?_)
              refine r_iload X dL_law_365 1 rfl ?_
              refine r_icmp_eq X 372 dL_law_367 (by decide) h (fun g180 h => ?_) (fun g180 h => ?_)
              · refine r_iload X dL_law_372 1 rfl ?_
                refine r_if_ne X 389 dL_law_374 (by decide) h (fun g181 h => ?_) (fun g181 h => ?_)
                · refine r_aload_n X dL_law_377 rfl 5 rfl ?_
                  refine r_iconst X 0 dL_law_378 (by decide) ?_
                  refine r_lald X dL_law_379 ?_
                  refine r_iload X dL_law_380 0 rfl ?_
                  refine r_i2l X dL_law_382 ?_
                  refine r_lcmp X 389 dL_law_383 dL_law_384 (by decide) h (fun g184 h => ?_) (fun g184 h => ?_)
                  · refine r_goto X 978 dL_law_389 (by decide) ?_
                    refine r_iincE X 4 (fun v183 => [(4, .int v183), (6, .int v176), (5, .int v172), (0, .ref b), (1, .ref (zA z 0)), (2, .ref (zA z 35)), (3, .ref (zA z 34))]) dL_law_978 6 rfl (by decide) (by decide) (fun _ => rfl) h (fun v183 ev h => ?_)
                    refine r_goto X 23 dL_law_981 (by decide) ?_
                    refine r_sub [3, 4, 5, 6, 0] rfl ?_
                    exact ih (t + 1) v183 σ179 (by rw [ev, ei]; exact nI_add (4 * t) 4) hi.1 h
                  · refine r_iconst X 0 dL_law_387 (by decide) ?_
                    cases h
                · refine r_goto X 978 dL_law_389 (by decide) ?_
                  refine r_iincE X 4 (fun v182 => [(4, .int v182), (6, .int v176), (5, .int v172), (0, .ref b), (1, .ref (zA z 0)), (2, .ref (zA z 35)), (3, .ref (zA z 34))]) dL_law_978 6 rfl (by decide) (by decide) (fun _ => rfl) h (fun v182 ev h => ?_)
                  refine r_goto X 23 dL_law_981 (by decide) ?_
                  refine r_sub [3, 4, 5, 6, 0] rfl ?_
                  exact ih (t + 1) v182 σ179 (by rw [ev, ei]; exact nI_add (4 * t) 4) hi.1 h
              · refine r_iconst X 0 dL_law_370 (by decide) ?_
                cases h
            · rw [if_neg gs3] at h
              by_cases gs4 : (v2 &&& 15) = 4
              · rw [if_pos gs4] at h
                refine sw_in X 4 392 353 gs4 (by decide) rfl (by decide) ?_
                refine r_aload_n X dL_law_392 rfl 1 rfl ?_
                refine r_callV X 0 7 (by decide) rfl rfl rfl lk_L_81 (c_X7_walk (zl z) X.2.2.2.2.2.2.2.1 N (zD z) (zy z) (zA z) (zS z) σ) ⟨Nat.le_trans (by decide) hR.1, Nat.le_trans (by decide) hR.2⟩ rfl rfl (Nat.le_of_ble_eq_true rfl) dL_law_393 h (fun v164 σ165 h => ?_)
                refine r_aload_n X dL_law_396 rfl 2 rfl ?_
                refine r_callV X 35 8 (by decide) rfl rfl rfl lk_L_84 (c_X8_walk (zl z) X.2.2.2.2.2.2.2.1 N (zD z) (zy z) (zA z) (zS z) σ165) ⟨Nat.le_trans (by decide) hR.1, Nat.le_trans (by decide) hR.2⟩ rfl rfl (Nat.le_of_ble_eq_true rfl) dL_law_397 h (fun v166 σ167 h => ?_)
                refine r_icmp_eq X 978 dL_law_400 (by decide) h (fun g168 h => ?_) (fun g168 h => ?_)
                · refine r_kup hk ?_
                  refine r_iincE X 4 (fun v169 => [(4, .int v169), (0, .ref b), (1, .ref (zA z 0)), (2, .ref (zA z 35)), (3, .ref (zA z 34))]) dL_law_978 4 rfl (by decide) (by decide) (fun _ => rfl) h (fun v169 ev h => ?_)
                  refine r_goto X 23 dL_law_981 (by decide) ?_
                  refine r_sub [1, 2, 3, 4, 0] rfl ?_
                  exact ih (t + 1) v169 σ167 (by rw [ev, ei]; exact nI_add (4 * t) 4) hi.1 h
                · refine r_iconst X 0 dL_law_403 (by decide) ?_
                  cases h
              · rw [if_neg gs4] at h
                by_cases gs5 : (v2 &&& 15) = 5
                · rw [if_pos gs5] at h
                  refine sw_in X 5 405 366 gs5 (by decide) rfl (by decide) ?_
                  refine r_aload_n X dL_law_405 rfl 1 rfl ?_
                  refine r_aload_n X dL_law_406 rfl 0 rfl ?_
                  refine r_iload X dL_law_407 4 rfl ?_
                  refine r_iconst X 1 dL_law_409 (by decide) ?_
                  refine r_iadd X dL_law_410 ?_
                  refine r_sld X S dL_law_411 h (fun v149 h => ?_)
                  refine r_aload_n X dL_law_412 rfl 0 rfl ?_
                  refine r_iload X dL_law_413 4 rfl ?_
                  refine r_iconst X 2 dL_law_415 (by decide) ?_
                  refine r_iadd X dL_law_416 ?_
                  refine r_sld X S dL_law_417 h (fun v150 h => ?_)
                  refine r_aload_n X dL_law_418 rfl 3 rfl ?_
                  refine r_callW X hk lk_L_85 (c_L_at (zl z) X.2.2.2.2.2.2.2.1 N (zD z) (zy z) (zA z) (zS z) v149 v150 σ) ⟨Nat.le_trans (by decide) hR.1, Nat.le_trans (by decide) hR.2⟩ rfl rfl (Nat.le_of_ble_eq_true rfl) dL_law_419 h (fun v151 σ152 h => ?_)
                  refine r_istore X [(5, .int v151), (0, .ref b), (1, .ref (zA z 0)), (2, .ref (zA z 35)), (3, .ref (zA z 34)), (4, .int x4)] dL_law_422 (by decide) rfl ?_
                  refine r_aload_n X dL_law_424 rfl 3 rfl ?_
                  refine r_aload_n X dL_law_425 rfl 1 rfl ?_
                  refine r_iload X dL_law_426 5 rfl ?_
                  refine r_iconst X 1 dL_law_428 (by decide) ?_
                  refine r_iadd X dL_law_429 ?_
                  refine r_sld X S dL_law_430 h (fun v153 h => ?_)
                  refine r_aload_n X dL_law_431 rfl 1 rfl ?_
                  refine r_iload X dL_law_432 5 rfl ?_
                  refine r_iconst X 2 dL_law_434 (by decide) ?_
                  refine r_iadd X dL_law_435 ?_
                  refine r_sld X S dL_law_436 h (fun v154 h => ?_)
                  refine r_callV X 35 8 (by decide) rfl rfl rfl lk_L_87 (c_X8_at (zl z) X.2.2.2.2.2.2.2.1 N (zD z) (zy z) (zA z) (zS z) v153 v154 σ152) ⟨Nat.le_trans (by decide) hR.1, Nat.le_trans (by decide) hR.2⟩ rfl rfl (Nat.le_of_ble_eq_true rfl) dL_law_437 h (fun v155 σ156 h => ?_)
                  refine r_istore X [(6, .int v155), (5, .int v151), (0, .ref b), (1, .ref (zA z 0)), (2, .ref (zA z 35)), (3, .ref (zA z 34)), (4, .int x4)] dL_law_440 (by decide) rfl ?_
                  refine r_aload_n X dL_law_442 rfl 4 rfl ?_
                  refine r_callV X 35 8 (by decide) rfl rfl rfl lk_L_67 (c_X8_thrown (zl z) X.2.2.2.2.2.2.2.1 N (zD z) (zy z) (zA z) (zS z) σ156) ⟨Nat.le_trans (by decide) hR.1, Nat.le_trans (by decide) hR.2⟩ rfl rfl (Nat.le_of_ble_eq_true rfl) dL_law_443 h (fun v157 σ158 h => ?_)
                  refine r_iload X dL_law_446 1 rfl ?_
                  refine r_icmp_eq X 453 dL_law_448 (by decide) h (fun g159 h => ?_) (fun g159 h => ?_)
                  · refine r_iload X dL_law_453 1 rfl ?_
                    refine r_if_ne X 470 dL_law_455 (by decide) h (fun g160 h => ?_) (fun g160 h => ?_)
                    · refine r_aload_n X dL_law_458 rfl 5 rfl ?_
                      refine r_iconst X 0 dL_law_459 (by decide) ?_
                      refine r_lald X dL_law_460 ?_
                      refine r_iload X dL_law_461 0 rfl ?_
                      refine r_i2l X dL_law_463 ?_
                      refine r_lcmp X 470 dL_law_464 dL_law_465 (by decide) h (fun g163 h => ?_) (fun g163 h => ?_)
                      · refine r_goto X 978 dL_law_470 (by decide) ?_
                        refine r_iincE X 4 (fun v162 => [(4, .int v162), (6, .int v155), (5, .int v151), (0, .ref b), (1, .ref (zA z 0)), (2, .ref (zA z 35)), (3, .ref (zA z 34))]) dL_law_978 6 rfl (by decide) (by decide) (fun _ => rfl) h (fun v162 ev h => ?_)
                        refine r_goto X 23 dL_law_981 (by decide) ?_
                        refine r_sub [3, 4, 5, 6, 0] rfl ?_
                        exact ih (t + 1) v162 σ158 (by rw [ev, ei]; exact nI_add (4 * t) 4) hi.1 h
                      · refine r_iconst X 0 dL_law_468 (by decide) ?_
                        cases h
                    · refine r_goto X 978 dL_law_470 (by decide) ?_
                      refine r_iincE X 4 (fun v161 => [(4, .int v161), (6, .int v155), (5, .int v151), (0, .ref b), (1, .ref (zA z 0)), (2, .ref (zA z 35)), (3, .ref (zA z 34))]) dL_law_978 6 rfl (by decide) (by decide) (fun _ => rfl) h (fun v161 ev h => ?_)
                      refine r_goto X 23 dL_law_981 (by decide) ?_
                      refine r_sub [3, 4, 5, 6, 0] rfl ?_
                      exact ih (t + 1) v161 σ158 (by rw [ev, ei]; exact nI_add (4 * t) 4) hi.1 h
                  · refine r_iconst X 0 dL_law_451 (by decide) ?_
                    cases h
                · rw [if_neg gs5] at h
                  by_cases gs6 : (v2 &&& 15) = 6
                  · rw [if_pos gs6] at h
                    refine sw_in X 6 473 434 gs6 (by decide) rfl (by decide) ?_
                    refine r_aload_n X dL_law_473 rfl 1 rfl ?_
                    refine r_aload_n X dL_law_474 rfl 0 rfl ?_
                    refine r_iload X dL_law_475 4 rfl ?_
                    refine r_iconst X 1 dL_law_477 (by decide) ?_
                    refine r_iadd X dL_law_478 ?_
                    refine r_sld X S dL_law_479 h (fun v134 h => ?_)
                    refine r_aload_n X dL_law_480 rfl 0 rfl ?_
                    refine r_iload X dL_law_481 4 rfl ?_
                    refine r_iconst X 2 dL_law_483 (by decide) ?_
                    refine r_iadd X dL_law_484 ?_
                    refine r_sld X S dL_law_485 h (fun v135 h => ?_)
                    refine r_aload_n X dL_law_486 rfl 3 rfl ?_
                    refine r_callW X hk lk_L_88 (c_L_parent (zl z) X.2.2.2.2.2.2.2.1 N (zD z) (zy z) (zA z) (zS z) v134 v135 σ) ⟨Nat.le_trans (by decide) hR.1, Nat.le_trans (by decide) hR.2⟩ rfl rfl (Nat.le_of_ble_eq_true rfl) dL_law_487 h (fun v136 σ137 h => ?_)
                    refine r_istore X [(5, .int v136), (0, .ref b), (1, .ref (zA z 0)), (2, .ref (zA z 35)), (3, .ref (zA z 34)), (4, .int x4)] dL_law_490 (by decide) rfl ?_
                    refine r_aload_n X dL_law_492 rfl 3 rfl ?_
                    refine r_aload_n X dL_law_493 rfl 1 rfl ?_
                    refine r_iload X dL_law_494 5 rfl ?_
                    refine r_iconst X 1 dL_law_496 (by decide) ?_
                    refine r_iadd X dL_law_497 ?_
                    refine r_sld X S dL_law_498 h (fun v138 h => ?_)
                    refine r_aload_n X dL_law_499 rfl 1 rfl ?_
                    refine r_iload X dL_law_500 5 rfl ?_
                    refine r_iconst X 2 dL_law_502 (by decide) ?_
                    refine r_iadd X dL_law_503 ?_
                    refine r_sld X S dL_law_504 h (fun v139 h => ?_)
                    refine r_callV X 35 8 (by decide) rfl rfl rfl lk_L_90 (c_X8_parent (zl z) X.2.2.2.2.2.2.2.1 N (zD z) (zy z) (zA z) (zS z) v138 v139 σ137) ⟨Nat.le_trans (by decide) hR.1, Nat.le_trans (by decide) hR.2⟩ rfl rfl (Nat.le_of_ble_eq_true rfl) dL_law_505 h (fun v140 σ141 h => ?_)
                    refine r_istore X [(6, .int v140), (5, .int v136), (0, .ref b), (1, .ref (zA z 0)), (2, .ref (zA z 35)), (3, .ref (zA z 34)), (4, .int x4)] dL_law_508 (by decide) rfl ?_
                    refine r_aload_n X dL_law_510 rfl 4 rfl ?_
                    refine r_callV X 35 8 (by decide) rfl rfl rfl lk_L_67 (c_X8_thrown (zl z) X.2.2.2.2.2.2.2.1 N (zD z) (zy z) (zA z) (zS z) σ141) ⟨Nat.le_trans (by decide) hR.1, Nat.le_trans (by decide) hR.2⟩ rfl rfl (Nat.le_of_ble_eq_true rfl) dL_law_511 h (fun v142 σ143 h => ?_)
                    refine r_iload X dL_law_514 1 rfl ?_
                    refine r_icmp_eq X 521 dL_law_516 (by decide) h (fun g144 h => ?_) (fun g144 h => ?_)
                    · refine r_iload X dL_law_521 1 rfl ?_
                      refine r_if_ne X 538 dL_law_523 (by decide) h (fun g145 h => ?_) (fun g145 h => ?_)
                      · refine r_aload_n X dL_law_526 rfl 5 rfl ?_
                        refine r_iconst X 0 dL_law_527 (by decide) ?_
                        refine r_lald X dL_law_528 ?_
                        refine r_iload X dL_law_529 0 rfl ?_
                        refine r_i2l X dL_law_531 ?_
                        refine r_lcmp X 538 dL_law_532 dL_law_533 (by decide) h (fun g148 h => ?_) (fun g148 h => ?_)
                        · refine r_goto X 978 dL_law_538 (by decide) ?_
                          refine r_iincE X 4 (fun v147 => [(4, .int v147), (6, .int v140), (5, .int v136), (0, .ref b), (1, .ref (zA z 0)), (2, .ref (zA z 35)), (3, .ref (zA z 34))]) dL_law_978 6 rfl (by decide) (by decide) (fun _ => rfl) h (fun v147 ev h => ?_)
                          refine r_goto X 23 dL_law_981 (by decide) ?_
                          refine r_sub [3, 4, 5, 6, 0] rfl ?_
                          exact ih (t + 1) v147 σ143 (by rw [ev, ei]; exact nI_add (4 * t) 4) hi.1 h
                        · refine r_iconst X 0 dL_law_536 (by decide) ?_
                          cases h
                      · refine r_goto X 978 dL_law_538 (by decide) ?_
                        refine r_iincE X 4 (fun v146 => [(4, .int v146), (6, .int v140), (5, .int v136), (0, .ref b), (1, .ref (zA z 0)), (2, .ref (zA z 35)), (3, .ref (zA z 34))]) dL_law_978 6 rfl (by decide) (by decide) (fun _ => rfl) h (fun v146 ev h => ?_)
                        refine r_goto X 23 dL_law_981 (by decide) ?_
                        refine r_sub [3, 4, 5, 6, 0] rfl ?_
                        exact ih (t + 1) v146 σ143 (by rw [ev, ei]; exact nI_add (4 * t) 4) hi.1 h
                    · refine r_iconst X 0 dL_law_519 (by decide) ?_
                      cases h
                  · rw [if_neg gs6] at h
                    by_cases gs7 : (v2 &&& 15) = 7
                    · rw [if_pos gs7] at h
                      refine sw_in X 7 541 502 gs7 (by decide) rfl (by decide) ?_
                      refine r_aload_n X dL_law_541 rfl 1 rfl ?_
                      refine r_callV X 0 7 (by decide) rfl rfl rfl lk_L_91 (c_X7_check (zl z) X.2.2.2.2.2.2.2.1 N (zD z) (zy z) (zA z) (zS z) σ) ⟨Nat.le_trans (by decide) hR.1, Nat.le_trans (by decide) hR.2⟩ rfl rfl (Nat.le_of_ble_eq_true rfl) dL_law_542 h (fun v128 σ129 h => ?_)
                      refine r_aload_n X dL_law_545 rfl 2 rfl ?_
                      refine r_callV X 35 8 (by decide) rfl rfl rfl lk_L_94 (c_X8_check (zl z) X.2.2.2.2.2.2.2.1 N (zD z) (zy z) (zA z) (zS z) σ129) ⟨Nat.le_trans (by decide) hR.1, Nat.le_trans (by decide) hR.2⟩ rfl rfl (Nat.le_of_ble_eq_true rfl) dL_law_546 h (fun v130 σ131 h => ?_)
                      refine r_icmp_eq X 978 dL_law_549 (by decide) h (fun g132 h => ?_) (fun g132 h => ?_)
                      · refine r_kup hk ?_
                        refine r_iincE X 4 (fun v133 => [(4, .int v133), (0, .ref b), (1, .ref (zA z 0)), (2, .ref (zA z 35)), (3, .ref (zA z 34))]) dL_law_978 4 rfl (by decide) (by decide) (fun _ => rfl) h (fun v133 ev h => ?_)
                        refine r_goto X 23 dL_law_981 (by decide) ?_
                        refine r_sub [1, 2, 3, 4, 0] rfl ?_
                        exact ih (t + 1) v133 σ131 (by rw [ev, ei]; exact nI_add (4 * t) 4) hi.1 h
                      · refine r_iconst X 0 dL_law_552 (by decide) ?_
                        cases h
                    · rw [if_neg gs7] at h
                      by_cases gs8 : (v2 &&& 15) = 8
                      · rw [if_pos gs8] at h
                        refine sw_in X 8 554 515 gs8 (by decide) rfl (by decide) ?_
                        refine r_aload_n X dL_law_554 rfl 1 rfl ?_
                        refine r_aload_n X dL_law_555 rfl 0 rfl ?_
                        refine r_iload X dL_law_556 4 rfl ?_
                        refine r_iconst X 1 dL_law_558 (by decide) ?_
                        refine r_iadd X dL_law_559 ?_
                        refine r_sld X S dL_law_560 h (fun v113 h => ?_)
                        refine r_aload_n X dL_law_561 rfl 0 rfl ?_
                        refine r_iload X dL_law_562 4 rfl ?_
                        refine r_iconst X 2 dL_law_564 (by decide) ?_
                        refine r_iadd X dL_law_565 ?_
                        refine r_sld X S dL_law_566 h (fun v114 h => ?_)
                        refine r_aload_n X dL_law_567 rfl 3 rfl ?_
                        refine r_callW X hk lk_L_95 (c_L_fault (zl z) X.2.2.2.2.2.2.2.1 N (zD z) (zy z) (zA z) (zS z) v113 v114 σ) ⟨Nat.le_trans (by decide) hR.1, Nat.le_trans (by decide) hR.2⟩ rfl rfl (Nat.le_of_ble_eq_true rfl) dL_law_568 h (fun v115 σ116 h => ?_)
                        refine r_istore X [(5, .int v115), (0, .ref b), (1, .ref (zA z 0)), (2, .ref (zA z 35)), (3, .ref (zA z 34)), (4, .int x4)] dL_law_571 (by decide) rfl ?_
                        refine r_aload_n X dL_law_573 rfl 3 rfl ?_
                        refine r_aload_n X dL_law_574 rfl 1 rfl ?_
                        refine r_iload X dL_law_575 5 rfl ?_
                        refine r_iconst X 1 dL_law_577 (by decide) ?_
                        refine r_iadd X dL_law_578 ?_
                        refine r_sld X S dL_law_579 h (fun v117 h => ?_)
                        refine r_aload_n X dL_law_580 rfl 1 rfl ?_
                        refine r_iload X dL_law_581 5 rfl ?_
                        refine r_iconst X 2 dL_law_583 (by decide) ?_
                        refine r_iadd X dL_law_584 ?_
                        refine r_sld X S dL_law_585 h (fun v118 h => ?_)
                        refine r_callV X 35 8 (by decide) rfl rfl rfl lk_L_97 (c_X8_fault (zl z) X.2.2.2.2.2.2.2.1 N (zD z) (zy z) (zA z) (zS z) v117 v118 σ116) ⟨Nat.le_trans (by decide) hR.1, Nat.le_trans (by decide) hR.2⟩ rfl rfl (Nat.le_of_ble_eq_true rfl) dL_law_586 h (fun v119 σ120 h => ?_)
                        refine r_istore X [(6, .int v119), (5, .int v115), (0, .ref b), (1, .ref (zA z 0)), (2, .ref (zA z 35)), (3, .ref (zA z 34)), (4, .int x4)] dL_law_589 (by decide) rfl ?_
                        refine r_aload_n X dL_law_591 rfl 4 rfl ?_
                        refine r_callV X 35 8 (by decide) rfl rfl rfl lk_L_67 (c_X8_thrown (zl z) X.2.2.2.2.2.2.2.1 N (zD z) (zy z) (zA z) (zS z) σ120) ⟨Nat.le_trans (by decide) hR.1, Nat.le_trans (by decide) hR.2⟩ rfl rfl (Nat.le_of_ble_eq_true rfl) dL_law_592 h (fun v121 σ122 h => ?_)
                        refine r_iload X dL_law_595 1 rfl ?_
                        refine r_icmp_eq X 602 dL_law_597 (by decide) h (fun g123 h => ?_) (fun g123 h => ?_)
                        · refine r_iload X dL_law_602 1 rfl ?_
                          refine r_if_ne X 619 dL_law_604 (by decide) h (fun g124 h => ?_) (fun g124 h => ?_)
                          · refine r_aload_n X dL_law_607 rfl 5 rfl ?_
                            refine r_iconst X 0 dL_law_608 (by decide) ?_
                            refine r_lald X dL_law_609 ?_
                            refine r_iload X dL_law_610 0 rfl ?_
                            refine r_i2l X dL_law_612 ?_
                            refine r_lcmp X 619 dL_law_613 dL_law_614 (by decide) h (fun g127 h => ?_) (fun g127 h => ?_)
                            · refine r_goto X 978 dL_law_619 (by decide) ?_
                              refine r_iincE X 4 (fun v126 => [(4, .int v126), (6, .int v119), (5, .int v115), (0, .ref b), (1, .ref (zA z 0)), (2, .ref (zA z 35)), (3, .ref (zA z 34))]) dL_law_978 6 rfl (by decide) (by decide) (fun _ => rfl) h (fun v126 ev h => ?_)
                              refine r_goto X 23 dL_law_981 (by decide) ?_
                              refine r_sub [3, 4, 5, 6, 0] rfl ?_
                              exact ih (t + 1) v126 σ122 (by rw [ev, ei]; exact nI_add (4 * t) 4) hi.1 h
                            · refine r_iconst X 0 dL_law_617 (by decide) ?_
                              cases h
                          · refine r_goto X 978 dL_law_619 (by decide) ?_
                            refine r_iincE X 4 (fun v125 => [(4, .int v125), (6, .int v119), (5, .int v115), (0, .ref b), (1, .ref (zA z 0)), (2, .ref (zA z 35)), (3, .ref (zA z 34))]) dL_law_978 6 rfl (by decide) (by decide) (fun _ => rfl) h (fun v125 ev h => ?_)
                            refine r_goto X 23 dL_law_981 (by decide) ?_
                            refine r_sub [3, 4, 5, 6, 0] rfl ?_
                            exact ih (t + 1) v125 σ122 (by rw [ev, ei]; exact nI_add (4 * t) 4) hi.1 h
                        · refine r_iconst X 0 dL_law_600 (by decide) ?_
                          cases h
                      · rw [if_neg gs8] at h
                        by_cases gs9 : (v2 &&& 15) = 9
                        · rw [if_pos gs9] at h
                          refine sw_in X 9 622 583 gs9 (by decide) rfl (by decide) ?_
                          refine r_aload_n X dL_law_622 rfl 1 rfl ?_
                          refine r_aload_n X dL_law_623 rfl 0 rfl ?_
                          refine r_iload X dL_law_624 4 rfl ?_
                          refine r_iconst X 1 dL_law_626 (by decide) ?_
                          refine r_iadd X dL_law_627 ?_
                          refine r_sld X S dL_law_628 h (fun v98 h => ?_)
                          refine r_aload_n X dL_law_629 rfl 0 rfl ?_
                          refine r_iload X dL_law_630 4 rfl ?_
                          refine r_iconst X 2 dL_law_632 (by decide) ?_
                          refine r_iadd X dL_law_633 ?_
                          refine r_sld X S dL_law_634 h (fun v99 h => ?_)
                          refine r_aload_n X dL_law_635 rfl 3 rfl ?_
                          refine r_callW X hk lk_L_98 (c_L_heading (zl z) X.2.2.2.2.2.2.2.1 N (zD z) (zy z) (zA z) (zS z) v98 v99 σ) ⟨Nat.le_trans (by decide) hR.1, Nat.le_trans (by decide) hR.2⟩ rfl rfl (Nat.le_of_ble_eq_true rfl) dL_law_636 h (fun v100 σ101 h => ?_)
                          refine r_istore X [(5, .int v100), (0, .ref b), (1, .ref (zA z 0)), (2, .ref (zA z 35)), (3, .ref (zA z 34)), (4, .int x4)] dL_law_639 (by decide) rfl ?_
                          refine r_aload_n X dL_law_641 rfl 3 rfl ?_
                          refine r_aload_n X dL_law_642 rfl 1 rfl ?_
                          refine r_iload X dL_law_643 5 rfl ?_
                          refine r_iconst X 1 dL_law_645 (by decide) ?_
                          refine r_iadd X dL_law_646 ?_
                          refine r_sld X S dL_law_647 h (fun v102 h => ?_)
                          refine r_aload_n X dL_law_648 rfl 1 rfl ?_
                          refine r_iload X dL_law_649 5 rfl ?_
                          refine r_iconst X 2 dL_law_651 (by decide) ?_
                          refine r_iadd X dL_law_652 ?_
                          refine r_sld X S dL_law_653 h (fun v103 h => ?_)
                          refine r_callV X 35 8 (by decide) rfl rfl rfl lk_L_100 (c_X8_heading (zl z) X.2.2.2.2.2.2.2.1 N (zD z) (zy z) (zA z) (zS z) v102 v103 σ101) ⟨Nat.le_trans (by decide) hR.1, Nat.le_trans (by decide) hR.2⟩ rfl rfl (Nat.le_of_ble_eq_true rfl) dL_law_654 h (fun v104 σ105 h => ?_)
                          refine r_istore X [(6, .int v104), (5, .int v100), (0, .ref b), (1, .ref (zA z 0)), (2, .ref (zA z 35)), (3, .ref (zA z 34)), (4, .int x4)] dL_law_657 (by decide) rfl ?_
                          refine r_aload_n X dL_law_659 rfl 4 rfl ?_
                          refine r_callV X 35 8 (by decide) rfl rfl rfl lk_L_67 (c_X8_thrown (zl z) X.2.2.2.2.2.2.2.1 N (zD z) (zy z) (zA z) (zS z) σ105) ⟨Nat.le_trans (by decide) hR.1, Nat.le_trans (by decide) hR.2⟩ rfl rfl (Nat.le_of_ble_eq_true rfl) dL_law_660 h (fun v106 σ107 h => ?_)
                          refine r_iload X dL_law_663 1 rfl ?_
                          refine r_icmp_eq X 670 dL_law_665 (by decide) h (fun g108 h => ?_) (fun g108 h => ?_)
                          · refine r_iload X dL_law_670 1 rfl ?_
                            refine r_if_ne X 687 dL_law_672 (by decide) h (fun g109 h => ?_) (fun g109 h => ?_)
                            · refine r_aload_n X dL_law_675 rfl 5 rfl ?_
                              refine r_iconst X 0 dL_law_676 (by decide) ?_
                              refine r_lald X dL_law_677 ?_
                              refine r_iload X dL_law_678 0 rfl ?_
                              refine r_i2l X dL_law_680 ?_
                              refine r_lcmp X 687 dL_law_681 dL_law_682 (by decide) h (fun g112 h => ?_) (fun g112 h => ?_)
                              · refine r_goto X 978 dL_law_687 (by decide) ?_
                                refine r_iincE X 4 (fun v111 => [(4, .int v111), (6, .int v104), (5, .int v100), (0, .ref b), (1, .ref (zA z 0)), (2, .ref (zA z 35)), (3, .ref (zA z 34))]) dL_law_978 6 rfl (by decide) (by decide) (fun _ => rfl) h (fun v111 ev h => ?_)
                                refine r_goto X 23 dL_law_981 (by decide) ?_
                                refine r_sub [3, 4, 5, 6, 0] rfl ?_
                                exact ih (t + 1) v111 σ107 (by rw [ev, ei]; exact nI_add (4 * t) 4) hi.1 h
                              · refine r_iconst X 0 dL_law_685 (by decide) ?_
                                cases h
                            · refine r_goto X 978 dL_law_687 (by decide) ?_
                              refine r_iincE X 4 (fun v110 => [(4, .int v110), (6, .int v104), (5, .int v100), (0, .ref b), (1, .ref (zA z 0)), (2, .ref (zA z 35)), (3, .ref (zA z 34))]) dL_law_978 6 rfl (by decide) (by decide) (fun _ => rfl) h (fun v110 ev h => ?_)
                              refine r_goto X 23 dL_law_981 (by decide) ?_
                              refine r_sub [3, 4, 5, 6, 0] rfl ?_
                              exact ih (t + 1) v110 σ107 (by rw [ev, ei]; exact nI_add (4 * t) 4) hi.1 h
                          · refine r_iconst X 0 dL_law_668 (by decide) ?_
                            cases h
                        · rw [if_neg gs9] at h
                          by_cases gs10 : (v2 &&& 15) = 10
                          · rw [if_pos gs10] at h
                            refine sw_in X 10 690 651 gs10 (by decide) rfl (by decide) ?_
                            refine r_aload_n X dL_law_690 rfl 1 rfl ?_
                            refine r_aload_n X dL_law_691 rfl 0 rfl ?_
                            refine r_iload X dL_law_692 4 rfl ?_
                            refine r_iconst X 1 dL_law_694 (by decide) ?_
                            refine r_iadd X dL_law_695 ?_
                            refine r_sld X S dL_law_696 h (fun v49 h => ?_)
                            refine r_aload_n X dL_law_697 rfl 0 rfl ?_
                            refine r_iload X dL_law_698 4 rfl ?_
                            refine r_iconst X 2 dL_law_700 (by decide) ?_
                            refine r_iadd X dL_law_701 ?_
                            refine r_sld X S dL_law_702 h (fun v50 h => ?_)
                            refine r_if_eq X 710 dL_law_703 (by decide) h (fun g51 h => ?_) (fun g51 h => ?_)
                            · refine r_iconst X 0 dL_law_710 (by decide) ?_
                              refine r_aload_n X dL_law_711 rfl 3 rfl ?_
                              refine r_callW X hk lk_L_101 (c_L_words (zl z) X.2.2.2.2.2.2.2.1 N (zD z) (zy z) (zA z) (zS z) v49 0 σ) ⟨Nat.le_trans (by decide) hR.1, Nat.le_trans (by decide) hR.2⟩ rfl rfl (Nat.le_of_ble_eq_true rfl) dL_law_712 h (fun v52 σ53 h => ?_)
                              refine r_istore X [(5, .int v52), (0, .ref b), (1, .ref (zA z 0)), (2, .ref (zA z 35)), (3, .ref (zA z 34)), (4, .int x4)] dL_law_715 (by decide) rfl ?_
                              refine r_aload_n X dL_law_717 rfl 3 rfl ?_
                              refine r_aload_n X dL_law_718 rfl 1 rfl ?_
                              refine r_iload X dL_law_719 5 rfl ?_
                              refine r_iconst X 1 dL_law_721 (by decide) ?_
                              refine r_iadd X dL_law_722 ?_
                              refine r_sld X S dL_law_723 h (fun v54 h => ?_)
                              refine r_aload_n X dL_law_724 rfl 1 rfl ?_
                              refine r_iload X dL_law_725 5 rfl ?_
                              refine r_iconst X 2 dL_law_727 (by decide) ?_
                              refine r_iadd X dL_law_728 ?_
                              refine r_sld X S dL_law_729 h (fun v55 h => ?_)
                              refine r_if_eq X 737 dL_law_730 (by decide) h (fun g56 h => ?_) (fun g56 h => ?_)
                              · refine r_iconst X 0 dL_law_737 (by decide) ?_
                                refine r_callV X 35 8 (by decide) rfl rfl rfl lk_L_104 (c_X8_words (zl z) X.2.2.2.2.2.2.2.1 N (zD z) (zy z) (zA z) (zS z) v54 0 σ53) ⟨Nat.le_trans (by decide) hR.1, Nat.le_trans (by decide) hR.2⟩ rfl rfl (Nat.le_of_ble_eq_true rfl) dL_law_738 h (fun v57 σ58 h => ?_)
                                refine r_istore X [(6, .int v57), (5, .int v52), (0, .ref b), (1, .ref (zA z 0)), (2, .ref (zA z 35)), (3, .ref (zA z 34)), (4, .int x4)] dL_law_741 (by decide) rfl ?_
                                refine r_aload_n X dL_law_743 rfl 4 rfl ?_
                                refine r_callV X 35 8 (by decide) rfl rfl rfl lk_L_67 (c_X8_thrown (zl z) X.2.2.2.2.2.2.2.1 N (zD z) (zy z) (zA z) (zS z) σ58) ⟨Nat.le_trans (by decide) hR.1, Nat.le_trans (by decide) hR.2⟩ rfl rfl (Nat.le_of_ble_eq_true rfl) dL_law_744 h (fun v59 σ60 h => ?_)
                                refine r_iload X dL_law_747 1 rfl ?_
                                refine r_icmp_eq X 754 dL_law_749 (by decide) h (fun g61 h => ?_) (fun g61 h => ?_)
                                · refine r_iload X dL_law_754 1 rfl ?_
                                  refine r_if_ne X 771 dL_law_756 (by decide) h (fun g62 h => ?_) (fun g62 h => ?_)
                                  · refine r_aload_n X dL_law_759 rfl 5 rfl ?_
                                    refine r_iconst X 0 dL_law_760 (by decide) ?_
                                    refine r_lald X dL_law_761 ?_
                                    refine r_iload X dL_law_762 0 rfl ?_
                                    refine r_i2l X dL_law_764 ?_
                                    refine r_lcmp X 771 dL_law_765 dL_law_766 (by decide) h (fun g65 h => ?_) (fun g65 h => ?_)
                                    · refine r_goto X 978 dL_law_771 (by decide) ?_
                                      refine r_iincE X 4 (fun v64 => [(4, .int v64), (6, .int v57), (5, .int v52), (0, .ref b), (1, .ref (zA z 0)), (2, .ref (zA z 35)), (3, .ref (zA z 34))]) dL_law_978 6 rfl (by decide) (by decide) (fun _ => rfl) h (fun v64 ev h => ?_)
                                      refine r_goto X 23 dL_law_981 (by decide) ?_
                                      refine r_sub [3, 4, 5, 6, 0] rfl ?_
                                      exact ih (t + 1) v64 σ60 (by rw [ev, ei]; exact nI_add (4 * t) 4) hi.1 h
                                    · refine r_iconst X 0 dL_law_769 (by decide) ?_
                                      cases h
                                  · refine r_goto X 978 dL_law_771 (by decide) ?_
                                    refine r_iincE X 4 (fun v63 => [(4, .int v63), (6, .int v57), (5, .int v52), (0, .ref b), (1, .ref (zA z 0)), (2, .ref (zA z 35)), (3, .ref (zA z 34))]) dL_law_978 6 rfl (by decide) (by decide) (fun _ => rfl) h (fun v63 ev h => ?_)
                                    refine r_goto X 23 dL_law_981 (by decide) ?_
                                    refine r_sub [3, 4, 5, 6, 0] rfl ?_
                                    exact ih (t + 1) v63 σ60 (by rw [ev, ei]; exact nI_add (4 * t) 4) hi.1 h
                                · refine r_iconst X 0 dL_law_752 (by decide) ?_
                                  cases h
                              · refine r_iconst X 1 dL_law_733 (by decide) ?_
                                refine r_goto X 738 dL_law_734 (by decide) ?_
                                refine r_callV X 35 8 (by decide) rfl rfl rfl lk_L_104 (c_X8_words (zl z) X.2.2.2.2.2.2.2.1 N (zD z) (zy z) (zA z) (zS z) v54 1 σ53) ⟨Nat.le_trans (by decide) hR.1, Nat.le_trans (by decide) hR.2⟩ rfl rfl (Nat.le_of_ble_eq_true rfl) dL_law_738 h (fun v66 σ67 h => ?_)
                                refine r_istore X [(6, .int v66), (5, .int v52), (0, .ref b), (1, .ref (zA z 0)), (2, .ref (zA z 35)), (3, .ref (zA z 34)), (4, .int x4)] dL_law_741 (by decide) rfl ?_
                                refine r_aload_n X dL_law_743 rfl 4 rfl ?_
                                refine r_callV X 35 8 (by decide) rfl rfl rfl lk_L_67 (c_X8_thrown (zl z) X.2.2.2.2.2.2.2.1 N (zD z) (zy z) (zA z) (zS z) σ67) ⟨Nat.le_trans (by decide) hR.1, Nat.le_trans (by decide) hR.2⟩ rfl rfl (Nat.le_of_ble_eq_true rfl) dL_law_744 h (fun v68 σ69 h => ?_)
                                refine r_iload X dL_law_747 1 rfl ?_
                                refine r_icmp_eq X 754 dL_law_749 (by decide) h (fun g70 h => ?_) (fun g70 h => ?_)
                                · refine r_iload X dL_law_754 1 rfl ?_
                                  refine r_if_ne X 771 dL_law_756 (by decide) h (fun g71 h => ?_) (fun g71 h => ?_)
                                  · refine r_aload_n X dL_law_759 rfl 5 rfl ?_
                                    refine r_iconst X 0 dL_law_760 (by decide) ?_
                                    refine r_lald X dL_law_761 ?_
                                    refine r_iload X dL_law_762 0 rfl ?_
                                    refine r_i2l X dL_law_764 ?_
                                    refine r_lcmp X 771 dL_law_765 dL_law_766 (by decide) h (fun g74 h => ?_) (fun g74 h => ?_)
                                    · refine r_goto X 978 dL_law_771 (by decide) ?_
                                      refine r_iincE X 4 (fun v73 => [(4, .int v73), (6, .int v66), (5, .int v52), (0, .ref b), (1, .ref (zA z 0)), (2, .ref (zA z 35)), (3, .ref (zA z 34))]) dL_law_978 6 rfl (by decide) (by decide) (fun _ => rfl) h (fun v73 ev h => ?_)
                                      refine r_goto X 23 dL_law_981 (by decide) ?_
                                      refine r_sub [3, 4, 5, 6, 0] rfl ?_
                                      exact ih (t + 1) v73 σ69 (by rw [ev, ei]; exact nI_add (4 * t) 4) hi.1 h
                                    · refine r_iconst X 0 dL_law_769 (by decide) ?_
                                      cases h
                                  · refine r_goto X 978 dL_law_771 (by decide) ?_
                                    refine r_iincE X 4 (fun v72 => [(4, .int v72), (6, .int v66), (5, .int v52), (0, .ref b), (1, .ref (zA z 0)), (2, .ref (zA z 35)), (3, .ref (zA z 34))]) dL_law_978 6 rfl (by decide) (by decide) (fun _ => rfl) h (fun v72 ev h => ?_)
                                    refine r_goto X 23 dL_law_981 (by decide) ?_
                                    refine r_sub [3, 4, 5, 6, 0] rfl ?_
                                    exact ih (t + 1) v72 σ69 (by rw [ev, ei]; exact nI_add (4 * t) 4) hi.1 h
                                · refine r_iconst X 0 dL_law_752 (by decide) ?_
                                  cases h
                            · refine r_iconst X 1 dL_law_706 (by decide) ?_
                              refine r_goto X 711 dL_law_707 (by decide) ?_
                              refine r_aload_n X dL_law_711 rfl 3 rfl ?_
                              refine r_callW X hk lk_L_101 (c_L_words (zl z) X.2.2.2.2.2.2.2.1 N (zD z) (zy z) (zA z) (zS z) v49 1 σ) ⟨Nat.le_trans (by decide) hR.1, Nat.le_trans (by decide) hR.2⟩ rfl rfl (Nat.le_of_ble_eq_true rfl) dL_law_712 h (fun v75 σ76 h => ?_)
                              refine r_istore X [(5, .int v75), (0, .ref b), (1, .ref (zA z 0)), (2, .ref (zA z 35)), (3, .ref (zA z 34)), (4, .int x4)] dL_law_715 (by decide) rfl ?_
                              refine r_aload_n X dL_law_717 rfl 3 rfl ?_
                              refine r_aload_n X dL_law_718 rfl 1 rfl ?_
                              refine r_iload X dL_law_719 5 rfl ?_
                              refine r_iconst X 1 dL_law_721 (by decide) ?_
                              refine r_iadd X dL_law_722 ?_
                              refine r_sld X S dL_law_723 h (fun v77 h => ?_)
                              refine r_aload_n X dL_law_724 rfl 1 rfl ?_
                              refine r_iload X dL_law_725 5 rfl ?_
                              refine r_iconst X 2 dL_law_727 (by decide) ?_
                              refine r_iadd X dL_law_728 ?_
                              refine r_sld X S dL_law_729 h (fun v78 h => ?_)
                              refine r_if_eq X 737 dL_law_730 (by decide) h (fun g79 h => ?_) (fun g79 h => ?_)
                              · refine r_iconst X 0 dL_law_737 (by decide) ?_
                                refine r_callV X 35 8 (by decide) rfl rfl rfl lk_L_104 (c_X8_words (zl z) X.2.2.2.2.2.2.2.1 N (zD z) (zy z) (zA z) (zS z) v77 0 σ76) ⟨Nat.le_trans (by decide) hR.1, Nat.le_trans (by decide) hR.2⟩ rfl rfl (Nat.le_of_ble_eq_true rfl) dL_law_738 h (fun v80 σ81 h => ?_)
                                refine r_istore X [(6, .int v80), (5, .int v75), (0, .ref b), (1, .ref (zA z 0)), (2, .ref (zA z 35)), (3, .ref (zA z 34)), (4, .int x4)] dL_law_741 (by decide) rfl ?_
                                refine r_aload_n X dL_law_743 rfl 4 rfl ?_
                                refine r_callV X 35 8 (by decide) rfl rfl rfl lk_L_67 (c_X8_thrown (zl z) X.2.2.2.2.2.2.2.1 N (zD z) (zy z) (zA z) (zS z) σ81) ⟨Nat.le_trans (by decide) hR.1, Nat.le_trans (by decide) hR.2⟩ rfl rfl (Nat.le_of_ble_eq_true rfl) dL_law_744 h (fun v82 σ83 h => ?_)
                                refine r_iload X dL_law_747 1 rfl ?_
                                refine r_icmp_eq X 754 dL_law_749 (by decide) h (fun g84 h => ?_) (fun g84 h => ?_)
                                · refine r_iload X dL_law_754 1 rfl ?_
                                  refine r_if_ne X 771 dL_law_756 (by decide) h (fun g85 h => ?_) (fun g85 h => ?_)
                                  · refine r_aload_n X dL_law_759 rfl 5 rfl ?_
                                    refine r_iconst X 0 dL_law_760 (by decide) ?_
                                    refine r_lald X dL_law_761 ?_
                                    refine r_iload X dL_law_762 0 rfl ?_
                                    refine r_i2l X dL_law_764 ?_
                                    refine r_lcmp X 771 dL_law_765 dL_law_766 (by decide) h (fun g88 h => ?_) (fun g88 h => ?_)
                                    · refine r_goto X 978 dL_law_771 (by decide) ?_
                                      refine r_iincE X 4 (fun v87 => [(4, .int v87), (6, .int v80), (5, .int v75), (0, .ref b), (1, .ref (zA z 0)), (2, .ref (zA z 35)), (3, .ref (zA z 34))]) dL_law_978 6 rfl (by decide) (by decide) (fun _ => rfl) h (fun v87 ev h => ?_)
                                      refine r_goto X 23 dL_law_981 (by decide) ?_
                                      refine r_sub [3, 4, 5, 6, 0] rfl ?_
                                      exact ih (t + 1) v87 σ83 (by rw [ev, ei]; exact nI_add (4 * t) 4) hi.1 h
                                    · refine r_iconst X 0 dL_law_769 (by decide) ?_
                                      cases h
                                  · refine r_goto X 978 dL_law_771 (by decide) ?_
                                    refine r_iincE X 4 (fun v86 => [(4, .int v86), (6, .int v80), (5, .int v75), (0, .ref b), (1, .ref (zA z 0)), (2, .ref (zA z 35)), (3, .ref (zA z 34))]) dL_law_978 6 rfl (by decide) (by decide) (fun _ => rfl) h (fun v86 ev h => ?_)
                                    refine r_goto X 23 dL_law_981 (by decide) ?_
                                    refine r_sub [3, 4, 5, 6, 0] rfl ?_
                                    exact ih (t + 1) v86 σ83 (by rw [ev, ei]; exact nI_add (4 * t) 4) hi.1 h
                                · refine r_iconst X 0 dL_law_752 (by decide) ?_
                                  cases h
                              · refine r_iconst X 1 dL_law_733 (by decide) ?_
                                refine r_goto X 738 dL_law_734 (by decide) ?_
                                refine r_callV X 35 8 (by decide) rfl rfl rfl lk_L_104 (c_X8_words (zl z) X.2.2.2.2.2.2.2.1 N (zD z) (zy z) (zA z) (zS z) v77 1 σ76) ⟨Nat.le_trans (by decide) hR.1, Nat.le_trans (by decide) hR.2⟩ rfl rfl (Nat.le_of_ble_eq_true rfl) dL_law_738 h (fun v89 σ90 h => ?_)
                                refine r_istore X [(6, .int v89), (5, .int v75), (0, .ref b), (1, .ref (zA z 0)), (2, .ref (zA z 35)), (3, .ref (zA z 34)), (4, .int x4)] dL_law_741 (by decide) rfl ?_
                                refine r_aload_n X dL_law_743 rfl 4 rfl ?_
                                refine r_callV X 35 8 (by decide) rfl rfl rfl lk_L_67 (c_X8_thrown (zl z) X.2.2.2.2.2.2.2.1 N (zD z) (zy z) (zA z) (zS z) σ90) ⟨Nat.le_trans (by decide) hR.1, Nat.le_trans (by decide) hR.2⟩ rfl rfl (Nat.le_of_ble_eq_true rfl) dL_law_744 h (fun v91 σ92 h => ?_)
                                refine r_iload X dL_law_747 1 rfl ?_
                                refine r_icmp_eq X 754 dL_law_749 (by decide) h (fun g93 h => ?_) (fun g93 h => ?_)
                                · refine r_iload X dL_law_754 1 rfl ?_
                                  refine r_if_ne X 771 dL_law_756 (by decide) h (fun g94 h => ?_) (fun g94 h => ?_)
                                  · refine r_aload_n X dL_law_759 rfl 5 rfl ?_
                                    refine r_iconst X 0 dL_law_760 (by decide) ?_
                                    refine r_lald X dL_law_761 ?_
                                    refine r_iload X dL_law_762 0 rfl ?_
                                    refine r_i2l X dL_law_764 ?_
                                    refine r_lcmp X 771 dL_law_765 dL_law_766 (by decide) h (fun g97 h => ?_) (fun g97 h => ?_)
                                    · refine r_goto X 978 dL_law_771 (by decide) ?_
                                      refine r_iincE X 4 (fun v96 => [(4, .int v96), (6, .int v89), (5, .int v75), (0, .ref b), (1, .ref (zA z 0)), (2, .ref (zA z 35)), (3, .ref (zA z 34))]) dL_law_978 6 rfl (by decide) (by decide) (fun _ => rfl) h (fun v96 ev h => ?_)
                                      refine r_goto X 23 dL_law_981 (by decide) ?_
                                      refine r_sub [3, 4, 5, 6, 0] rfl ?_
                                      exact ih (t + 1) v96 σ92 (by rw [ev, ei]; exact nI_add (4 * t) 4) hi.1 h
                                    · refine r_iconst X 0 dL_law_769 (by decide) ?_
                                      cases h
                                  · refine r_goto X 978 dL_law_771 (by decide) ?_
                                    refine r_iincE X 4 (fun v95 => [(4, .int v95), (6, .int v89), (5, .int v75), (0, .ref b), (1, .ref (zA z 0)), (2, .ref (zA z 35)), (3, .ref (zA z 34))]) dL_law_978 6 rfl (by decide) (by decide) (fun _ => rfl) h (fun v95 ev h => ?_)
                                    refine r_goto X 23 dL_law_981 (by decide) ?_
                                    refine r_sub [3, 4, 5, 6, 0] rfl ?_
                                    exact ih (t + 1) v95 σ92 (by rw [ev, ei]; exact nI_add (4 * t) 4) hi.1 h
                                · refine r_iconst X 0 dL_law_752 (by decide) ?_
                                  cases h
                          · rw [if_neg gs10] at h
                            by_cases gs11 : (v2 &&& 15) = 11
                            · rw [if_pos gs11] at h
                              refine sw_in X 11 774 735 gs11 (by decide) rfl (by decide) ?_
                              refine r_aload_n X dL_law_774 rfl 1 rfl ?_
                              refine r_aload_n X dL_law_775 rfl 0 rfl ?_
                              refine r_iload X dL_law_776 4 rfl ?_
                              refine r_iconst X 1 dL_law_778 (by decide) ?_
                              refine r_iadd X dL_law_779 ?_
                              refine r_sld X S dL_law_780 h (fun v32 h => ?_)
                              refine r_aload_n X dL_law_781 rfl 0 rfl ?_
                              refine r_iload X dL_law_782 4 rfl ?_
                              refine r_iconst X 2 dL_law_784 (by decide) ?_
                              refine r_iadd X dL_law_785 ?_
                              refine r_sld X S dL_law_786 h (fun v33 h => ?_)
                              refine r_aload_n X dL_law_787 rfl 0 rfl ?_
                              refine r_iload X dL_law_788 4 rfl ?_
                              refine r_iconst X 3 dL_law_790 (by decide) ?_
                              refine r_iadd X dL_law_791 ?_
                              refine r_sld X S dL_law_792 h (fun v34 h => ?_)
                              refine r_aload_n X dL_law_793 rfl 3 rfl ?_
                              refine r_callW X hk lk_L_105 (c_L_span (zl z) X.2.2.2.2.2.2.2.1 N (zD z) (zy z) (zA z) (zS z) v32 v33 v34 σ) ⟨Nat.le_trans (by decide) hR.1, Nat.le_trans (by decide) hR.2⟩ rfl rfl (Nat.le_of_ble_eq_true rfl) dL_law_794 h (fun v35 σ36 h => ?_)
                              refine r_istore X [(5, .int v35), (0, .ref b), (1, .ref (zA z 0)), (2, .ref (zA z 35)), (3, .ref (zA z 34)), (4, .int x4)] dL_law_797 (by decide) rfl ?_
                              refine r_aload_n X dL_law_799 rfl 3 rfl ?_
                              refine r_aload_n X dL_law_800 rfl 1 rfl ?_
                              refine r_iload X dL_law_801 5 rfl ?_
                              refine r_iconst X 1 dL_law_803 (by decide) ?_
                              refine r_iadd X dL_law_804 ?_
                              refine r_sld X S dL_law_805 h (fun v37 h => ?_)
                              refine r_aload_n X dL_law_806 rfl 1 rfl ?_
                              refine r_iload X dL_law_807 5 rfl ?_
                              refine r_iconst X 2 dL_law_809 (by decide) ?_
                              refine r_iadd X dL_law_810 ?_
                              refine r_sld X S dL_law_811 h (fun v38 h => ?_)
                              refine r_aload_n X dL_law_812 rfl 1 rfl ?_
                              refine r_iload X dL_law_813 5 rfl ?_
                              refine r_iconst X 3 dL_law_815 (by decide) ?_
                              refine r_iadd X dL_law_816 ?_
                              refine r_sld X S dL_law_817 h (fun v39 h => ?_)
                              refine r_callV X 35 8 (by decide) rfl rfl rfl lk_L_107 (c_X8_span (zl z) X.2.2.2.2.2.2.2.1 N (zD z) (zy z) (zA z) (zS z) v37 v38 v39 σ36) ⟨Nat.le_trans (by decide) hR.1, Nat.le_trans (by decide) hR.2⟩ rfl rfl (Nat.le_of_ble_eq_true rfl) dL_law_818 h (fun v40 σ41 h => ?_)
                              refine r_istore X [(6, .int v40), (5, .int v35), (0, .ref b), (1, .ref (zA z 0)), (2, .ref (zA z 35)), (3, .ref (zA z 34)), (4, .int x4)] dL_law_821 (by decide) rfl ?_
                              refine r_aload_n X dL_law_823 rfl 4 rfl ?_
                              refine r_callV X 35 8 (by decide) rfl rfl rfl lk_L_67 (c_X8_thrown (zl z) X.2.2.2.2.2.2.2.1 N (zD z) (zy z) (zA z) (zS z) σ41) ⟨Nat.le_trans (by decide) hR.1, Nat.le_trans (by decide) hR.2⟩ rfl rfl (Nat.le_of_ble_eq_true rfl) dL_law_824 h (fun v42 σ43 h => ?_)
                              refine r_iload X dL_law_827 1 rfl ?_
                              refine r_icmp_eq X 834 dL_law_829 (by decide) h (fun g44 h => ?_) (fun g44 h => ?_)
                              · refine r_iload X dL_law_834 1 rfl ?_
                                refine r_if_ne X 851 dL_law_836 (by decide) h (fun g45 h => ?_) (fun g45 h => ?_)
                                · refine r_aload_n X dL_law_839 rfl 5 rfl ?_
                                  refine r_iconst X 0 dL_law_840 (by decide) ?_
                                  refine r_lald X dL_law_841 ?_
                                  refine r_iload X dL_law_842 0 rfl ?_
                                  refine r_i2l X dL_law_844 ?_
                                  refine r_lcmp X 851 dL_law_845 dL_law_846 (by decide) h (fun g48 h => ?_) (fun g48 h => ?_)
                                  · refine r_goto X 978 dL_law_851 (by decide) ?_
                                    refine r_iincE X 4 (fun v47 => [(4, .int v47), (6, .int v40), (5, .int v35), (0, .ref b), (1, .ref (zA z 0)), (2, .ref (zA z 35)), (3, .ref (zA z 34))]) dL_law_978 6 rfl (by decide) (by decide) (fun _ => rfl) h (fun v47 ev h => ?_)
                                    refine r_goto X 23 dL_law_981 (by decide) ?_
                                    refine r_sub [3, 4, 5, 6, 0] rfl ?_
                                    exact ih (t + 1) v47 σ43 (by rw [ev, ei]; exact nI_add (4 * t) 4) hi.1 h
                                  · refine r_iconst X 0 dL_law_849 (by decide) ?_
                                    cases h
                                · refine r_goto X 978 dL_law_851 (by decide) ?_
                                  refine r_iincE X 4 (fun v46 => [(4, .int v46), (6, .int v40), (5, .int v35), (0, .ref b), (1, .ref (zA z 0)), (2, .ref (zA z 35)), (3, .ref (zA z 34))]) dL_law_978 6 rfl (by decide) (by decide) (fun _ => rfl) h (fun v46 ev h => ?_)
                                  refine r_goto X 23 dL_law_981 (by decide) ?_
                                  refine r_sub [3, 4, 5, 6, 0] rfl ?_
                                  exact ih (t + 1) v46 σ43 (by rw [ev, ei]; exact nI_add (4 * t) 4) hi.1 h
                              · refine r_iconst X 0 dL_law_832 (by decide) ?_
                                cases h
                            · rw [if_neg gs11] at h
                              by_cases gs12 : (v2 &&& 15) = 12
                              · rw [if_pos gs12] at h
                                refine sw_in X 12 854 815 gs12 (by decide) rfl (by decide) ?_
                                refine r_aload_n X dL_law_854 rfl 1 rfl ?_
                                refine r_aload_n X dL_law_855 rfl 0 rfl ?_
                                refine r_iload X dL_law_856 4 rfl ?_
                                refine r_iconst X 1 dL_law_858 (by decide) ?_
                                refine r_iadd X dL_law_859 ?_
                                refine r_sld X S dL_law_860 h (fun v17 h => ?_)
                                refine r_aload_n X dL_law_861 rfl 0 rfl ?_
                                refine r_iload X dL_law_862 4 rfl ?_
                                refine r_iconst X 2 dL_law_864 (by decide) ?_
                                refine r_iadd X dL_law_865 ?_
                                refine r_sld X S dL_law_866 h (fun v18 h => ?_)
                                refine r_aload_n X dL_law_867 rfl 3 rfl ?_
                                refine r_callW X hk lk_L_108 (c_L_outline (zl z) X.2.2.2.2.2.2.2.1 N (zD z) (zy z) (zA z) (zS z) v17 v18 σ) ⟨Nat.le_trans (by decide) hR.1, Nat.le_trans (by decide) hR.2⟩ rfl rfl (Nat.le_of_ble_eq_true rfl) dL_law_868 h (fun v19 σ20 h => ?_)
                                refine r_istore X [(5, .int v19), (0, .ref b), (1, .ref (zA z 0)), (2, .ref (zA z 35)), (3, .ref (zA z 34)), (4, .int x4)] dL_law_871 (by decide) rfl ?_
                                refine r_aload_n X dL_law_873 rfl 3 rfl ?_
                                refine r_aload_n X dL_law_874 rfl 1 rfl ?_
                                refine r_iload X dL_law_875 5 rfl ?_
                                refine r_iconst X 1 dL_law_877 (by decide) ?_
                                refine r_iadd X dL_law_878 ?_
                                refine r_sld X S dL_law_879 h (fun v21 h => ?_)
                                refine r_aload_n X dL_law_880 rfl 1 rfl ?_
                                refine r_iload X dL_law_881 5 rfl ?_
                                refine r_iconst X 2 dL_law_883 (by decide) ?_
                                refine r_iadd X dL_law_884 ?_
                                refine r_sld X S dL_law_885 h (fun v22 h => ?_)
                                refine r_callV X 35 8 (by decide) rfl rfl rfl lk_L_110 (c_X8_outline (zl z) X.2.2.2.2.2.2.2.1 N (zD z) (zy z) (zA z) (zS z) v21 v22 σ20) ⟨Nat.le_trans (by decide) hR.1, Nat.le_trans (by decide) hR.2⟩ rfl rfl (Nat.le_of_ble_eq_true rfl) dL_law_886 h (fun v23 σ24 h => ?_)
                                refine r_istore X [(6, .int v23), (5, .int v19), (0, .ref b), (1, .ref (zA z 0)), (2, .ref (zA z 35)), (3, .ref (zA z 34)), (4, .int x4)] dL_law_889 (by decide) rfl ?_
                                refine r_aload_n X dL_law_891 rfl 4 rfl ?_
                                refine r_callV X 35 8 (by decide) rfl rfl rfl lk_L_67 (c_X8_thrown (zl z) X.2.2.2.2.2.2.2.1 N (zD z) (zy z) (zA z) (zS z) σ24) ⟨Nat.le_trans (by decide) hR.1, Nat.le_trans (by decide) hR.2⟩ rfl rfl (Nat.le_of_ble_eq_true rfl) dL_law_892 h (fun v25 σ26 h => ?_)
                                refine r_iload X dL_law_895 1 rfl ?_
                                refine r_icmp_eq X 902 dL_law_897 (by decide) h (fun g27 h => ?_) (fun g27 h => ?_)
                                · refine r_iload X dL_law_902 1 rfl ?_
                                  refine r_if_ne X 919 dL_law_904 (by decide) h (fun g28 h => ?_) (fun g28 h => ?_)
                                  · refine r_aload_n X dL_law_907 rfl 5 rfl ?_
                                    refine r_iconst X 0 dL_law_908 (by decide) ?_
                                    refine r_lald X dL_law_909 ?_
                                    refine r_iload X dL_law_910 0 rfl ?_
                                    refine r_i2l X dL_law_912 ?_
                                    refine r_lcmp X 919 dL_law_913 dL_law_914 (by decide) h (fun g31 h => ?_) (fun g31 h => ?_)
                                    · refine r_goto X 978 dL_law_919 (by decide) ?_
                                      refine r_iincE X 4 (fun v30 => [(4, .int v30), (6, .int v23), (5, .int v19), (0, .ref b), (1, .ref (zA z 0)), (2, .ref (zA z 35)), (3, .ref (zA z 34))]) dL_law_978 6 rfl (by decide) (by decide) (fun _ => rfl) h (fun v30 ev h => ?_)
                                      refine r_goto X 23 dL_law_981 (by decide) ?_
                                      refine r_sub [3, 4, 5, 6, 0] rfl ?_
                                      exact ih (t + 1) v30 σ26 (by rw [ev, ei]; exact nI_add (4 * t) 4) hi.1 h
                                    · refine r_iconst X 0 dL_law_917 (by decide) ?_
                                      cases h
                                  · refine r_goto X 978 dL_law_919 (by decide) ?_
                                    refine r_iincE X 4 (fun v29 => [(4, .int v29), (6, .int v23), (5, .int v19), (0, .ref b), (1, .ref (zA z 0)), (2, .ref (zA z 35)), (3, .ref (zA z 34))]) dL_law_978 6 rfl (by decide) (by decide) (fun _ => rfl) h (fun v29 ev h => ?_)
                                    refine r_goto X 23 dL_law_981 (by decide) ?_
                                    refine r_sub [3, 4, 5, 6, 0] rfl ?_
                                    exact ih (t + 1) v29 σ26 (by rw [ev, ei]; exact nI_add (4 * t) 4) hi.1 h
                                · refine r_iconst X 0 dL_law_900 (by decide) ?_
                                  cases h
                              · rw [if_neg gs12] at h
                                by_cases gs13 : (v2 &&& 15) = 13
                                · rw [if_pos gs13] at h
                                  refine sw_in X 13 922 883 gs13 (by decide) rfl (by decide) ?_
                                  refine r_aload_n X dL_law_922 rfl 1 rfl ?_
                                  refine r_aload_n X dL_law_923 rfl 0 rfl ?_
                                  refine r_iload X dL_law_924 4 rfl ?_
                                  refine r_iconst X 1 dL_law_926 (by decide) ?_
                                  refine r_iadd X dL_law_927 ?_
                                  refine r_sld X S dL_law_928 h (fun v4 h => ?_)
                                  refine r_aload_n X dL_law_929 rfl 3 rfl ?_
                                  refine r_callW X hk lk_L_111 (c_L_untagged (zl z) X.2.2.2.2.2.2.2.1 N (zD z) (zy z) (zA z) (zS z) v4 σ) ⟨Nat.le_trans (by decide) hR.1, Nat.le_trans (by decide) hR.2⟩ rfl rfl (Nat.le_of_ble_eq_true rfl) dL_law_930 h (fun v5 σ6 h => ?_)
                                  refine r_istore X [(5, .int v5), (0, .ref b), (1, .ref (zA z 0)), (2, .ref (zA z 35)), (3, .ref (zA z 34)), (4, .int x4)] dL_law_933 (by decide) rfl ?_
                                  refine r_aload_n X dL_law_935 rfl 3 rfl ?_
                                  refine r_aload_n X dL_law_936 rfl 1 rfl ?_
                                  refine r_iload X dL_law_937 5 rfl ?_
                                  refine r_iconst X 1 dL_law_939 (by decide) ?_
                                  refine r_iadd X dL_law_940 ?_
                                  refine r_sld X S dL_law_941 h (fun v7 h => ?_)
                                  refine r_callV X 35 8 (by decide) rfl rfl rfl lk_L_114 (c_X8_untagged (zl z) X.2.2.2.2.2.2.2.1 N (zD z) (zy z) (zA z) (zS z) v7 σ6) ⟨Nat.le_trans (by decide) hR.1, Nat.le_trans (by decide) hR.2⟩ rfl rfl (Nat.le_of_ble_eq_true rfl) dL_law_942 h (fun v8 σ9 h => ?_)
                                  refine r_istore X [(6, .int v8), (5, .int v5), (0, .ref b), (1, .ref (zA z 0)), (2, .ref (zA z 35)), (3, .ref (zA z 34)), (4, .int x4)] dL_law_945 (by decide) rfl ?_
                                  refine r_aload_n X dL_law_947 rfl 4 rfl ?_
                                  refine r_callV X 35 8 (by decide) rfl rfl rfl lk_L_67 (c_X8_thrown (zl z) X.2.2.2.2.2.2.2.1 N (zD z) (zy z) (zA z) (zS z) σ9) ⟨Nat.le_trans (by decide) hR.1, Nat.le_trans (by decide) hR.2⟩ rfl rfl (Nat.le_of_ble_eq_true rfl) dL_law_948 h (fun v10 σ11 h => ?_)
                                  refine r_iload X dL_law_951 1 rfl ?_
                                  refine r_icmp_eq X 958 dL_law_953 (by decide) h (fun g12 h => ?_) (fun g12 h => ?_)
                                  · refine r_iload X dL_law_958 1 rfl ?_
                                    refine r_if_ne X 975 dL_law_960 (by decide) h (fun g13 h => ?_) (fun g13 h => ?_)
                                    · refine r_aload_n X dL_law_963 rfl 5 rfl ?_
                                      refine r_iconst X 0 dL_law_964 (by decide) ?_
                                      refine r_lald X dL_law_965 ?_
                                      refine r_iload X dL_law_966 0 rfl ?_
                                      refine r_i2l X dL_law_968 ?_
                                      refine r_lcmp X 975 dL_law_969 dL_law_970 (by decide) h (fun g16 h => ?_) (fun g16 h => ?_)
                                      · refine r_goto X 978 dL_law_975 (by decide) ?_
                                        refine r_iincE X 4 (fun v15 => [(4, .int v15), (6, .int v8), (5, .int v5), (0, .ref b), (1, .ref (zA z 0)), (2, .ref (zA z 35)), (3, .ref (zA z 34))]) dL_law_978 6 rfl (by decide) (by decide) (fun _ => rfl) h (fun v15 ev h => ?_)
                                        refine r_goto X 23 dL_law_981 (by decide) ?_
                                        refine r_sub [3, 4, 5, 6, 0] rfl ?_
                                        exact ih (t + 1) v15 σ11 (by rw [ev, ei]; exact nI_add (4 * t) 4) hi.1 h
                                      · refine r_iconst X 0 dL_law_973 (by decide) ?_
                                        cases h
                                    · refine r_goto X 978 dL_law_975 (by decide) ?_
                                      refine r_iincE X 4 (fun v14 => [(4, .int v14), (6, .int v8), (5, .int v5), (0, .ref b), (1, .ref (zA z 0)), (2, .ref (zA z 35)), (3, .ref (zA z 34))]) dL_law_978 6 rfl (by decide) (by decide) (fun _ => rfl) h (fun v14 ev h => ?_)
                                      refine r_goto X 23 dL_law_981 (by decide) ?_
                                      refine r_sub [3, 4, 5, 6, 0] rfl ?_
                                      exact ih (t + 1) v14 σ11 (by rw [ev, ei]; exact nI_add (4 * t) 4) hi.1 h
                                  · refine r_iconst X 0 dL_law_956 (by decide) ?_
                                    cases h
                                · rw [if_neg gs13] at h
                                  refine sw_out X (fun c hc e9 => ?_) ?_
                                  · rcases (show c = 0 ∨ c = 1 ∨ c = 2 ∨ c = 3 ∨ c = 4 ∨ c = 5 ∨ c = 6 ∨ c = 7 ∨ c = 8 ∨ c = 9 ∨ c = 10 ∨ c = 11 ∨ c = 12 ∨ c = 13 by omega) with rfl | rfl | rfl | rfl | rfl | rfl | rfl | rfl | rfl | rfl | rfl | rfl | rfl | rfl
                                    · exact gs0 e9
                                    · exact gs1 e9
                                    · exact gs2 e9
                                    · exact gs3 e9
                                    · exact gs4 e9
                                    · exact gs5 e9
                                    · exact gs6 e9
                                    · exact gs7 e9
                                    · exact gs8 e9
                                    · exact gs9 e9
                                    · exact gs10 e9
                                    · exact gs11 e9
                                    · exact gs12 e9
                                    · exact gs13 e9
                                  · refine r_kup hk ?_
                                    refine r_iincE X 4 (fun v3 => [(4, .int v3), (0, .ref b), (1, .ref (zA z 0)), (2, .ref (zA z 35)), (3, .ref (zA z 34))]) dL_law_978 4 rfl (by decide) (by decide) (fun _ => rfl) h (fun v3 ev h => ?_)
                                    refine r_goto X 23 dL_law_981 (by decide) ?_
                                    refine r_sub [1, 2, 3, 4, 0] rfl ?_
                                    exact ih (t + 1) v3 σ (by rw [ev, ei]; exact nI_add (4 * t) 4) hi.1 h
