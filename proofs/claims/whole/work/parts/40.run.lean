/-! ===== the walk as one list ===== -/
section WK
variable (kp kn ix : Nat → Nat) (nk : Nat)
/-- the kid that stands first from place j on in e, or behind e -/
def srch : Nat → Nat → Nat → Option Nat
  | 0, e, j => if nxt kp nk e j < nk then some (nxt kp nk e j) else none
  | f + 1, e, j => if nxt kp nk e j < nk then some (nxt kp nk e j) else if e = 0 then none else srch f (kp (ix e)) (ix e + 1)
def Run (ar : Nat → Prop) : Nat → Nat → Nat → List Nat → Prop
  | 0, e, j, L => srch kp ix nk e e j = none ∧ L = []
  | n + 1, e, j, L => (srch kp ix nk e e j = none ∧ L = []) ∨ ∃ t, srch kp ix nk e e j = some t ∧ ((1000 ≤ kn t ∧ ∃ L', L = t :: L' ∧ Run ar n (kp t) (t + 1) L') ∨ (kn t < 1000 ∧ ar (kn t) ∧ Run ar n (kp t) (t + 1) L) ∨ (kn t < 1000 ∧ ¬ ar (kn t) ∧ ∃ L', L = t :: L' ∧ Run ar n (kn t) 0 L'))
def pr (x : Nat) : Nat := if x = 0 then 0 else kp (ix x)
def pri : Nat → Nat → Nat
  | 0, x => x
  | n + 1, x => pri n (pr kp ix x)
def Anc (e a : Nat) : Prop := ∃ i, pri kp ix i e = a
/-- what the tree's lists keep -/
def Tr (ne : Nat) : Prop := (∀ j, j < nk → kp j < ne) ∧ (∀ j, j < nk → (1 ≤ kn j ∧ kn j < ne ∧ kp j < kn j) ∨ (1000 ≤ kn j ∧ kn j < 1200)) ∧ (∀ i j, i < nk → j < nk → kn i = kn j → i = j) ∧ (∀ e, 1 ≤ e → e < ne → ix e < nk ∧ kn (ix e) = e)
end WK
theorem Tr_pr {kp kn ix : Nat → Nat} {nk ne : Nat} (h : Tr kp kn ix nk ne) {e : Nat} (h1 : 1 ≤ e) (h2 : e < ne) (hne : ne ≤ 60) : ix e < nk ∧ kn (ix e) = e ∧ kp (ix e) < e := by
  obtain ⟨g1, g2⟩ := h.2.2.2 e h1 h2
  rcases h.2.1 (ix e) g1 with g | g
  · exact ⟨g1, g2, by omega⟩
  · omega
theorem Tr_ex {kf kd : Nat → Int32} {ne nk : Nat} {kp kn : Nat → Nat} (hK : gK kf kd ne nk kp kn) : ∃ ix, Tr kp kn ix nk ne := by
  refine ⟨fun e => if h : 1 ≤ e ∧ e < ne then (hK.2.2.2.2 e h.1 h.2).choose else 0, fun j hj => (hK.1 j hj).2.2, hK.2.1, fun i j hi hj e => gK_inj hK hi hj e, fun e h1 h2 => ?_⟩
  show (if h : 1 ≤ e ∧ e < ne then (hK.2.2.2.2 e h.1 h.2).choose else 0) < nk ∧ kn (if h : 1 ≤ e ∧ e < ne then (hK.2.2.2.2 e h.1 h.2).choose else 0) = e
  rw [dif_pos ⟨h1, h2⟩]
  exact (hK.2.2.2.2 e h1 h2).choose_spec
theorem nxt_y {kp : Nat → Nat} {nk e j : Nat} (h : nxt kp nk e j < nk) : j ≤ nxt kp nk e j ∧ kp (nxt kp nk e j) = e ∧ ∀ i, j ≤ i → i < nxt kp nk e j → kp i ≠ e := by
  rcases nx_spec kp nk e (nk - j) j rfl with ⟨h1, h2, h3, h4⟩ | ⟨h1, h2⟩
  · exact ⟨h2, h3, h4⟩
  · exact absurd h h1
theorem nxt_n {kp : Nat → Nat} {nk e j : Nat} (h : ¬ nxt kp nk e j < nk) : ∀ i, j ≤ i → i < nk → kp i ≠ e := by
  rcases nx_spec kp nk e (nk - j) j rfl with ⟨h1, h2, h3, h4⟩ | ⟨h1, h2⟩
  · exact absurd h1 h
  · exact h2
theorem srch_f {kp kn ix : Nat → Nat} {nk ne : Nat} (h : Tr kp kn ix nk ne) (hne : ne ≤ 60) : ∀ f f' e j, e ≤ f → e ≤ f' → e < ne → srch kp ix nk f e j = srch kp ix nk f' e j := by
  intro f
  induction f with
  | zero =>
    intro f' e j h1 h2 h3
    cases f' with
    | zero => rfl
    | succ f' =>
      rw [srch, srch]
      by_cases g : nxt kp nk e j < nk
      · rw [if_pos g, if_pos g]
      · rw [if_neg g, if_neg g, if_pos (by omega)]
  | succ f ih =>
    intro f' e j h1 h2 h3
    cases f' with
    | zero =>
      rw [srch, srch]
      by_cases g : nxt kp nk e j < nk
      · rw [if_pos g, if_pos g]
      · rw [if_neg g, if_neg g, if_pos (by omega)]
    | succ f' =>
      rw [srch, srch]
      by_cases g : nxt kp nk e j < nk
      · rw [if_pos g, if_pos g]
      · rw [if_neg g, if_neg g]
        by_cases e0 : e = 0
        · rw [if_pos e0, if_pos e0]
        · rw [if_neg e0, if_neg e0]
          obtain ⟨q1, q2, q3⟩ := Tr_pr h (show 1 ≤ e by omega) h3 hne
          exact ih f' _ _ (by omega) (by omega) (by omega)
/-- one look, then from the parent on -/
theorem srch_y {kp ix : Nat → Nat} {nk e j : Nat} (g : nxt kp nk e j < nk) : srch kp ix nk e e j = some (nxt kp nk e j) := by
  cases e with
  | zero => rw [srch, if_pos g]
  | succ e => rw [srch, if_pos g]
theorem srch_0 {kp ix : Nat → Nat} {nk j : Nat} (g : ¬ nxt kp nk 0 j < nk) : srch kp ix nk 0 0 j = none := by
  rw [srch, if_neg g]
theorem srch_n {kp kn ix : Nat → Nat} {nk ne e j : Nat} (h : Tr kp kn ix nk ne) (hne : ne ≤ 60) (he : e < ne) (e0 : e ≠ 0) (g : ¬ nxt kp nk e j < nk) : srch kp ix nk e e j = srch kp ix nk (kp (ix e)) (kp (ix e)) (ix e + 1) := by
  obtain ⟨q1, q2, q3⟩ := Tr_pr h (show 1 ≤ e by omega) he hne
  obtain ⟨f, rfl⟩ : ∃ f, e = f + 1 := ⟨e - 1, by omega⟩
  rw [srch, if_neg g, if_neg e0]
  exact srch_f h hne _ _ _ _ (by omega) (by omega) (by omega)
theorem anc_0 {kp ix : Nat → Nat} (e : Nat) : Anc kp ix e e := ⟨0, rfl⟩
theorem anc_s {kp ix : Nat → Nat} {e a : Nat} (h : Anc kp ix (pr kp ix e) a) : Anc kp ix e a := by
  obtain ⟨i, hi⟩ := h
  exact ⟨i + 1, hi⟩
theorem anc_t {kp ix : Nat → Nat} {e a b : Nat} (h : Anc kp ix e a) (h2 : Anc kp ix a b) : Anc kp ix e b := by
  obtain ⟨i, hi⟩ := h
  induction i generalizing e with
  | zero => rw [show e = a from hi]; exact h2
  | succ i ih => exact anc_s (ih hi)
theorem anc_up {kp ix : Nat → Nat} {e a : Nat} (h : Anc kp ix e a) : Anc kp ix e (pr kp ix a) := anc_t h (anc_s (anc_0 _))
theorem anc_le {kp kn ix : Nat → Nat} {nk ne : Nat} (h : Tr kp kn ix nk ne) (hne : ne ≤ 60) : ∀ i e, e < ne → pri kp ix i e ≤ e := by
  intro i
  induction i with
  | zero => intro e _; exact Nat.le_refl _
  | succ i ih =>
    intro e he
    by_cases e0 : e = 0
    · have := ih (pr kp ix e) (by rw [pr, if_pos e0]; omega)
      rw [pri]
      rw [pr, if_pos e0] at this ⊢
      omega
    · obtain ⟨q1, q2, q3⟩ := Tr_pr h (show 1 ≤ e by omega) he hne
      have := ih (pr kp ix e) (by rw [pr, if_neg e0]; omega)
      rw [pri]
      rw [pr, if_neg e0] at this ⊢
      omega
theorem srch_some {kp kn ix : Nat → Nat} {nk ne : Nat} (h : Tr kp kn ix nk ne) (hne : ne ≤ 60) {t : Nat} : ∀ f e j, e < ne → srch kp ix nk f e j = some t → t < nk ∧ Anc kp ix e (kp t) ∧ ((kp t = e ∧ j ≤ t) ∨ ∃ a, Anc kp ix e a ∧ a ≠ 0 ∧ kp t = kp (ix a) ∧ ix a < t) := by
  intro f
  induction f with
  | zero =>
    intro e j he hs
    rw [srch] at hs
    by_cases g : nxt kp nk e j < nk
    · rw [if_pos g] at hs
      have := nxt_y g
      have e1 : nxt kp nk e j = t := Option.some.inj hs
      rw [e1] at this g
      exact ⟨g, by rw [this.2.1]; exact anc_0 _, Or.inl ⟨this.2.1, this.1⟩⟩
    · rw [if_neg g] at hs; exact absurd hs (by simp)
  | succ f ih =>
    intro e j he hs
    rw [srch] at hs
    by_cases g : nxt kp nk e j < nk
    · rw [if_pos g] at hs
      have := nxt_y g
      have e1 : nxt kp nk e j = t := Option.some.inj hs
      rw [e1] at this g
      exact ⟨g, by rw [this.2.1]; exact anc_0 _, Or.inl ⟨this.2.1, this.1⟩⟩
    · rw [if_neg g] at hs
      by_cases e0 : e = 0
      · rw [if_pos e0] at hs; exact absurd hs (by simp)
      · rw [if_neg e0] at hs
        obtain ⟨q1, q2, q3⟩ := Tr_pr h (show 1 ≤ e by omega) he hne
        have hpe : pr kp ix e = kp (ix e) := by rw [pr, if_neg e0]
        obtain ⟨r1, r2, r3⟩ := ih _ _ (by omega) hs
        refine ⟨r1, anc_s (by rw [hpe]; exact r2), Or.inr ?_⟩
        rcases r3 with ⟨s1, s2⟩ | ⟨a, s1, s2, s3, s4⟩
        · exact ⟨e, anc_0 _, e0, s1, by omega⟩
        · exact ⟨a, anc_s (by rw [hpe]; exact s1), s2, s3, s4⟩
def gl (L : List Nat) (i : Nat) : Nat := if h : i < L.length then L[i] else 0
theorem gl_eq {L : List Nat} {i : Nat} (h : i < L.length) : gl L i = L[i] := by unfold gl; rw [dif_pos h]
theorem gl_mem {L : List Nat} {i : Nat} (h : i < L.length) : gl L i ∈ L := by rw [gl_eq h]; exact List.getElem_mem h
theorem pigL {m : Nat} {L : List Nat} (h1 : L.Nodup) (h2 : ∀ x, x ∈ L → x < m) : L.length ≤ m := by
  refine pigeon m L.length (gl L) (fun i hi => h2 _ (gl_mem hi)) (fun i j hij hj => ?_)
  rw [gl_eq hj, gl_eq (show i < L.length by omega)]
  exact (List.pairwise_iff_getElem.mp h1) i j (by omega) hj hij
def Good (kp ix : Nat → Nat) (V : List Nat) (e j : Nat) : Prop := (∀ t, t ∈ V → kp t = e → t < j) ∧ (∀ a, Anc kp ix e a → a ≠ 0 → ix a ∈ V ∧ ∀ t, t ∈ V → kp t = kp (ix a) → t ≤ ix a) ∧ (∀ t, t ∈ V → kp t ≠ 0 → ix (kp t) ∈ V)
theorem run_ex {kp kn ix : Nat → Nat} {nk ne : Nat} (h : Tr kp kn ix nk ne) (hne : ne ≤ 60) (ar : Nat → Prop) : ∀ m (V : List Nat) e j, e < ne → V.Nodup → (∀ t, t ∈ V → t < nk) → nk ≤ V.length + m → Good kp ix V e j → ∃ L, Run kp kn ix nk ar m e j L ∧ L.Nodup ∧ ∀ t, t ∈ L → t < nk ∧ t ∉ V := by
  intro m
  induction m with
  | zero =>
    intro V e j he hV hV2 hm hG
    cases hs : srch kp ix nk e e j with
    | none => exact ⟨[], ⟨hs, rfl⟩, List.nodup_nil, fun t ht => absurd ht (by simp)⟩
    | some t =>
      exfalso
      obtain ⟨r1, r2, r3⟩ := srch_some h hne e e j he hs
      have hnV : t ∉ V := by
        intro hin
        rcases r3 with ⟨s1, s2⟩ | ⟨a, s1, s2, s3, s4⟩
        · have := hG.1 t hin s1; omega
        · have := (hG.2.1 a s1 s2).2 t hin s3; omega
      have := pigL (m := nk) (L := t :: V) (List.nodup_cons.mpr ⟨hnV, hV⟩) (fun x hx => by
        rcases List.mem_cons.mp hx with g | g
        · rw [g]; exact r1
        · exact hV2 x g)
      rw [List.length_cons] at this
      omega
  | succ m ih =>
    intro V e j he hV hV2 hm hG
    cases hs : srch kp ix nk e e j with
    | none => exact ⟨[], Or.inl ⟨hs, rfl⟩, List.nodup_nil, fun t ht => absurd ht (by simp)⟩
    | some t =>
      obtain ⟨r1, r2, r3⟩ := srch_some h hne e e j he hs
      have hold : ∀ t', t' ∈ V → kp t' = kp t → t' < t := by
        intro t' hin hk
        rcases r3 with ⟨s1, s2⟩ | ⟨a, s1, s2, s3, s4⟩
        · have := hG.1 t' hin (by rw [hk, s1]); omega
        · have := (hG.2.1 a s1 s2).2 t' hin (by rw [hk, s3]); omega
      have hnV : t ∉ V := fun hin => absurd (hold t hin rfl) (by omega)
      have hV' : (t :: V).Nodup := List.nodup_cons.mpr ⟨hnV, hV⟩
      have hV2' : ∀ x, x ∈ t :: V → x < nk := fun x hx => by
        rcases List.mem_cons.mp hx with g | g
        · rw [g]; exact r1
        · exact hV2 x g
      have hlen : nk ≤ (t :: V).length + m := by rw [List.length_cons]; omega
      have hkt := h.1 t r1
      have hle : ∀ a, Anc kp ix (kp t) a → a ≤ kp t := fun a ⟨i, hi⟩ => by rw [← hi]; exact anc_le h hne i _ hkt
      have g2 : ∀ a, Anc kp ix (kp t) a → a ≠ 0 → ix a ∈ t :: V ∧ ∀ t', t' ∈ t :: V → kp t' = kp (ix a) → t' ≤ ix a := by
        intro a ha ha0
        obtain ⟨w1, w2⟩ := hG.2.1 a (anc_t r2 ha) ha0
        refine ⟨List.mem_cons_of_mem _ w1, fun t' ht' hk => ?_⟩
        rcases List.mem_cons.mp ht' with g | g
        · have := hle a ha
          have := (Tr_pr h (show 1 ≤ a by omega) (by omega) hne).2.2
          rw [g] at hk
          omega
        · exact w2 t' g hk
      have g3 : ∀ t', t' ∈ t :: V → kp t' ≠ 0 → ix (kp t') ∈ t :: V := by
        intro t' ht' hk
        rcases List.mem_cons.mp ht' with g | g
        · rw [g] at hk ⊢
          exact List.mem_cons_of_mem _ (hG.2.1 _ r2 hk).1
        · exact List.mem_cons_of_mem _ (hG.2.2 t' g hk)
      have hGs : Good kp ix (t :: V) (kp t) (t + 1) := by
        refine ⟨fun t' ht' hk => ?_, g2, g3⟩
        rcases List.mem_cons.mp ht' with g | g
        · omega
        · have := hold t' g hk; omega
      have fin : ∀ L : List Nat, (∀ x, x ∈ L → x < nk ∧ x ∉ t :: V) → (∀ x, x ∈ L → x < nk ∧ x ∉ V) := fun L hL x hx => ⟨(hL x hx).1, fun g => (hL x hx).2 (List.mem_cons_of_mem _ g)⟩
      have fin2 : ∀ L : List Nat, (∀ x, x ∈ L → x < nk ∧ x ∉ t :: V) → (∀ x, x ∈ t :: L → x < nk ∧ x ∉ V) := fun L hL x hx => by
        rcases List.mem_cons.mp hx with g | g
        · rw [g]; exact ⟨r1, hnV⟩
        · exact fin L hL x g
      have nod : ∀ L : List Nat, L.Nodup → (∀ x, x ∈ L → x < nk ∧ x ∉ t :: V) → (t :: L).Nodup := fun L h1 h2 => List.nodup_cons.mpr ⟨fun g => (h2 t g).2 (List.mem_cons_self ..), h1⟩
      by_cases hp : 1000 ≤ kn t
      · obtain ⟨L, l1, l2, l3⟩ := ih (t :: V) (kp t) (t + 1) hkt hV' hV2' hlen hGs
        exact ⟨t :: L, Or.inr ⟨t, hs, Or.inl ⟨hp, L, rfl, l1⟩⟩, nod L l2 l3, fin2 L l3⟩
      · by_cases ha : ar (kn t)
        · obtain ⟨L, l1, l2, l3⟩ := ih (t :: V) (kp t) (t + 1) hkt hV' hV2' hlen hGs
          exact ⟨L, Or.inr ⟨t, hs, Or.inr (Or.inl ⟨by omega, ha, l1⟩)⟩, l2, fin L l3⟩
        · have hkn : 1 ≤ kn t ∧ kn t < ne ∧ kp t < kn t := by
            rcases h.2.1 t r1 with g | g
            · exact g
            · omega
          have hix : ix (kn t) = t := by
            obtain ⟨q1, q2⟩ := h.2.2.2 (kn t) hkn.1 hkn.2.1
            exact h.2.2.1 _ _ q1 r1 q2
          have hpk : pr kp ix (kn t) = kp t := by rw [pr, if_neg (by omega), hix]
          have hGe : Good kp ix (t :: V) (kn t) 0 := by
            refine ⟨fun t' ht' hk => ?_, fun a ha9 ha0 => ?_, g3⟩
            · exfalso
              rcases List.mem_cons.mp ht' with g | g
              · rw [g] at hk; omega
              · have := hG.2.2 t' g (by omega)
                rw [hk, hix] at this
                exact hnV this
            · obtain ⟨i, hi⟩ := ha9
              cases i with
              | zero =>
                have hi' : kn t = a := hi
                rw [← hi', hix]
                refine ⟨List.mem_cons_self .., fun t' ht' hk => ?_⟩
                have := hGs.1 t' ht' hk
                omega
              | succ i =>
                rw [pri, hpk] at hi
                exact g2 a ⟨i, hi⟩ ha0
          obtain ⟨L, l1, l2, l3⟩ := ih (t :: V) (kn t) 0 hkn.2.1 hV' hV2' hlen hGe
          exact ⟨t :: L, Or.inr ⟨t, hs, Or.inr (Or.inr ⟨by omega, ha, L, rfl, l1⟩)⟩, nod L l2 l3, fin2 L l3⟩
theorem run_0 {kp kn ix : Nat → Nat} {nk ne : Nat} (h : Tr kp kn ix nk ne) (hne : ne ≤ 60) (h1 : 1 ≤ ne) (ar : Nat → Prop) : ∃ L, Run kp kn ix nk ar nk 0 0 L ∧ L.Nodup ∧ ∀ t, t ∈ L → t < nk := by
  obtain ⟨L, l1, l2, l3⟩ := run_ex h hne ar nk [] 0 0 (by omega) List.nodup_nil (fun t ht => absurd ht (by simp)) (by simp) ⟨fun t ht => absurd ht (by simp), fun a ⟨i, hi⟩ ha0 => by
    have := anc_le h hne i 0 (by omega)
    omega, fun t ht => absurd ht (by simp)⟩
  exact ⟨L, l1, l2, fun t ht => (l3 t ht).1⟩
