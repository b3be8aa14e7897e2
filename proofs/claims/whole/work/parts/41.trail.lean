def ptr (kn : Nat → Nat) : Option Nat → Int32
  | none => -1
  | some t => nI (nd (kn t))
def wrL (f : Nat → Int32) (a : Nat) (L : List Nat) : Nat → Int32 := fun i => if a ≤ i ∧ i < a + L.length then nI (gl L (i - a)) else f i
theorem wrL_nil (f : Nat → Int32) (a : Nat) : wrL f a [] = f := by
  funext i
  unfold wrL
  rw [if_neg (by rw [List.length_nil]; omega)]
theorem gl_0 (x : Nat) (L : List Nat) : gl (x :: L) 0 = x := by
  rw [gl_eq (by rw [List.length_cons]; omega)]; rfl
theorem gl_s (x : Nat) (L : List Nat) (i : Nat) : gl (x :: L) (i + 1) = gl L i := by
  unfold gl
  by_cases h : i < L.length
  · rw [dif_pos h, dif_pos (by rw [List.length_cons]; omega)]; rfl
  · rw [dif_neg h, dif_neg (by rw [List.length_cons]; omega)]
theorem wrL_cons (f : Nat → Int32) (a x : Nat) (L : List Nat) : wrL (upd f a (nI x)) (a + 1) L = wrL f a (x :: L) := by
  funext i
  unfold wrL
  by_cases h : i = a
  · subst h
    rw [if_neg (by omega), upd_s, if_pos (by rw [List.length_cons]; omega), Nat.sub_self, gl_0]
  · by_cases g : a + 1 ≤ i ∧ i < a + 1 + L.length
    · rw [if_pos g, if_pos (by rw [List.length_cons]; omega), show i - a = (i - (a + 1)) + 1 by omega, gl_s]
    · rw [if_neg g, upd_n h, if_neg (by rw [List.length_cons]; omega)]
theorem wrL_at {f : Nat → Int32} {a i : Nat} {L : List Nat} (h : i < L.length) : wrL f a L (a + i) = nI (gl L i) := by
  unfold wrL
  rw [if_pos (by omega), Nat.add_sub_cancel_left]
def els (kn : Nat → Nat) : List Nat → List Nat
  | [] => []
  | t :: L => if kn t < 1000 then kn t :: els kn L else els kn L
def pts (kn : Nat → Nat) : List Nat → List Nat
  | [] => []
  | t :: L => if kn t < 1000 then pts kn L else (kn t - 1000) :: pts kn L
def KF : Int32 → Sg → Option (Int32 × Sg) := fun v7 σ8 => if v7 = (-1) then (some ((-1), σ8)) else (rdA 260 (σ8 8) v7 (fun v10 => some (v10, σ8)))
theorem fb_root {N : Nat} {σ : Sg} (h7 : σ 7 0 = -1) (h8 : σ 8 0 = -1) {s n : Nat} (hs : s + 2 ≤ 260) (hn : 2 ≤ n) : f_X6_firstBehind_4 N KF n 0 (nI s) σ = some (-1, σ) := by
  obtain ⟨n, rfl⟩ : ∃ k, n = k + 2 := ⟨n - 2, by omega⟩
  rw [f_X6_firstBehind_4, if_neg (by rw [show (260 : Int32) = nI 260 from rfl, leN (by decide) (by omega)]; omega), if_neg (by decide), rdA_eq _ 0 nI_0.symm (by decide) (by decide), if_pos h8, rdA_eq _ 0 nI_0.symm (by decide) (by decide), h7, lt_eq, f_X6_firstBehind_4]
  by_cases g : 260 ≤ nI s + 1
  · rw [if_pos g]; rfl
  · rw [if_neg g, if_pos rfl]; rfl
theorem nd_n1 {kp kn ix : Nat → Nat} {nk ne : Nat} (h : Tr kp kn ix nk ne) (hne : ne ≤ 60) {j : Nat} (hj : j < nk) : 1 ≤ nd (kn j) ∧ nd (kn j) < 260 := by
  refine nd_lt hne ?_
  rcases h.2.1 j hj with g | g
  · exact Or.inl ⟨g.1, g.2.1⟩
  · exact Or.inr g
theorem root_78 {σ : Sg} {kp kn ix : Nat → Nat} {nk ne : Nat} (h : Tr kp kn ix nk ne) (hne : ne ≤ 60) (hT : gT (σ 5) (σ 6) (σ 7) (σ 8) nk kp kn) : σ 7 0 = -1 ∧ σ 8 0 = -1 :=
  hT.2.2.2.1 0 (by decide) (fun j hj e => by have := nd_n1 h hne hj; omega)
theorem fb_kid {N : Nat} {σ : Sg} {kp kn ix : Nat → Nat} {nk ne : Nat} (h : Tr kp kn ix nk ne) (hne : ne ≤ 60) (hT : gT (σ 5) (σ 6) (σ 7) (σ 8) nk kp kn) : ∀ f j s n, j < nk → kp j ≤ f → s + f + 4 ≤ 260 → f + 4 ≤ n → f_X6_firstBehind_4 N KF n (nI (nd (kn j))) (nI s) σ = some (ptr kn (srch kp ix nk (kp j) (kp j) (j + 1)), σ) := by
  intro f
  induction f with
  | zero =>
    intro j s n hj hf hs hn
    obtain ⟨n, rfl⟩ : ∃ k, n = k + 1 := ⟨n - 1, by omega⟩
    have hd := nd_n1 h hne hj
    have h5 := hT.2.2.2.2 j hj
    have h0 : kp j = 0 := by omega
    rw [f_X6_firstBehind_4, if_neg (by rw [show (260 : Int32) = nI 260 from rfl, leN (by decide) (by omega)]; omega), if_neg (m1_ne (by omega)), rdA_eq _ (nd (kn j)) rfl hd.2 (by decide), h5]
    unfold lnk
    by_cases g : nxt kp nk (kp j) (j + 1) < nk
    · have hd2 := nd_n1 h hne g
      rw [if_pos g, if_neg (m1_ne (by omega)), srch_y g, KF, if_neg (m1_ne (by omega)), rdA_eq _ (nd (kn j)) rfl hd.2 (by decide), h5]
      unfold lnk
      rw [if_pos g]; rfl
    · rw [if_neg g, if_pos rfl, rdA_eq _ (nd (kn j)) rfl hd.2 (by decide), hT.2.2.1 j hj, lt_eq, nI_1, h0, nI_0, fb_root (root_78 h hne hT).1 (root_78 h hne hT).2 (by omega) (by omega)]
      rw [h0] at g
      rw [srch_0 g]; rfl
  | succ f ih =>
    intro j s n hj hf hs hn
    obtain ⟨n, rfl⟩ : ∃ k, n = k + 1 := ⟨n - 1, by omega⟩
    have hd := nd_n1 h hne hj
    have h5 := hT.2.2.2.2 j hj
    rw [f_X6_firstBehind_4, if_neg (by rw [show (260 : Int32) = nI 260 from rfl, leN (by decide) (by omega)]; omega), if_neg (m1_ne (by omega)), rdA_eq _ (nd (kn j)) rfl hd.2 (by decide), h5]
    unfold lnk
    by_cases g : nxt kp nk (kp j) (j + 1) < nk
    · have hd2 := nd_n1 h hne g
      rw [if_pos g, if_neg (m1_ne (by omega)), srch_y g, KF, if_neg (m1_ne (by omega)), rdA_eq _ (nd (kn j)) rfl hd.2 (by decide), h5]
      unfold lnk
      rw [if_pos g]; rfl
    · rw [if_neg g, if_pos rfl, rdA_eq _ (nd (kn j)) rfl hd.2 (by decide), hT.2.2.1 j hj, lt_eq, nI_1]
      by_cases h0 : kp j = 0
      · rw [h0, nI_0, fb_root (root_78 h hne hT).1 (root_78 h hne hT).2 (by omega) (by omega)]
        rw [h0] at g
        rw [srch_0 g]; rfl
      · have hkj := h.1 j hj
        obtain ⟨q1, q2, q3⟩ := Tr_pr h (show 1 ≤ kp j by omega) hkj hne
        have hnd : nd (kn (ix (kp j))) = kp j := by rw [q2, nd_e (by omega)]
        rw [srch_n h hne hkj h0 g]
        have := ih (ix (kp j)) (s + 1) n q1 (by omega) (by omega) (by omega)
        rw [hnd] at this
        exact this
theorem fbK {N : Nat} (hN9 : 70 ≤ N) {σ : Sg} {kp kn ix : Nat → Nat} {nk ne : Nat} (h : Tr kp kn ix nk ne) (hne : ne ≤ 60) (hT : gT (σ 5) (σ 6) (σ 7) (σ 8) nk kp kn) {j : Nat} (hj : j < nk) : f_X6_firstBehind N (nI (nd (kn j))) σ = some (ptr kn (srch kp ix nk (kp j) (kp j) (j + 1)), σ) := by
  have := fb_kid (N := N) h hne hT 60 j 0 N hj (by have := h.1 j hj; omega) (by omega) (by omega)
  exact this
theorem fiK {N : Nat} (hN9 : 70 ≤ N) {σ : Sg} {kp kn ix : Nat → Nat} {nk ne : Nat} (h : Tr kp kn ix nk ne) (hne : ne ≤ 60) (hT : gT (σ 5) (σ 6) (σ 7) (σ 8) nk kp kn) {e : Nat} (he : e < ne) : f_X6_firstIn N (nI e) σ = some (ptr kn (srch kp ix nk e e 0), σ) := by
  have h5 := hT.1 e (by omega)
  rw [f_X6_firstIn, f_X6_hasKids, rdA_eq _ e rfl (by omega) (by decide), h5]
  unfold lnk
  by_cases g : nxt kp nk e 0 < nk
  · have hd2 := nd_n1 h hne g
    rw [if_pos g, if_neg (m1_ne (by omega)), cI_eq, if_neg (by decide), rdA_eq _ e rfl (by omega) (by decide), h5, srch_y g]
    unfold lnk
    rw [if_pos g]; rfl
  · rw [if_neg g, if_pos rfl, cI_eq, if_pos rfl]
    by_cases e0 : e = 0
    · subst e0
      have : f_X6_firstBehind N (nI 0) σ = some (-1, σ) := fb_root (N := N) (s := 0) (root_78 h hne hT).1 (root_78 h hne hT).2 (by omega) (by omega)
      rw [this, cI_eq, srch_0 g]; rfl
    · obtain ⟨q1, q2, q3⟩ := Tr_pr h (show 1 ≤ e by omega) he hne
      have := fbK hN9 h hne hT q1
      rw [q2, nd_e (by omega)] at this
      rw [this, cI_eq, srch_n h hne he e0 g]
theorem fol_run {N : Nat} (hN9 : 70 ≤ N) {kp kn ix : Nat → Nat} {nk ne : Nat} (h : Tr kp kn ix nk ne) (hne : ne ≤ 60) (ar : Nat → Prop) (K : Sg → Option (Int32 × Sg)) : ∀ (n e j : Nat) (L : List Nat) (a b s fuel : Nat) (τ : Sg), Run kp kn ix nk ar n e j L → e < ne → gT (τ 5) (τ 6) (τ 7) (τ 8) nk kp kn → τ 3 6 = nI ne → gM (τ 2) → (∀ e, e < 60 → okR (τ 4 e)) → (∀ e, ar e ↔ std (τ 2) (τ 4 e) = 12) → τ 9 3 = nI a → τ 9 4 = nI b → a + (els kn L).length ≤ 60 → b + (pts kn L).length ≤ 100 → s + n ≤ 160 → n < fuel → ∃ τ', f_X5_follow_14 N K fuel (ptr kn (srch kp ix nk e e j)) (nI s) τ = K τ' ∧ τ' 9 3 = nI (a + (els kn L).length) ∧ τ' 9 4 = nI (b + (pts kn L).length) ∧ τ' 10 = wrL (τ 10) a (els kn L) ∧ τ' 11 = wrL (τ 11) b (pts kn L) ∧ ∀ c, c ≠ 9 → c ≠ 10 → c ≠ 11 → τ' c = τ c := by
  intro n
  induction n with
  | zero =>
    intro e j L a b s fuel τ hR he hT h3 hM hr har h93 h94 ha hb hs hf
    obtain ⟨r1, rfl⟩ := hR
    obtain ⟨fuel, rfl⟩ : ∃ k, fuel = k + 1 := ⟨fuel - 1, by omega⟩
    refine ⟨τ, ?_, h93, h94, (wrL_nil _ _).symm, (wrL_nil _ _).symm, fun c _ _ _ => rfl⟩
    rw [r1, f_X5_follow_14]
    by_cases g : (160 : Int32) ≤ nI s
    · rw [if_pos g]
    · rw [if_neg g, if_pos (show ptr kn none = -1 from rfl)]
  | succ n ih =>
    intro e j L a b s fuel τ hR he hT h3 hM hr har h93 h94 ha hb hs hf
    obtain ⟨fuel, rfl⟩ : ∃ k, fuel = k + 1 := ⟨fuel - 1, by omega⟩
    rcases hR with ⟨r1, rfl⟩ | ⟨t, r1, hR⟩
    · refine ⟨τ, ?_, h93, h94, (wrL_nil _ _).symm, (wrL_nil _ _).symm, fun c _ _ _ => rfl⟩
      rw [r1, f_X5_follow_14]
      by_cases g : (160 : Int32) ≤ nI s
      · rw [if_pos g]
      · rw [if_neg g, if_pos (show ptr kn none = -1 from rfl)]
    · have ht := (srch_some h hne e e j he r1).1
      have hd := nd_n1 h hne ht
      have hkt := h.1 t ht
      have s1 : ¬ (160 : Int32) ≤ nI s := by rw [show (160 : Int32) = nI 160 from rfl, leN (by decide) (by omega)]; omega
      rw [r1]
      rw [f_X5_follow_14, if_neg s1, if_neg (show ¬ ptr kn (some t) = -1 from m1_ne (by omega)), f_X6_isElement, show ptr kn (some t) = nI (nd (kn t)) from rfl]
      rcases hR with ⟨p1, L', rfl, hR⟩ | ⟨p1, p2, hR⟩ | ⟨p1, p2, L', rfl, hR⟩
      · have hnd : nd (kn t) = 60 + (kn t - 1000) := by unfold nd; rw [if_neg (by omega)]; omega
        have e1 : els kn (t :: L') = els kn L' := by rw [els, if_neg (by omega)]
        have e2 : pts kn (t :: L') = (kn t - 1000) :: pts kn L' := by rw [pts, if_neg (by omega)]
        rw [e1] at ha
        rw [e2, List.length_cons] at hb
        rw [e1, e2, if_pos (by rw [show (60 : Int32) = nI 60 from rfl, leN (by decide) (by omega)]; omega), cI_eq, if_pos rfl, f_X5_passPart, lt_eq, h94, if_neg (by rw [show (100 : Int32) = nI 100 from rfl, leN (by decide) (by omega)]; omega), lt_eq, f_X6_codeOf, cI_eq, wrA_eq _ _ _ b rfl (by omega) (by decide), lt_eq, st_eq, show ss τ 11 b (nI (nd (kn t)) - 60) 9 4 = nI b from h94, nI_1]
        have e3 : nI (nd (kn t)) - 60 = nI (kn t - 1000) := by
          rw [hnd, ← nI_add, show (60 : Int32) = nI 60 from rfl, Int32.add_comm, Int32.add_sub_cancel]
        rw [e3, fbK hN9 (σ := ss (ss τ 11 b (nI (kn t - 1000))) 9 4 (nI (b + 1))) h hne hT ht, cI_eq, cI_eq, lt_eq, nI_1]
        obtain ⟨τ', t1, t2, t3, t4, t5, t6⟩ := ih (kp t) (t + 1) L' a (b + 1) (s + 1) fuel (ss (ss τ 11 b (nI (kn t - 1000))) 9 4 (nI (b + 1))) hR hkt hT h3 hM hr har h93 rfl ha (by omega) (by omega) (by omega)
        refine ⟨τ', t1, t2, by rw [t3, List.length_cons]; congr 1; omega, t4, ?_, fun c c1 c2 c3 => ?_⟩
        · rw [t5, ← wrL_cons]; rfl
        · rw [t6 c c1 c2 c3, ss_c c1, ss_c c3]
      · have hnd : nd (kn t) = kn t := nd_e p1
        have hkn : 1 ≤ kn t ∧ kn t < ne := by rcases h.2.1 t ht with g | g <;> omega
        rw [if_neg (by rw [show (60 : Int32) = nI 60 from rfl, leN (by decide) (by omega)]; omega), cI_eq, if_neg (by decide), f_X5_passElement, hnd, x6_std (by omega) h3 hne hkn.2 hM (hr _ (by omega)), cI_eq, if_pos ((har _).mp p2), ← hnd, fbK hN9 h hne hT ht, cI_eq, cI_eq, lt_eq, nI_1]
        exact ih (kp t) (t + 1) L a b (s + 1) fuel τ hR hkt hT h3 hM hr har h93 h94 ha hb (by omega) (by omega)
      · have hnd : nd (kn t) = kn t := nd_e p1
        have hkn : 1 ≤ kn t ∧ kn t < ne := by rcases h.2.1 t ht with g | g <;> omega
        have e1 : els kn (t :: L') = kn t :: els kn L' := by rw [els, if_pos p1]
        have e2 : pts kn (t :: L') = pts kn L' := by rw [pts, if_pos p1]
        rw [e1, List.length_cons] at ha
        rw [e2] at hb
        rw [e1, e2, if_neg (by rw [show (60 : Int32) = nI 60 from rfl, leN (by decide) (by omega)]; omega), cI_eq, if_neg (by decide), f_X5_passElement, hnd, x6_std (by omega) h3 hne hkn.2 hM (hr _ (by omega)), cI_eq, if_neg (fun g => p2 ((har _).mpr g)), lt_eq, h93, if_neg (by rw [show (60 : Int32) = nI 60 from rfl, leN (by decide) (by omega)]; omega), lt_eq, wrA_eq _ _ _ a rfl (by omega) (by decide), lt_eq, st_eq, show ss τ 10 a (nI (kn t)) 9 3 = nI a from h93, nI_1, fiK hN9 (σ := ss (ss τ 10 a (nI (kn t))) 9 3 (nI (a + 1))) h hne hT hkn.2, cI_eq, cI_eq, lt_eq, nI_1]
        obtain ⟨τ', t1, t2, t3, t4, t5, t6⟩ := ih (kn t) 0 L' (a + 1) b (s + 1) fuel (ss (ss τ 10 a (nI (kn t))) 9 3 (nI (a + 1))) hR hkn.2 hT h3 hM hr har rfl h94 (by omega) hb (by omega) (by omega)
        refine ⟨τ', t1, by rw [t2, List.length_cons]; congr 1; omega, t3, ?_, t5, fun c c1 c2 c3 => ?_⟩
        · rw [t4, ← wrL_cons]; rfl
        · rw [t6 c c1 c2 c3, ss_c c1, ss_c c2]
theorem els_mem {kn : Nat → Nat} {x : Nat} : ∀ {L : List Nat}, x ∈ els kn L → ∃ t, t ∈ L ∧ kn t = x ∧ kn t < 1000 := by
  intro L
  induction L with
  | nil => intro h; exact absurd h (by simp [els])
  | cons t L ih =>
    intro h
    rw [els] at h
    by_cases g : kn t < 1000
    · rw [if_pos g] at h
      rcases List.mem_cons.mp h with h | h
      · exact ⟨t, List.mem_cons_self .., h.symm, g⟩
      · obtain ⟨s, h1, h2⟩ := ih h
        exact ⟨s, List.mem_cons_of_mem _ h1, h2⟩
    · rw [if_neg g] at h
      obtain ⟨s, h1, h2⟩ := ih h
      exact ⟨s, List.mem_cons_of_mem _ h1, h2⟩
theorem els_nodup {kn : Nat → Nat} {nk : Nat} (hinj : ∀ i j, i < nk → j < nk → kn i = kn j → i = j) : ∀ {L : List Nat}, L.Nodup → (∀ t, t ∈ L → t < nk) → (els kn L).Nodup := by
  intro L
  induction L with
  | nil => intro _ _; exact List.nodup_nil
  | cons t L ih =>
    intro h1 h2
    have h3 := List.nodup_cons.mp h1
    have h4 := ih h3.2 (fun s hs => h2 s (List.mem_cons_of_mem _ hs))
    rw [els]
    by_cases g : kn t < 1000
    · rw [if_pos g]
      refine List.nodup_cons.mpr ⟨fun h => ?_, h4⟩
      obtain ⟨s, s1, s2, s3⟩ := els_mem h
      have := hinj s t (h2 s (List.mem_cons_of_mem _ s1)) (h2 t (List.mem_cons_self ..)) s2
      rw [this] at s1
      exact h3.1 s1
    · rw [if_neg g]; exact h4
theorem els_len {kp kn ix : Nat → Nat} {nk ne : Nat} (h : Tr kp kn ix nk ne) (hne : ne ≤ 60) (h1 : 1 ≤ ne) {L : List Nat} (hL : L.Nodup) (hL2 : ∀ t, t ∈ L → t < nk) : 1 + (els kn L).length ≤ ne := by
  have hm : ∀ x, x ∈ els kn L → 1 ≤ x ∧ x < ne := by
    intro x hx
    obtain ⟨t, t1, t2, t3⟩ := els_mem hx
    rcases h.2.1 t (hL2 t t1) with g | g <;> omega
  have := pigL (m := ne) (L := 0 :: els kn L) (List.nodup_cons.mpr ⟨fun g => absurd (hm 0 g).1 (by omega), els_nodup h.2.2.1 hL hL2⟩) (fun x hx => by
    rcases List.mem_cons.mp hx with g | g
    · omega
    · exact (hm x g).2)
  rw [List.length_cons] at this
  omega
def pk (kn : Nat → Nat) (B : List Nat) : List Nat → List Nat
  | [] => B
  | t :: L => if kn t < 1000 then pk kn B L else t :: pk kn B L
theorem pk_mem {kn : Nat → Nat} {B : List Nat} {x : Nat} : ∀ {L : List Nat}, x ∈ pk kn B L → x ∈ B ∨ (x ∈ L ∧ 1000 ≤ kn x) := by
  intro L
  induction L with
  | nil => intro h; exact Or.inl h
  | cons t L ih =>
    intro h
    rw [pk] at h
    by_cases g : kn t < 1000
    · rw [if_pos g] at h
      rcases ih h with h | h
      · exact Or.inl h
      · exact Or.inr ⟨List.mem_cons_of_mem _ h.1, h.2⟩
    · rw [if_neg g] at h
      rcases List.mem_cons.mp h with h | h
      · rw [h]; exact Or.inr ⟨List.mem_cons_self .., by omega⟩
      · rcases ih h with h | h
        · exact Or.inl h
        · exact Or.inr ⟨List.mem_cons_of_mem _ h.1, h.2⟩
theorem pk_nodup {kn : Nat → Nat} {B : List Nat} (hB : B.Nodup) (hB2 : ∀ x, x ∈ B → kn x < 1000) : ∀ {L : List Nat}, L.Nodup → (pk kn B L).Nodup := by
  intro L
  induction L with
  | nil => intro _; exact hB
  | cons t L ih =>
    intro h
    have h3 := List.nodup_cons.mp h
    rw [pk]
    by_cases g : kn t < 1000
    · rw [if_pos g]; exact ih h3.2
    · rw [if_neg g]
      refine List.nodup_cons.mpr ⟨fun h9 => ?_, ih h3.2⟩
      rcases pk_mem h9 with h8 | h8
      · exact g (hB2 t h8)
      · exact h3.1 h8.1
theorem pk_len {kn : Nat → Nat} {B : List Nat} : ∀ {L : List Nat}, (pk kn B L).length = (pts kn L).length + B.length := by
  intro L
  induction L with
  | nil => rw [pk, pts, List.length_nil]; omega
  | cons t L ih =>
    rw [pk, pts]
    by_cases g : kn t < 1000
    · rw [if_pos g, if_pos g]; exact ih
    · rw [if_neg g, if_neg g, List.length_cons, List.length_cons, ih]; omega
def ixl (ix : Nat → Nat) : Nat → List Nat
  | 0 => []
  | n + 1 => ix (n + 1) :: ixl ix n
theorem ixl_mem {ix : Nat → Nat} {x : Nat} : ∀ {n : Nat}, x ∈ ixl ix n → ∃ e, 1 ≤ e ∧ e ≤ n ∧ x = ix e := by
  intro n
  induction n with
  | zero => intro h; exact absurd h (by simp [ixl])
  | succ n ih =>
    intro h
    rcases List.mem_cons.mp h with h | h
    · exact ⟨n + 1, by omega, by omega, h⟩
    · obtain ⟨e, h1, h2, h3⟩ := ih h
      exact ⟨e, h1, by omega, h3⟩
theorem ixl_len {ix : Nat → Nat} : ∀ n, (ixl ix n).length = n := by
  intro n
  induction n with
  | zero => rfl
  | succ n ih => rw [ixl, List.length_cons, ih]
theorem ixl_nodup {kp kn ix : Nat → Nat} {nk ne : Nat} (h : Tr kp kn ix nk ne) : ∀ n, n < ne → (ixl ix n).Nodup := by
  intro n
  induction n with
  | zero => intro _; exact List.nodup_nil
  | succ n ih =>
    intro hn
    rw [ixl]
    refine List.nodup_cons.mpr ⟨fun h9 => ?_, ih (by omega)⟩
    obtain ⟨e, h1, h2, h3⟩ := ixl_mem h9
    have g1 := (h.2.2.2 (n + 1) (by omega) hn).2
    have g2 := (h.2.2.2 e h1 (by omega)).2
    rw [h3, g2] at g1
    omega
theorem pts_len {kp kn ix : Nat → Nat} {nk ne np : Nat} (h : Tr kp kn ix nk ne) (hne : ne ≤ 60) (h1 : 1 ≤ ne) (hnp : nk + 1 = ne + np) {L : List Nat} (hL : L.Nodup) (hL2 : ∀ t, t ∈ L → t < nk) : (pts kn L).length ≤ np := by
  have hB2 : ∀ x, x ∈ ixl ix (ne - 1) → kn x < 1000 ∧ x < nk := by
    intro x hx
    obtain ⟨e, e1, e2, e3⟩ := ixl_mem hx
    have := h.2.2.2 e e1 (by omega)
    rw [e3]
    omega
  have := pigL (m := nk) (L := pk kn (ixl ix (ne - 1)) L) (pk_nodup (ixl_nodup h _ (by omega)) (fun x hx => (hB2 x hx).1) hL) (fun x hx => by
    rcases pk_mem hx with g | g
    · exact (hB2 x g).2
    · exact hL2 x g.1)
  rw [pk_len, ixl_len] at this
  omega
theorem x5_follow {N : Nat} (hN9 : 200 ≤ N) {kp kn ix : Nat → Nat} {nk ne np : Nat} (h : Tr kp kn ix nk ne) (hne : ne ≤ 60) (h1 : 1 ≤ ne) (hnp : nk + 1 = ne + np) (hnp2 : np ≤ 100) {ar : Nat → Prop} {L : List Nat} (hR : Run kp kn ix nk ar nk 0 0 L) (hL : L.Nodup) (hL2 : ∀ t, t ∈ L → t < nk) {σ : Sg} (hT : gT (σ 5) (σ 6) (σ 7) (σ 8) nk kp kn) (h3 : σ 3 6 = nI ne) (hM : gM (σ 2)) (hr : ∀ e, e < 60 → okR (σ 4 e)) (hr0 : σ 4 0 = 0) (har : ∀ e, ar e ↔ std (σ 2) (σ 4 e) = 12) : ∃ σ', f_X5_follow N σ = some (0, σ') ∧ σ' 9 3 = nI (1 + (els kn L).length) ∧ σ' 9 4 = nI (pts kn L).length ∧ σ' 10 = wrL (σ 10) 0 (0 :: els kn L) ∧ σ' 11 = wrL (σ 11) 0 (pts kn L) ∧ ∀ c, c ≠ 9 → c ≠ 10 → c ≠ 11 → σ' c = σ c := by
  have hel := els_len h hne h1 hL hL2
  have hpl := pts_len h hne h1 hnp hL hL2
  obtain ⟨N, rfl⟩ : ∃ k, N = k + 1 := ⟨N - 1, by omega⟩
  obtain ⟨τ', t1, t2, t3, t4, t5, t6⟩ := fol_run (N := N + 1) (by omega) h hne ar (fun σ14 => some (0, σ14)) nk 0 0 L 1 0 1 N (ss (ss (ss (ss σ 9 3 0) 9 4 0) 10 0 0) 9 3 1) hR (by omega) hT h3 hM hr har rfl rfl (by omega) (by omega) (by omega) (by omega)
  refine ⟨τ', ?_, t2, by rw [t3, Nat.zero_add], ?_, t5, fun c c1 c2 c3 => ?_⟩
  · rw [f_X5_follow, st_eq, st_eq, f_X5_follow_14, if_neg (by decide), if_neg (by decide), f_X6_isElement, if_neg (by decide), cI_eq, if_neg (by decide), f_X5_passElement]
    have hs := x6_std (N := N + 1) (by omega) (σ := ss (ss σ 9 3 0) 9 4 0) (e := 0) h3 hne (by omega) hM (hr 0 (by decide))
    rw [nI_0] at hs
    rw [hs, cI_eq, if_neg, lt_eq, if_neg (show ¬ (60 : Int32) ≤ ss (ss σ 9 3 0) 9 4 0 9 3 from by show ¬ (60 : Int32) ≤ 0; decide), lt_eq, wrA_eq _ _ _ 0 (by rfl) (by decide) (by decide), lt_eq, st_eq]
    · have hf := fiK (N := N + 1) (by omega) (σ := ss (ss (ss (ss σ 9 3 0) 9 4 0) 10 0 0) 9 3 1) h hne hT (e := 0) (by omega)
      rw [nI_0] at hf
      have : ss (ss (ss σ 9 3 0) 9 4 0) 10 0 0 9 3 + 1 = 1 := rfl
      rw [this, hf, cI_eq, cI_eq, lt_eq]
      exact t1
    · show ¬ std (σ 2) (σ 4 0) = 12
      rw [hr0, std, itr_non _ (by decide)]
      decide
  · rw [t4, show (1 : Nat) = 0 + 1 from rfl, ← wrL_cons]
    rfl
  · rw [t6 c c1 c2 c3, ss_c c1, ss_c c2, ss_c c1, ss_c c1]
