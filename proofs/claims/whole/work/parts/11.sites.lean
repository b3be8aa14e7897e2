section FD
variable {z : Cz} {k nL pc : Nat} {lv : List (Nat × Value)} {rest : List Value} {σ : Sg} {cc : ByteArray} {β : Type} {res : β}
theorem gf_X4_9 (X : Cx z cc nL RX4) (hdg : decode cc pc = .ok (.getfield 9, 3)) (kk : V z k nL (pc + 3) lv (.ref (zA z 2) :: rest) σ) : V z k nL pc lv (.ref (zA z 1) :: rest) σ :=
  r_get X 1 inAX4 (by decide) rfl rfl 0 (by decide) wd1_36 rfl rfl hdg kk
theorem gf_X6_34 (X : Cx z cc nL RX6) (hdg : decode cc pc = .ok (.getfield 34, 3)) (kk : V z k nL (pc + 3) lv (.ref (zA z 1) :: rest) σ) : V z k nL pc lv (.ref (zA z 3) :: rest) σ :=
  r_get X 3 inAX6 (by decide) rfl rfl 0 (by decide) wd1_48 rfl rfl hdg kk
theorem gf_X6_9 (X : Cx z cc nL RX6) (hdg : decode cc pc = .ok (.getfield 9, 3)) (kk : V z k nL (pc + 3) lv (.ref (zA z 4) :: rest) σ) : V z k nL pc lv (.ref (zA z 3) :: rest) σ :=
  r_get X 3 inAX6 (by decide) rfl rfl 1 (by decide) wd1_49 rfl rfl hdg kk
theorem gf_X6_15 (X : Cx z cc nL RX6) (hdg : decode cc pc = .ok (.getfield 15, 3)) (kk : V z k nL (pc + 3) lv (.ref (zA z 5) :: rest) σ) : V z k nL pc lv (.ref (zA z 3) :: rest) σ :=
  r_get X 3 inAX6 (by decide) rfl rfl 2 (by decide) wd1_50 rfl rfl hdg kk
theorem gf_X6_18 (X : Cx z cc nL RX6) (hdg : decode cc pc = .ok (.getfield 18, 3)) (kk : V z k nL (pc + 3) lv (.ref (zA z 6) :: rest) σ) : V z k nL pc lv (.ref (zA z 3) :: rest) σ :=
  r_get X 3 inAX6 (by decide) rfl rfl 3 (by decide) wd1_51 rfl rfl hdg kk
theorem gf_X6_21 (X : Cx z cc nL RX6) (hdg : decode cc pc = .ok (.getfield 21, 3)) (kk : V z k nL (pc + 3) lv (.ref (zA z 7) :: rest) σ) : V z k nL pc lv (.ref (zA z 3) :: rest) σ :=
  r_get X 3 inAX6 (by decide) rfl rfl 4 (by decide) wd1_52 rfl rfl hdg kk
theorem gf_X6_24 (X : Cx z cc nL RX6) (hdg : decode cc pc = .ok (.getfield 24, 3)) (kk : V z k nL (pc + 3) lv (.ref (zA z 8) :: rest) σ) : V z k nL pc lv (.ref (zA z 3) :: rest) σ :=
  r_get X 3 inAX6 (by decide) rfl rfl 5 (by decide) wd1_53 rfl rfl hdg kk
theorem gf_X6_27 (X : Cx z cc nL RX6) (hdg : decode cc pc = .ok (.getfield 27, 3)) {K : Int32 → Option β} (h : lt (σ 3 6) K = some res) (kk : ∀ v : Int32, K v = some res → V z k nL (pc + 3) lv (.int v :: rest) σ) : V z k nL pc lv (.ref (zA z 3) :: rest) σ :=
  r_get X 3 inAX6 (by decide) rfl rfl 6 (by decide) wd1_54 rfl rfl hdg (kk _ h)
theorem pf_X6_27 (X : Cx z cc nL RX6) {x : Int32} (hdg : decode cc pc = .ok (.putfield 27, 3)) {K : Sg → Option β} (h : st (ss σ 3 6 x) K = some res) (kk : ∀ σ9 : Sg, K σ9 = some res → V z k nL (pc + 3) lv rest σ9) : V z k nL pc lv (.int x :: .ref (zA z 3) :: rest) σ :=
  r_put X 3 inAX6 tyX6 tyX6_ok nmX6 (by decide) rfl rfl 6 (by decide) wd1_54 rfl rfl (ty := .int) rfl rfl rfl (Nat.le_of_ble_eq_true rfl) rfl hdg h kk
theorem gf_X7_116 (X : Cx z cc nL RX7) (hdg : decode cc pc = .ok (.getfield 116, 3)) {K : Int32 → Option β} (h : lt (σ 3 6) K = some res) (kk : ∀ v : Int32, K v = some res → V z k nL (pc + 3) lv (.int v :: rest) σ) : V z k nL pc lv (.ref (zA z 3) :: rest) σ :=
  r_getN X 3 inAX6 (by decide) rfl rfl 6 (by decide) (List.mem_of_getElem? (i := 0) rfl) rfl rfl hdg (kk _ h)
theorem pf_X7_116 (X : Cx z cc nL RX7) {x : Int32} (hdg : decode cc pc = .ok (.putfield 116, 3)) {K : Sg → Option β} (h : st (ss σ 3 6 x) K = some res) (kk : ∀ σ9 : Sg, K σ9 = some res → V z k nL (pc + 3) lv rest σ9) : V z k nL pc lv (.int x :: .ref (zA z 3) :: rest) σ :=
  r_putN X 3 inAX6 tyX6 tyX6_ok nmX6 (by decide) rfl rfl 6 (by decide) (List.mem_of_getElem? (i := 0) rfl) rfl rfl (ty := .int) rfl rfl rfl (Nat.le_of_ble_eq_true rfl) rfl hdg h kk
theorem gf_X6_31 (X : Cx z cc nL RX6) (hdg : decode cc pc = .ok (.getfield 31, 3)) {K : Int32 → Option β} (h : lt (σ 3 7) K = some res) (kk : ∀ v : Int32, K v = some res → V z k nL (pc + 3) lv (.int v :: rest) σ) : V z k nL pc lv (.ref (zA z 3) :: rest) σ :=
  r_get X 3 inAX6 (by decide) rfl rfl 7 (by decide) wd1_56 rfl rfl hdg (kk _ h)
theorem pf_X6_31 (X : Cx z cc nL RX6) {x : Int32} (hdg : decode cc pc = .ok (.putfield 31, 3)) {K : Sg → Option β} (h : st (ss σ 3 7 x) K = some res) (kk : ∀ σ9 : Sg, K σ9 = some res → V z k nL (pc + 3) lv rest σ9) : V z k nL pc lv (.int x :: .ref (zA z 3) :: rest) σ :=
  r_put X 3 inAX6 tyX6 tyX6_ok nmX6 (by decide) rfl rfl 7 (by decide) wd1_56 rfl rfl (ty := .int) rfl rfl rfl (Nat.le_of_ble_eq_true rfl) rfl hdg h kk
theorem gf_X7_151 (X : Cx z cc nL RX7) (hdg : decode cc pc = .ok (.getfield 151, 3)) {K : Int32 → Option β} (h : lt (σ 3 7) K = some res) (kk : ∀ v : Int32, K v = some res → V z k nL (pc + 3) lv (.int v :: rest) σ) : V z k nL pc lv (.ref (zA z 3) :: rest) σ :=
  r_getN X 3 inAX6 (by decide) rfl rfl 7 (by decide) (List.mem_of_getElem? (i := 1) rfl) rfl rfl hdg (kk _ h)
theorem pf_X7_151 (X : Cx z cc nL RX7) {x : Int32} (hdg : decode cc pc = .ok (.putfield 151, 3)) {K : Sg → Option β} (h : st (ss σ 3 7 x) K = some res) (kk : ∀ σ9 : Sg, K σ9 = some res → V z k nL (pc + 3) lv rest σ9) : V z k nL pc lv (.int x :: .ref (zA z 3) :: rest) σ :=
  r_putN X 3 inAX6 tyX6 tyX6_ok nmX6 (by decide) rfl rfl 7 (by decide) (List.mem_of_getElem? (i := 1) rfl) rfl rfl (ty := .int) rfl rfl rfl (Nat.le_of_ble_eq_true rfl) rfl hdg h kk
theorem gf_X5_25 (X : Cx z cc nL RX5) (hdg : decode cc pc = .ok (.getfield 25, 3)) (kk : V z k nL (pc + 3) lv (.ref (zA z 3) :: rest) σ) : V z k nL pc lv (.ref (zA z 9) :: rest) σ :=
  r_get X 9 inAX5 (by decide) rfl rfl 0 (by decide) wd1_81 rfl rfl hdg kk
theorem gf_X5_9 (X : Cx z cc nL RX5) (hdg : decode cc pc = .ok (.getfield 9, 3)) (kk : V z k nL (pc + 3) lv (.ref (zA z 10) :: rest) σ) : V z k nL pc lv (.ref (zA z 9) :: rest) σ :=
  r_get X 9 inAX5 (by decide) rfl rfl 1 (by decide) wd1_82 rfl rfl hdg kk
theorem gf_X7_250 (X : Cx z cc nL RX7) (hdg : decode cc pc = .ok (.getfield 250, 3)) (kk : V z k nL (pc + 3) lv (.ref (zA z 10) :: rest) σ) : V z k nL pc lv (.ref (zA z 9) :: rest) σ :=
  r_getN X 9 inAX5 (by decide) rfl rfl 1 (by decide) (List.mem_of_getElem? (i := 2) rfl) rfl rfl hdg kk
theorem gf_X5_15 (X : Cx z cc nL RX5) (hdg : decode cc pc = .ok (.getfield 15, 3)) (kk : V z k nL (pc + 3) lv (.ref (zA z 11) :: rest) σ) : V z k nL pc lv (.ref (zA z 9) :: rest) σ :=
  r_get X 9 inAX5 (by decide) rfl rfl 2 (by decide) wd1_84 rfl rfl hdg kk
theorem gf_X7_174 (X : Cx z cc nL RX7) (hdg : decode cc pc = .ok (.getfield 174, 3)) (kk : V z k nL (pc + 3) lv (.ref (zA z 11) :: rest) σ) : V z k nL pc lv (.ref (zA z 9) :: rest) σ :=
  r_getN X 9 inAX5 (by decide) rfl rfl 2 (by decide) (List.mem_of_getElem? (i := 3) rfl) rfl rfl hdg kk
theorem gf_X5_18 (X : Cx z cc nL RX5) (hdg : decode cc pc = .ok (.getfield 18, 3)) {K : Int32 → Option β} (h : lt (σ 9 3) K = some res) (kk : ∀ v : Int32, K v = some res → V z k nL (pc + 3) lv (.int v :: rest) σ) : V z k nL pc lv (.ref (zA z 9) :: rest) σ :=
  r_get X 9 inAX5 (by decide) rfl rfl 3 (by decide) wd1_86 rfl rfl hdg (kk _ h)
theorem pf_X5_18 (X : Cx z cc nL RX5) {x : Int32} (hdg : decode cc pc = .ok (.putfield 18, 3)) {K : Sg → Option β} (h : st (ss σ 9 3 x) K = some res) (kk : ∀ σ9 : Sg, K σ9 = some res → V z k nL (pc + 3) lv rest σ9) : V z k nL pc lv (.int x :: .ref (zA z 9) :: rest) σ :=
  r_put X 9 inAX5 tyX5 tyX5_ok nmX5 (by decide) rfl rfl 3 (by decide) wd1_86 rfl rfl (ty := .int) rfl rfl rfl (Nat.le_of_ble_eq_true rfl) rfl hdg h kk
theorem gf_X7_249 (X : Cx z cc nL RX7) (hdg : decode cc pc = .ok (.getfield 249, 3)) {K : Int32 → Option β} (h : lt (σ 9 3) K = some res) (kk : ∀ v : Int32, K v = some res → V z k nL (pc + 3) lv (.int v :: rest) σ) : V z k nL pc lv (.ref (zA z 9) :: rest) σ :=
  r_getN X 9 inAX5 (by decide) rfl rfl 3 (by decide) (List.mem_of_getElem? (i := 4) rfl) rfl rfl hdg (kk _ h)
theorem pf_X7_249 (X : Cx z cc nL RX7) {x : Int32} (hdg : decode cc pc = .ok (.putfield 249, 3)) {K : Sg → Option β} (h : st (ss σ 9 3 x) K = some res) (kk : ∀ σ9 : Sg, K σ9 = some res → V z k nL (pc + 3) lv rest σ9) : V z k nL pc lv (.int x :: .ref (zA z 9) :: rest) σ :=
  r_putN X 9 inAX5 tyX5 tyX5_ok nmX5 (by decide) rfl rfl 3 (by decide) (List.mem_of_getElem? (i := 4) rfl) rfl rfl (ty := .int) rfl rfl rfl (Nat.le_of_ble_eq_true rfl) rfl hdg h kk
theorem gf_X5_22 (X : Cx z cc nL RX5) (hdg : decode cc pc = .ok (.getfield 22, 3)) {K : Int32 → Option β} (h : lt (σ 9 4) K = some res) (kk : ∀ v : Int32, K v = some res → V z k nL (pc + 3) lv (.int v :: rest) σ) : V z k nL pc lv (.ref (zA z 9) :: rest) σ :=
  r_get X 9 inAX5 (by decide) rfl rfl 4 (by decide) wd1_88 rfl rfl hdg (kk _ h)
theorem pf_X5_22 (X : Cx z cc nL RX5) {x : Int32} (hdg : decode cc pc = .ok (.putfield 22, 3)) {K : Sg → Option β} (h : st (ss σ 9 4 x) K = some res) (kk : ∀ σ9 : Sg, K σ9 = some res → V z k nL (pc + 3) lv rest σ9) : V z k nL pc lv (.int x :: .ref (zA z 9) :: rest) σ :=
  r_put X 9 inAX5 tyX5 tyX5_ok nmX5 (by decide) rfl rfl 4 (by decide) wd1_88 rfl rfl (ty := .int) rfl rfl rfl (Nat.le_of_ble_eq_true rfl) rfl hdg h kk
theorem gf_X7_165 (X : Cx z cc nL RX7) (hdg : decode cc pc = .ok (.getfield 165, 3)) {K : Int32 → Option β} (h : lt (σ 9 4) K = some res) (kk : ∀ v : Int32, K v = some res → V z k nL (pc + 3) lv (.int v :: rest) σ) : V z k nL pc lv (.ref (zA z 9) :: rest) σ :=
  r_getN X 9 inAX5 (by decide) rfl rfl 4 (by decide) (List.mem_of_getElem? (i := 5) rfl) rfl rfl hdg (kk _ h)
theorem pf_X7_165 (X : Cx z cc nL RX7) {x : Int32} (hdg : decode cc pc = .ok (.putfield 165, 3)) {K : Sg → Option β} (h : st (ss σ 9 4 x) K = some res) (kk : ∀ σ9 : Sg, K σ9 = some res → V z k nL (pc + 3) lv rest σ9) : V z k nL pc lv (.int x :: .ref (zA z 9) :: rest) σ :=
  r_putN X 9 inAX5 tyX5 tyX5_ok nmX5 (by decide) rfl rfl 4 (by decide) (List.mem_of_getElem? (i := 5) rfl) rfl rfl (ty := .int) rfl rfl rfl (Nat.le_of_ble_eq_true rfl) rfl hdg h kk
theorem gf_X3_9 (X : Cx z cc nL RX3) (hdg : decode cc pc = .ok (.getfield 9, 3)) (kk : V z k nL (pc + 3) lv (.ref (zA z 13) :: rest) σ) : V z k nL pc lv (.ref (zA z 12) :: rest) σ :=
  r_get X 12 inAX3 (by decide) rfl rfl 0 (by decide) wd1_108 rfl rfl hdg kk
theorem gf_X3_15 (X : Cx z cc nL RX3) (hdg : decode cc pc = .ok (.getfield 15, 3)) (kk : V z k nL (pc + 3) lv (.ref (zA z 14) :: rest) σ) : V z k nL pc lv (.ref (zA z 12) :: rest) σ :=
  r_get X 12 inAX3 (by decide) rfl rfl 1 (by decide) wd1_109 rfl rfl hdg kk
theorem gf_X3_18 (X : Cx z cc nL RX3) (hdg : decode cc pc = .ok (.getfield 18, 3)) (kk : V z k nL (pc + 3) lv (.ref (zA z 15) :: rest) σ) : V z k nL pc lv (.ref (zA z 12) :: rest) σ :=
  r_get X 12 inAX3 (by decide) rfl rfl 2 (by decide) wd1_110 rfl rfl hdg kk
theorem gf_X2_9 (X : Cx z cc nL RX2) (hdg : decode cc pc = .ok (.getfield 9, 3)) (kk : V z k nL (pc + 3) lv (.ref (zA z 17) :: rest) σ) : V z k nL pc lv (.ref (zA z 16) :: rest) σ :=
  r_get X 16 inAX2 (by decide) rfl rfl 0 (by decide) wd1_124 rfl rfl hdg kk
theorem gf_X7_230 (X : Cx z cc nL RX7) (hdg : decode cc pc = .ok (.getfield 230, 3)) (kk : V z k nL (pc + 3) lv (.ref (zA z 17) :: rest) σ) : V z k nL pc lv (.ref (zA z 16) :: rest) σ :=
  r_getN X 16 inAX2 (by decide) rfl rfl 0 (by decide) (List.mem_of_getElem? (i := 7) rfl) rfl rfl hdg kk
theorem gf_X2_15 (X : Cx z cc nL RX2) (hdg : decode cc pc = .ok (.getfield 15, 3)) (kk : V z k nL (pc + 3) lv (.ref (zA z 18) :: rest) σ) : V z k nL pc lv (.ref (zA z 16) :: rest) σ :=
  r_get X 16 inAX2 (by decide) rfl rfl 1 (by decide) wd1_126 rfl rfl hdg kk
theorem gf_X7_234 (X : Cx z cc nL RX7) (hdg : decode cc pc = .ok (.getfield 234, 3)) (kk : V z k nL (pc + 3) lv (.ref (zA z 18) :: rest) σ) : V z k nL pc lv (.ref (zA z 16) :: rest) σ :=
  r_getN X 16 inAX2 (by decide) rfl rfl 1 (by decide) (List.mem_of_getElem? (i := 8) rfl) rfl rfl hdg kk
theorem gf_X2_18 (X : Cx z cc nL RX2) (hdg : decode cc pc = .ok (.getfield 18, 3)) (kk : V z k nL (pc + 3) lv (.ref (zA z 19) :: rest) σ) : V z k nL pc lv (.ref (zA z 16) :: rest) σ :=
  r_get X 16 inAX2 (by decide) rfl rfl 2 (by decide) wd1_128 rfl rfl hdg kk
theorem gf_X7_231 (X : Cx z cc nL RX7) (hdg : decode cc pc = .ok (.getfield 231, 3)) (kk : V z k nL (pc + 3) lv (.ref (zA z 19) :: rest) σ) : V z k nL pc lv (.ref (zA z 16) :: rest) σ :=
  r_getN X 16 inAX2 (by decide) rfl rfl 2 (by decide) (List.mem_of_getElem? (i := 9) rfl) rfl rfl hdg kk
theorem gf_X2_21 (X : Cx z cc nL RX2) (hdg : decode cc pc = .ok (.getfield 21, 3)) {K : Int32 → Option β} (h : lt (σ 16 3) K = some res) (kk : ∀ v : Int32, K v = some res → V z k nL (pc + 3) lv (.int v :: rest) σ) : V z k nL pc lv (.ref (zA z 16) :: rest) σ :=
  r_get X 16 inAX2 (by decide) rfl rfl 3 (by decide) wd1_130 rfl rfl hdg (kk _ h)
theorem pf_X2_21 (X : Cx z cc nL RX2) {x : Int32} (hdg : decode cc pc = .ok (.putfield 21, 3)) {K : Sg → Option β} (h : st (ss σ 16 3 x) K = some res) (kk : ∀ σ9 : Sg, K σ9 = some res → V z k nL (pc + 3) lv rest σ9) : V z k nL pc lv (.int x :: .ref (zA z 16) :: rest) σ :=
  r_put X 16 inAX2 tyX2 tyX2_ok nmX2 (by decide) rfl rfl 3 (by decide) wd1_130 rfl rfl (ty := .int) rfl rfl rfl (Nat.le_of_ble_eq_true rfl) rfl hdg h kk
theorem gf_X7_227 (X : Cx z cc nL RX7) (hdg : decode cc pc = .ok (.getfield 227, 3)) {K : Int32 → Option β} (h : lt (σ 16 3) K = some res) (kk : ∀ v : Int32, K v = some res → V z k nL (pc + 3) lv (.int v :: rest) σ) : V z k nL pc lv (.ref (zA z 16) :: rest) σ :=
  r_getN X 16 inAX2 (by decide) rfl rfl 3 (by decide) (List.mem_of_getElem? (i := 10) rfl) rfl rfl hdg (kk _ h)
theorem pf_X7_227 (X : Cx z cc nL RX7) {x : Int32} (hdg : decode cc pc = .ok (.putfield 227, 3)) {K : Sg → Option β} (h : st (ss σ 16 3 x) K = some res) (kk : ∀ σ9 : Sg, K σ9 = some res → V z k nL (pc + 3) lv rest σ9) : V z k nL pc lv (.int x :: .ref (zA z 16) :: rest) σ :=
  r_putN X 16 inAX2 tyX2 tyX2_ok nmX2 (by decide) rfl rfl 3 (by decide) (List.mem_of_getElem? (i := 10) rfl) rfl rfl (ty := .int) rfl rfl rfl (Nat.le_of_ble_eq_true rfl) rfl hdg h kk
theorem gf_X1_11 (X : Cx z cc nL RX1) (hdg : decode cc pc = .ok (.getfield 11, 3)) (kk : V z k nL (pc + 3) lv (.ref (zA z 21) :: rest) σ) : V z k nL pc lv (.ref (zA z 20) :: rest) σ :=
  r_get X 20 inAX1 (by decide) rfl rfl 0 (by decide) wd1_147 rfl rfl hdg kk
theorem gf_X1_15 (X : Cx z cc nL RX1) (hdg : decode cc pc = .ok (.getfield 15, 3)) {K : Int32 → Option β} (h : lt (σ 20 1) K = some res) (kk : ∀ v : Int32, K v = some res → V z k nL (pc + 3) lv (.int v :: rest) σ) : V z k nL pc lv (.ref (zA z 20) :: rest) σ :=
  r_get X 20 inAX1 (by decide) rfl rfl 1 (by decide) wd1_148 rfl rfl hdg (kk _ h)
theorem pf_X1_15 (X : Cx z cc nL RX1) {x : Int32} (hdg : decode cc pc = .ok (.putfield 15, 3)) {K : Sg → Option β} (h : st (ss σ 20 1 x) K = some res) (kk : ∀ σ9 : Sg, K σ9 = some res → V z k nL (pc + 3) lv rest σ9) : V z k nL pc lv (.int x :: .ref (zA z 20) :: rest) σ :=
  r_put X 20 inAX1 tyX1 tyX1_ok nmX1 (by decide) rfl rfl 1 (by decide) wd1_148 rfl rfl (ty := .int) rfl rfl rfl (Nat.le_of_ble_eq_true rfl) rfl hdg h kk
theorem gf_X1_19 (X : Cx z cc nL RX1) (hdg : decode cc pc = .ok (.getfield 19, 3)) {K : Int32 → Option β} (h : lt (σ 20 2) K = some res) (kk : ∀ v : Int32, K v = some res → V z k nL (pc + 3) lv (.int v :: rest) σ) : V z k nL pc lv (.ref (zA z 20) :: rest) σ :=
  r_get X 20 inAX1 (by decide) rfl rfl 2 (by decide) wd1_149 rfl rfl hdg (kk _ h)
theorem pf_X1_19 (X : Cx z cc nL RX1) {x : Int32} (hdg : decode cc pc = .ok (.putfield 19, 3)) {K : Sg → Option β} (h : st (ss σ 20 2 x) K = some res) (kk : ∀ σ9 : Sg, K σ9 = some res → V z k nL (pc + 3) lv rest σ9) : V z k nL pc lv (.int x :: .ref (zA z 20) :: rest) σ :=
  r_put X 20 inAX1 tyX1 tyX1_ok nmX1 (by decide) rfl rfl 2 (by decide) wd1_149 rfl rfl (ty := .int) rfl rfl rfl (Nat.le_of_ble_eq_true rfl) rfl hdg h kk
theorem gf_X1_22 (X : Cx z cc nL RX1) (hdg : decode cc pc = .ok (.getfield 22, 3)) {K : Int32 → Option β} (h : lt (σ 20 3) K = some res) (kk : ∀ v : Int32, K v = some res → V z k nL (pc + 3) lv (.int v :: rest) σ) : V z k nL pc lv (.ref (zA z 20) :: rest) σ :=
  r_get X 20 inAX1 (by decide) rfl rfl 3 (by decide) wd1_150 rfl rfl hdg (kk _ h)
theorem pf_X1_22 (X : Cx z cc nL RX1) {x : Int32} (hdg : decode cc pc = .ok (.putfield 22, 3)) {K : Sg → Option β} (h : st (ss σ 20 3 x) K = some res) (kk : ∀ σ9 : Sg, K σ9 = some res → V z k nL (pc + 3) lv rest σ9) : V z k nL pc lv (.int x :: .ref (zA z 20) :: rest) σ :=
  r_put X 20 inAX1 tyX1 tyX1_ok nmX1 (by decide) rfl rfl 3 (by decide) wd1_150 rfl rfl (ty := .int) rfl rfl rfl (Nat.le_of_ble_eq_true rfl) rfl hdg h kk
theorem gf_X1_25 (X : Cx z cc nL RX1) (hdg : decode cc pc = .ok (.getfield 25, 3)) {K : Int32 → Option β} (h : lt (σ 20 4) K = some res) (kk : ∀ v : Int32, K v = some res → V z k nL (pc + 3) lv (.int v :: rest) σ) : V z k nL pc lv (.ref (zA z 20) :: rest) σ :=
  r_get X 20 inAX1 (by decide) rfl rfl 4 (by decide) wd1_151 rfl rfl hdg (kk _ h)
theorem pf_X1_25 (X : Cx z cc nL RX1) {x : Int32} (hdg : decode cc pc = .ok (.putfield 25, 3)) {K : Sg → Option β} (h : st (ss σ 20 4 x) K = some res) (kk : ∀ σ9 : Sg, K σ9 = some res → V z k nL (pc + 3) lv rest σ9) : V z k nL pc lv (.int x :: .ref (zA z 20) :: rest) σ :=
  r_put X 20 inAX1 tyX1 tyX1_ok nmX1 (by decide) rfl rfl 4 (by decide) wd1_151 rfl rfl (ty := .int) rfl rfl rfl (Nat.le_of_ble_eq_true rfl) rfl hdg h kk
theorem gf_X1_28 (X : Cx z cc nL RX1) (hdg : decode cc pc = .ok (.getfield 28, 3)) {K : Int32 → Option β} (h : lt (σ 20 5) K = some res) (kk : ∀ v : Int32, K v = some res → V z k nL (pc + 3) lv (.int v :: rest) σ) : V z k nL pc lv (.ref (zA z 20) :: rest) σ :=
  r_get X 20 inAX1 (by decide) rfl rfl 5 (by decide) wd1_152 rfl rfl hdg (kk _ h)
theorem pf_X1_28 (X : Cx z cc nL RX1) {x : Int32} (h01 : x = 0 ∨ x = 1) (hdg : decode cc pc = .ok (.putfield 28, 3)) {K : Sg → Option β} (h : st (ss σ 20 5 x) K = some res) (kk : ∀ σ9 : Sg, K σ9 = some res → V z k nL (pc + 3) lv rest σ9) : V z k nL pc lv (.int x :: .ref (zA z 20) :: rest) σ :=
  r_put X 20 inAX1 tyX1 tyX1_ok nmX1 (by decide) rfl rfl 5 (by decide) wd1_152 rfl rfl (ty := .boolean) rfl (nar01 h01) (by rcases h01 with rfl | rfl <;> rfl) (Nat.le_of_ble_eq_true rfl) rfl hdg h kk
theorem gf_X7_295 (X : Cx z cc nL RX7) (hdg : decode cc pc = .ok (.getfield 295, 3)) {K : Int32 → Option β} (h : lt (σ 20 5) K = some res) (kk : ∀ v : Int32, K v = some res → V z k nL (pc + 3) lv (.int v :: rest) σ) : V z k nL pc lv (.ref (zA z 20) :: rest) σ :=
  r_getN X 20 inAX1 (by decide) rfl rfl 5 (by decide) (List.mem_of_getElem? (i := 12) rfl) rfl rfl hdg (kk _ h)
theorem pf_X7_295 (X : Cx z cc nL RX7) {x : Int32} (h01 : x = 0 ∨ x = 1) (hdg : decode cc pc = .ok (.putfield 295, 3)) {K : Sg → Option β} (h : st (ss σ 20 5 x) K = some res) (kk : ∀ σ9 : Sg, K σ9 = some res → V z k nL (pc + 3) lv rest σ9) : V z k nL pc lv (.int x :: .ref (zA z 20) :: rest) σ :=
  r_putN X 20 inAX1 tyX1 tyX1_ok nmX1 (by decide) rfl rfl 5 (by decide) (List.mem_of_getElem? (i := 12) rfl) rfl rfl (ty := .boolean) rfl (nar01 h01) (by rcases h01 with rfl | rfl <;> rfl) (Nat.le_of_ble_eq_true rfl) rfl hdg h kk
theorem gf_X0_11 (X : Cx z cc nL RX0) (hdg : decode cc pc = .ok (.getfield 11, 3)) (kk : V z k nL (pc + 3) lv (.ref (zA z 23) :: rest) σ) : V z k nL pc lv (.ref (zA z 22) :: rest) σ :=
  r_get X 22 inAX0 (by decide) rfl rfl 0 (by decide) wd1_173 rfl rfl hdg kk
theorem gf_X7_212 (X : Cx z cc nL RX7) (hdg : decode cc pc = .ok (.getfield 212, 3)) (kk : V z k nL (pc + 3) lv (.ref (zA z 23) :: rest) σ) : V z k nL pc lv (.ref (zA z 22) :: rest) σ :=
  r_getN X 22 inAX0 (by decide) rfl rfl 0 (by decide) (List.mem_of_getElem? (i := 14) rfl) rfl rfl hdg kk
theorem gf_X0_15 (X : Cx z cc nL RX0) (hdg : decode cc pc = .ok (.getfield 15, 3)) (kk : V z k nL (pc + 3) lv (.ref (zA z 24) :: rest) σ) : V z k nL pc lv (.ref (zA z 22) :: rest) σ :=
  r_get X 22 inAX0 (by decide) rfl rfl 1 (by decide) wd1_175 rfl rfl hdg kk
theorem gf_X7_215 (X : Cx z cc nL RX7) (hdg : decode cc pc = .ok (.getfield 215, 3)) (kk : V z k nL (pc + 3) lv (.ref (zA z 24) :: rest) σ) : V z k nL pc lv (.ref (zA z 22) :: rest) σ :=
  r_getN X 22 inAX0 (by decide) rfl rfl 1 (by decide) (List.mem_of_getElem? (i := 15) rfl) rfl rfl hdg kk
theorem gf_X0_18 (X : Cx z cc nL RX0) (hdg : decode cc pc = .ok (.getfield 18, 3)) (kk : V z k nL (pc + 3) lv (.ref (zA z 25) :: rest) σ) : V z k nL pc lv (.ref (zA z 22) :: rest) σ :=
  r_get X 22 inAX0 (by decide) rfl rfl 2 (by decide) wd1_177 rfl rfl hdg kk
theorem gf_X7_217 (X : Cx z cc nL RX7) (hdg : decode cc pc = .ok (.getfield 217, 3)) (kk : V z k nL (pc + 3) lv (.ref (zA z 25) :: rest) σ) : V z k nL pc lv (.ref (zA z 22) :: rest) σ :=
  r_getN X 22 inAX0 (by decide) rfl rfl 2 (by decide) (List.mem_of_getElem? (i := 16) rfl) rfl rfl hdg kk
theorem gf_X0_21 (X : Cx z cc nL RX0) (hdg : decode cc pc = .ok (.getfield 21, 3)) {K : Int32 → Option β} (h : lt (σ 22 3) K = some res) (kk : ∀ v : Int32, K v = some res → V z k nL (pc + 3) lv (.int v :: rest) σ) : V z k nL pc lv (.ref (zA z 22) :: rest) σ :=
  r_get X 22 inAX0 (by decide) rfl rfl 3 (by decide) wd1_179 rfl rfl hdg (kk _ h)
theorem pf_X0_21 (X : Cx z cc nL RX0) {x : Int32} (hdg : decode cc pc = .ok (.putfield 21, 3)) {K : Sg → Option β} (h : st (ss σ 22 3 x) K = some res) (kk : ∀ σ9 : Sg, K σ9 = some res → V z k nL (pc + 3) lv rest σ9) : V z k nL pc lv (.int x :: .ref (zA z 22) :: rest) σ :=
  r_put X 22 inAX0 tyX0 tyX0_ok nmX0 (by decide) rfl rfl 3 (by decide) wd1_179 rfl rfl (ty := .int) rfl rfl rfl (Nat.le_of_ble_eq_true rfl) rfl hdg h kk
theorem gf_X7_177 (X : Cx z cc nL RX7) (hdg : decode cc pc = .ok (.getfield 177, 3)) {K : Int32 → Option β} (h : lt (σ 22 3) K = some res) (kk : ∀ v : Int32, K v = some res → V z k nL (pc + 3) lv (.int v :: rest) σ) : V z k nL pc lv (.ref (zA z 22) :: rest) σ :=
  r_getN X 22 inAX0 (by decide) rfl rfl 3 (by decide) (List.mem_of_getElem? (i := 17) rfl) rfl rfl hdg (kk _ h)
theorem pf_X7_177 (X : Cx z cc nL RX7) {x : Int32} (hdg : decode cc pc = .ok (.putfield 177, 3)) {K : Sg → Option β} (h : st (ss σ 22 3 x) K = some res) (kk : ∀ σ9 : Sg, K σ9 = some res → V z k nL (pc + 3) lv rest σ9) : V z k nL pc lv (.int x :: .ref (zA z 22) :: rest) σ :=
  r_putN X 22 inAX0 tyX0 tyX0_ok nmX0 (by decide) rfl rfl 3 (by decide) (List.mem_of_getElem? (i := 17) rfl) rfl rfl (ty := .int) rfl rfl rfl (Nat.le_of_ble_eq_true rfl) rfl hdg h kk
theorem gf_X7_12 (X : Cx z cc nL RX7) (hdg : decode cc pc = .ok (.getfield 12, 3)) (kk : V z k nL (pc + 3) lv (.ref (zA z 1) :: rest) σ) : V z k nL pc lv (.ref (zA z 0) :: rest) σ :=
  r_get X 0 inAX7 (by decide) rfl rfl 0 (by decide) wd1_191 rfl rfl hdg kk
theorem gf_X7_21 (X : Cx z cc nL RX7) (hdg : decode cc pc = .ok (.getfield 21, 3)) (kk : V z k nL (pc + 3) lv (.ref (zA z 3) :: rest) σ) : V z k nL pc lv (.ref (zA z 0) :: rest) σ :=
  r_get X 0 inAX7 (by decide) rfl rfl 1 (by decide) wd1_192 rfl rfl hdg kk
theorem gf_X7_30 (X : Cx z cc nL RX7) (hdg : decode cc pc = .ok (.getfield 30, 3)) (kk : V z k nL (pc + 3) lv (.ref (zA z 9) :: rest) σ) : V z k nL pc lv (.ref (zA z 0) :: rest) σ :=
  r_get X 0 inAX7 (by decide) rfl rfl 2 (by decide) wd1_193 rfl rfl hdg kk
theorem gf_X7_37 (X : Cx z cc nL RX7) (hdg : decode cc pc = .ok (.getfield 37, 3)) (kk : V z k nL (pc + 3) lv (.ref (zA z 12) :: rest) σ) : V z k nL pc lv (.ref (zA z 0) :: rest) σ :=
  r_get X 0 inAX7 (by decide) rfl rfl 3 (by decide) wd1_194 rfl rfl hdg kk
theorem gf_X7_44 (X : Cx z cc nL RX7) (hdg : decode cc pc = .ok (.getfield 44, 3)) (kk : V z k nL (pc + 3) lv (.ref (zA z 16) :: rest) σ) : V z k nL pc lv (.ref (zA z 0) :: rest) σ :=
  r_get X 0 inAX7 (by decide) rfl rfl 4 (by decide) wd1_195 rfl rfl hdg kk
theorem gf_X7_51 (X : Cx z cc nL RX7) (hdg : decode cc pc = .ok (.getfield 51, 3)) (kk : V z k nL (pc + 3) lv (.ref (zA z 20) :: rest) σ) : V z k nL pc lv (.ref (zA z 0) :: rest) σ :=
  r_get X 0 inAX7 (by decide) rfl rfl 5 (by decide) wd1_196 rfl rfl hdg kk
theorem gf_X7_58 (X : Cx z cc nL RX7) (hdg : decode cc pc = .ok (.getfield 58, 3)) (kk : V z k nL (pc + 3) lv (.ref (zA z 22) :: rest) σ) : V z k nL pc lv (.ref (zA z 0) :: rest) σ :=
  r_get X 0 inAX7 (by decide) rfl rfl 6 (by decide) wd1_197 rfl rfl hdg kk
theorem gf_X7_62 (X : Cx z cc nL RX7) (hdg : decode cc pc = .ok (.getfield 62, 3)) (kk : V z k nL (pc + 3) lv (.ref (zA z 26) :: rest) σ) : V z k nL pc lv (.ref (zA z 0) :: rest) σ :=
  r_get X 0 inAX7 (by decide) rfl rfl 7 (by decide) wd1_198 rfl rfl hdg kk
theorem gf_X7_66 (X : Cx z cc nL RX7) (hdg : decode cc pc = .ok (.getfield 66, 3)) (kk : V z k nL (pc + 3) lv (.ref (zA z 27) :: rest) σ) : V z k nL pc lv (.ref (zA z 0) :: rest) σ :=
  r_get X 0 inAX7 (by decide) rfl rfl 8 (by decide) wd1_199 rfl rfl hdg kk
theorem gf_X7_70 (X : Cx z cc nL RX7) (hdg : decode cc pc = .ok (.getfield 70, 3)) (kk : V z k nL (pc + 3) lv (.ref (zA z 28) :: rest) σ) : V z k nL pc lv (.ref (zA z 0) :: rest) σ :=
  r_get X 0 inAX7 (by decide) rfl rfl 9 (by decide) wd1_200 rfl rfl hdg kk
theorem gf_X7_73 (X : Cx z cc nL RX7) (hdg : decode cc pc = .ok (.getfield 73, 3)) (kk : V z k nL (pc + 3) lv (.ref (zA z 29) :: rest) σ) : V z k nL pc lv (.ref (zA z 0) :: rest) σ :=
  r_get X 0 inAX7 (by decide) rfl rfl 10 (by decide) wd1_201 rfl rfl hdg kk
theorem gf_X7_76 (X : Cx z cc nL RX7) (hdg : decode cc pc = .ok (.getfield 76, 3)) (kk : V z k nL (pc + 3) lv (.ref (zA z 30) :: rest) σ) : V z k nL pc lv (.ref (zA z 0) :: rest) σ :=
  r_get X 0 inAX7 (by decide) rfl rfl 11 (by decide) wd1_202 rfl rfl hdg kk
theorem gf_X7_79 (X : Cx z cc nL RX7) (hdg : decode cc pc = .ok (.getfield 79, 3)) (kk : V z k nL (pc + 3) lv (.ref (zA z 31) :: rest) σ) : V z k nL pc lv (.ref (zA z 0) :: rest) σ :=
  r_get X 0 inAX7 (by decide) rfl rfl 12 (by decide) wd1_203 rfl rfl hdg kk
theorem gf_X7_82 (X : Cx z cc nL RX7) (hdg : decode cc pc = .ok (.getfield 82, 3)) {K : Int32 → Option β} (h : lt (σ 0 13) K = some res) (kk : ∀ v : Int32, K v = some res → V z k nL (pc + 3) lv (.int v :: rest) σ) : V z k nL pc lv (.ref (zA z 0) :: rest) σ :=
  r_get X 0 inAX7 (by decide) rfl rfl 13 (by decide) wd1_204 rfl rfl hdg (kk _ h)
theorem pf_X7_82 (X : Cx z cc nL RX7) {x : Int32} (hdg : decode cc pc = .ok (.putfield 82, 3)) {K : Sg → Option β} (h : st (ss σ 0 13 x) K = some res) (kk : ∀ σ9 : Sg, K σ9 = some res → V z k nL (pc + 3) lv rest σ9) : V z k nL pc lv (.int x :: .ref (zA z 0) :: rest) σ :=
  r_put X 0 inAX7 tyX7 tyX7_ok nmX7 (by decide) rfl rfl 13 (by decide) wd1_204 rfl rfl (ty := .int) rfl rfl rfl (Nat.le_of_ble_eq_true rfl) rfl hdg h kk
theorem gf_X7_86 (X : Cx z cc nL RX7) (hdg : decode cc pc = .ok (.getfield 86, 3)) (kk : V z k nL (pc + 3) lv (.ref (zA z 32) :: rest) σ) : V z k nL pc lv (.ref (zA z 0) :: rest) σ :=
  r_get X 0 inAX7 (by decide) rfl rfl 14 (by decide) wd1_205 rfl rfl hdg kk
theorem gf_X7_89 (X : Cx z cc nL RX7) (hdg : decode cc pc = .ok (.getfield 89, 3)) {K : Int32 → Option β} (h : lt (σ 0 15) K = some res) (kk : ∀ v : Int32, K v = some res → V z k nL (pc + 3) lv (.int v :: rest) σ) : V z k nL pc lv (.ref (zA z 0) :: rest) σ :=
  r_get X 0 inAX7 (by decide) rfl rfl 15 (by decide) wd1_206 rfl rfl hdg (kk _ h)
theorem pf_X7_89 (X : Cx z cc nL RX7) {x : Int32} (hdg : decode cc pc = .ok (.putfield 89, 3)) {K : Sg → Option β} (h : st (ss σ 0 15 x) K = some res) (kk : ∀ σ9 : Sg, K σ9 = some res → V z k nL (pc + 3) lv rest σ9) : V z k nL pc lv (.int x :: .ref (zA z 0) :: rest) σ :=
  r_put X 0 inAX7 tyX7 tyX7_ok nmX7 (by decide) rfl rfl 15 (by decide) wd1_206 rfl rfl (ty := .int) rfl rfl rfl (Nat.le_of_ble_eq_true rfl) rfl hdg h kk
theorem gf_X7_92 (X : Cx z cc nL RX7) (hdg : decode cc pc = .ok (.getfield 92, 3)) (kk : V z k nL (pc + 3) lv (.ref (zA z 33) :: rest) σ) : V z k nL pc lv (.ref (zA z 0) :: rest) σ :=
  r_get X 0 inAX7 (by decide) rfl rfl 16 (by decide) wd1_207 rfl rfl hdg kk
theorem gf_X8_78 (X : Cx z cc nL RX8) (hdg : decode cc pc = .ok (.getfield 78, 3)) {K : Int32 → Option β} (h : lt (σ 35 0) K = some res) (kk : ∀ v : Int32, K v = some res → V z k nL (pc + 3) lv (.int v :: rest) σ) : V z k nL pc lv (.ref (zA z 35) :: rest) σ :=
  r_get X 35 inAX8 (by decide) rfl rfl 0 (by decide) wd3_195 rfl rfl hdg (kk _ h)
theorem pf_X8_78 (X : Cx z cc nL RX8) {x : Int32} (hdg : decode cc pc = .ok (.putfield 78, 3)) {K : Sg → Option β} (h : st (ss σ 35 0 x) K = some res) (kk : ∀ σ9 : Sg, K σ9 = some res → V z k nL (pc + 3) lv rest σ9) : V z k nL pc lv (.int x :: .ref (zA z 35) :: rest) σ :=
  r_put X 35 inAX8 tyX8 tyX8_ok nmX8 (by decide) rfl rfl 0 (by decide) wd3_195 rfl rfl (ty := .int) rfl rfl rfl (Nat.le_of_ble_eq_true rfl) rfl hdg h kk
theorem gf_X8_7 (X : Cx z cc nL RX8) (hdg : decode cc pc = .ok (.getfield 7, 3)) {K : Int32 → Option β} (h : lt (σ 35 1) K = some res) (kk : ∀ v : Int32, K v = some res → V z k nL (pc + 3) lv (.int v :: rest) σ) : V z k nL pc lv (.ref (zA z 35) :: rest) σ :=
  r_get X 35 inAX8 (by decide) rfl rfl 1 (by decide) wd3_196 rfl rfl hdg (kk _ h)
theorem pf_X8_7 (X : Cx z cc nL RX8) {x : Int32} (hdg : decode cc pc = .ok (.putfield 7, 3)) {K : Sg → Option β} (h : st (ss σ 35 1 x) K = some res) (kk : ∀ σ9 : Sg, K σ9 = some res → V z k nL (pc + 3) lv rest σ9) : V z k nL pc lv (.int x :: .ref (zA z 35) :: rest) σ :=
  r_put X 35 inAX8 tyX8 tyX8_ok nmX8 (by decide) rfl rfl 1 (by decide) wd3_196 rfl rfl (ty := .int) rfl rfl rfl (Nat.le_of_ble_eq_true rfl) rfl hdg h kk
theorem gf_X8_13 (X : Cx z cc nL RX8) (hdg : decode cc pc = .ok (.getfield 13, 3)) (kk : V z k nL (pc + 3) lv (.ref (zA z 36) :: rest) σ) : V z k nL pc lv (.ref (zA z 35) :: rest) σ :=
  r_get X 35 inAX8 (by decide) rfl rfl 2 (by decide) wd3_197 rfl rfl hdg kk
theorem gf_X8_17 (X : Cx z cc nL RX8) (hdg : decode cc pc = .ok (.getfield 17, 3)) (kk : V z k nL (pc + 3) lv (.ref (zA z 37) :: rest) σ) : V z k nL pc lv (.ref (zA z 35) :: rest) σ :=
  r_get X 35 inAX8 (by decide) rfl rfl 3 (by decide) wd3_198 rfl rfl hdg kk
theorem gf_X8_20 (X : Cx z cc nL RX8) (hdg : decode cc pc = .ok (.getfield 20, 3)) (kk : V z k nL (pc + 3) lv (.ref (zA z 38) :: rest) σ) : V z k nL pc lv (.ref (zA z 35) :: rest) σ :=
  r_get X 35 inAX8 (by decide) rfl rfl 4 (by decide) wd3_199 rfl rfl hdg kk
theorem gf_X8_24 (X : Cx z cc nL RX8) (hdg : decode cc pc = .ok (.getfield 24, 3)) (kk : V z k nL (pc + 3) lv (.ref (zA z 39) :: rest) σ) : V z k nL pc lv (.ref (zA z 35) :: rest) σ :=
  r_get X 35 inAX8 (by decide) rfl rfl 5 (by decide) wd3_200 rfl rfl hdg kk
theorem gf_X8_27 (X : Cx z cc nL RX8) (hdg : decode cc pc = .ok (.getfield 27, 3)) (kk : V z k nL (pc + 3) lv (.ref (zA z 40) :: rest) σ) : V z k nL pc lv (.ref (zA z 35) :: rest) σ :=
  r_get X 35 inAX8 (by decide) rfl rfl 6 (by decide) wd3_201 rfl rfl hdg kk
theorem gf_X8_30 (X : Cx z cc nL RX8) (hdg : decode cc pc = .ok (.getfield 30, 3)) (kk : V z k nL (pc + 3) lv (.ref (zA z 41) :: rest) σ) : V z k nL pc lv (.ref (zA z 35) :: rest) σ :=
  r_get X 35 inAX8 (by decide) rfl rfl 7 (by decide) wd3_202 rfl rfl hdg kk
theorem gf_X8_89 (X : Cx z cc nL RX8) (hdg : decode cc pc = .ok (.getfield 89, 3)) {K : Int32 → Option β} (h : lt (σ 35 8) K = some res) (kk : ∀ v : Int32, K v = some res → V z k nL (pc + 3) lv (.int v :: rest) σ) : V z k nL pc lv (.ref (zA z 35) :: rest) σ :=
  r_get X 35 inAX8 (by decide) rfl rfl 8 (by decide) wd3_203 rfl rfl hdg (kk _ h)
theorem pf_X8_89 (X : Cx z cc nL RX8) {x : Int32} (hdg : decode cc pc = .ok (.putfield 89, 3)) {K : Sg → Option β} (h : st (ss σ 35 8 x) K = some res) (kk : ∀ σ9 : Sg, K σ9 = some res → V z k nL (pc + 3) lv rest σ9) : V z k nL pc lv (.int x :: .ref (zA z 35) :: rest) σ :=
  r_put X 35 inAX8 tyX8 tyX8_ok nmX8 (by decide) rfl rfl 8 (by decide) wd3_203 rfl rfl (ty := .int) rfl rfl rfl (Nat.le_of_ble_eq_true rfl) rfl hdg h kk
theorem gf_X8_33 (X : Cx z cc nL RX8) (hdg : decode cc pc = .ok (.getfield 33, 3)) (kk : V z k nL (pc + 3) lv (.ref (zA z 42) :: rest) σ) : V z k nL pc lv (.ref (zA z 35) :: rest) σ :=
  r_get X 35 inAX8 (by decide) rfl rfl 9 (by decide) wd3_204 rfl rfl hdg kk
theorem gf_X8_36 (X : Cx z cc nL RX8) (hdg : decode cc pc = .ok (.getfield 36, 3)) (kk : V z k nL (pc + 3) lv (.ref (zA z 43) :: rest) σ) : V z k nL pc lv (.ref (zA z 35) :: rest) σ :=
  r_get X 35 inAX8 (by decide) rfl rfl 10 (by decide) wd3_205 rfl rfl hdg kk
theorem gf_X8_106 (X : Cx z cc nL RX8) (hdg : decode cc pc = .ok (.getfield 106, 3)) {K : Int32 → Option β} (h : lt (σ 35 11) K = some res) (kk : ∀ v : Int32, K v = some res → V z k nL (pc + 3) lv (.int v :: rest) σ) : V z k nL pc lv (.ref (zA z 35) :: rest) σ :=
  r_get X 35 inAX8 (by decide) rfl rfl 11 (by decide) wd3_206 rfl rfl hdg (kk _ h)
theorem pf_X8_106 (X : Cx z cc nL RX8) {x : Int32} (hdg : decode cc pc = .ok (.putfield 106, 3)) {K : Sg → Option β} (h : st (ss σ 35 11 x) K = some res) (kk : ∀ σ9 : Sg, K σ9 = some res → V z k nL (pc + 3) lv rest σ9) : V z k nL pc lv (.int x :: .ref (zA z 35) :: rest) σ :=
  r_put X 35 inAX8 tyX8 tyX8_ok nmX8 (by decide) rfl rfl 11 (by decide) wd3_206 rfl rfl (ty := .int) rfl rfl rfl (Nat.le_of_ble_eq_true rfl) rfl hdg h kk
theorem gf_X8_103 (X : Cx z cc nL RX8) (hdg : decode cc pc = .ok (.getfield 103, 3)) {K : Int32 → Option β} (h : lt (σ 35 12) K = some res) (kk : ∀ v : Int32, K v = some res → V z k nL (pc + 3) lv (.int v :: rest) σ) : V z k nL pc lv (.ref (zA z 35) :: rest) σ :=
  r_get X 35 inAX8 (by decide) rfl rfl 12 (by decide) wd3_207 rfl rfl hdg (kk _ h)
theorem pf_X8_103 (X : Cx z cc nL RX8) {x : Int32} (hdg : decode cc pc = .ok (.putfield 103, 3)) {K : Sg → Option β} (h : st (ss σ 35 12 x) K = some res) (kk : ∀ σ9 : Sg, K σ9 = some res → V z k nL (pc + 3) lv rest σ9) : V z k nL pc lv (.int x :: .ref (zA z 35) :: rest) σ :=
  r_put X 35 inAX8 tyX8 tyX8_ok nmX8 (by decide) rfl rfl 12 (by decide) wd3_207 rfl rfl (ty := .int) rfl rfl rfl (Nat.le_of_ble_eq_true rfl) rfl hdg h kk
theorem gf_X8_39 (X : Cx z cc nL RX8) (hdg : decode cc pc = .ok (.getfield 39, 3)) (kk : V z k nL (pc + 3) lv (.ref (zA z 44) :: rest) σ) : V z k nL pc lv (.ref (zA z 35) :: rest) σ :=
  r_get X 35 inAX8 (by decide) rfl rfl 13 (by decide) wd3_208 rfl rfl hdg kk
theorem gf_X8_42 (X : Cx z cc nL RX8) (hdg : decode cc pc = .ok (.getfield 42, 3)) (kk : V z k nL (pc + 3) lv (.ref (zA z 45) :: rest) σ) : V z k nL pc lv (.ref (zA z 35) :: rest) σ :=
  r_get X 35 inAX8 (by decide) rfl rfl 14 (by decide) wd3_209 rfl rfl hdg kk
theorem gf_X8_109 (X : Cx z cc nL RX8) (hdg : decode cc pc = .ok (.getfield 109, 3)) {K : Int32 → Option β} (h : lt (σ 35 15) K = some res) (kk : ∀ v : Int32, K v = some res → V z k nL (pc + 3) lv (.int v :: rest) σ) : V z k nL pc lv (.ref (zA z 35) :: rest) σ :=
  r_get X 35 inAX8 (by decide) rfl rfl 15 (by decide) wd3_210 rfl rfl hdg (kk _ h)
theorem pf_X8_109 (X : Cx z cc nL RX8) {x : Int32} (hdg : decode cc pc = .ok (.putfield 109, 3)) {K : Sg → Option β} (h : st (ss σ 35 15 x) K = some res) (kk : ∀ σ9 : Sg, K σ9 = some res → V z k nL (pc + 3) lv rest σ9) : V z k nL pc lv (.int x :: .ref (zA z 35) :: rest) σ :=
  r_put X 35 inAX8 tyX8 tyX8_ok nmX8 (by decide) rfl rfl 15 (by decide) wd3_210 rfl rfl (ty := .int) rfl rfl rfl (Nat.le_of_ble_eq_true rfl) rfl hdg h kk
theorem gf_X8_45 (X : Cx z cc nL RX8) (hdg : decode cc pc = .ok (.getfield 45, 3)) (kk : V z k nL (pc + 3) lv (.ref (zA z 46) :: rest) σ) : V z k nL pc lv (.ref (zA z 35) :: rest) σ :=
  r_get X 35 inAX8 (by decide) rfl rfl 16 (by decide) wd3_211 rfl rfl hdg kk
theorem gf_X8_118 (X : Cx z cc nL RX8) (hdg : decode cc pc = .ok (.getfield 118, 3)) {K : Int32 → Option β} (h : lt (σ 35 17) K = some res) (kk : ∀ v : Int32, K v = some res → V z k nL (pc + 3) lv (.int v :: rest) σ) : V z k nL pc lv (.ref (zA z 35) :: rest) σ :=
  r_get X 35 inAX8 (by decide) rfl rfl 17 (by decide) wd3_212 rfl rfl hdg (kk _ h)
theorem pf_X8_118 (X : Cx z cc nL RX8) {x : Int32} (hdg : decode cc pc = .ok (.putfield 118, 3)) {K : Sg → Option β} (h : st (ss σ 35 17 x) K = some res) (kk : ∀ σ9 : Sg, K σ9 = some res → V z k nL (pc + 3) lv rest σ9) : V z k nL pc lv (.int x :: .ref (zA z 35) :: rest) σ :=
  r_put X 35 inAX8 tyX8 tyX8_ok nmX8 (by decide) rfl rfl 17 (by decide) wd3_212 rfl rfl (ty := .int) rfl rfl rfl (Nat.le_of_ble_eq_true rfl) rfl hdg h kk
theorem gf_X8_48 (X : Cx z cc nL RX8) (hdg : decode cc pc = .ok (.getfield 48, 3)) (kk : V z k nL (pc + 3) lv (.ref (zA z 47) :: rest) σ) : V z k nL pc lv (.ref (zA z 35) :: rest) σ :=
  r_get X 35 inAX8 (by decide) rfl rfl 18 (by decide) wd3_213 rfl rfl hdg kk
theorem gf_X8_51 (X : Cx z cc nL RX8) (hdg : decode cc pc = .ok (.getfield 51, 3)) (kk : V z k nL (pc + 3) lv (.ref (zA z 48) :: rest) σ) : V z k nL pc lv (.ref (zA z 35) :: rest) σ :=
  r_get X 35 inAX8 (by decide) rfl rfl 19 (by decide) wd3_214 rfl rfl hdg kk
theorem gf_X8_54 (X : Cx z cc nL RX8) (hdg : decode cc pc = .ok (.getfield 54, 3)) (kk : V z k nL (pc + 3) lv (.ref (zA z 49) :: rest) σ) : V z k nL pc lv (.ref (zA z 35) :: rest) σ :=
  r_get X 35 inAX8 (by decide) rfl rfl 20 (by decide) wd3_215 rfl rfl hdg kk
theorem gf_X8_57 (X : Cx z cc nL RX8) (hdg : decode cc pc = .ok (.getfield 57, 3)) (kk : V z k nL (pc + 3) lv (.ref (zA z 50) :: rest) σ) : V z k nL pc lv (.ref (zA z 35) :: rest) σ :=
  r_get X 35 inAX8 (by decide) rfl rfl 21 (by decide) wd3_216 rfl rfl hdg kk
theorem gf_X8_132 (X : Cx z cc nL RX8) (hdg : decode cc pc = .ok (.getfield 132, 3)) {K : Int32 → Option β} (h : lt (σ 35 22) K = some res) (kk : ∀ v : Int32, K v = some res → V z k nL (pc + 3) lv (.int v :: rest) σ) : V z k nL pc lv (.ref (zA z 35) :: rest) σ :=
  r_get X 35 inAX8 (by decide) rfl rfl 22 (by decide) wd3_217 rfl rfl hdg (kk _ h)
theorem pf_X8_132 (X : Cx z cc nL RX8) {x : Int32} (hdg : decode cc pc = .ok (.putfield 132, 3)) {K : Sg → Option β} (h : st (ss σ 35 22 x) K = some res) (kk : ∀ σ9 : Sg, K σ9 = some res → V z k nL (pc + 3) lv rest σ9) : V z k nL pc lv (.int x :: .ref (zA z 35) :: rest) σ :=
  r_put X 35 inAX8 tyX8 tyX8_ok nmX8 (by decide) rfl rfl 22 (by decide) wd3_217 rfl rfl (ty := .int) rfl rfl rfl (Nat.le_of_ble_eq_true rfl) rfl hdg h kk
theorem gf_X8_60 (X : Cx z cc nL RX8) (hdg : decode cc pc = .ok (.getfield 60, 3)) (kk : V z k nL (pc + 3) lv (.ref (zA z 51) :: rest) σ) : V z k nL pc lv (.ref (zA z 35) :: rest) σ :=
  r_get X 35 inAX8 (by decide) rfl rfl 23 (by decide) wd3_218 rfl rfl hdg kk
theorem gf_X8_63 (X : Cx z cc nL RX8) (hdg : decode cc pc = .ok (.getfield 63, 3)) (kk : V z k nL (pc + 3) lv (.ref (zA z 52) :: rest) σ) : V z k nL pc lv (.ref (zA z 35) :: rest) σ :=
  r_get X 35 inAX8 (by decide) rfl rfl 24 (by decide) wd3_219 rfl rfl hdg kk
theorem gf_X8_141 (X : Cx z cc nL RX8) (hdg : decode cc pc = .ok (.getfield 141, 3)) {K : Int32 → Option β} (h : lt (σ 35 25) K = some res) (kk : ∀ v : Int32, K v = some res → V z k nL (pc + 3) lv (.int v :: rest) σ) : V z k nL pc lv (.ref (zA z 35) :: rest) σ :=
  r_get X 35 inAX8 (by decide) rfl rfl 25 (by decide) wd3_220 rfl rfl hdg (kk _ h)
theorem pf_X8_141 (X : Cx z cc nL RX8) {x : Int32} (hdg : decode cc pc = .ok (.putfield 141, 3)) {K : Sg → Option β} (h : st (ss σ 35 25 x) K = some res) (kk : ∀ σ9 : Sg, K σ9 = some res → V z k nL (pc + 3) lv rest σ9) : V z k nL pc lv (.int x :: .ref (zA z 35) :: rest) σ :=
  r_put X 35 inAX8 tyX8 tyX8_ok nmX8 (by decide) rfl rfl 25 (by decide) wd3_220 rfl rfl (ty := .int) rfl rfl rfl (Nat.le_of_ble_eq_true rfl) rfl hdg h kk
theorem gf_X8_66 (X : Cx z cc nL RX8) (hdg : decode cc pc = .ok (.getfield 66, 3)) (kk : V z k nL (pc + 3) lv (.ref (zA z 53) :: rest) σ) : V z k nL pc lv (.ref (zA z 35) :: rest) σ :=
  r_get X 35 inAX8 (by decide) rfl rfl 26 (by decide) wd3_221 rfl rfl hdg kk
theorem gf_X8_69 (X : Cx z cc nL RX8) (hdg : decode cc pc = .ok (.getfield 69, 3)) (kk : V z k nL (pc + 3) lv (.ref (zA z 54) :: rest) σ) : V z k nL pc lv (.ref (zA z 35) :: rest) σ :=
  r_get X 35 inAX8 (by decide) rfl rfl 27 (by decide) wd3_222 rfl rfl hdg kk
theorem gf_X8_72 (X : Cx z cc nL RX8) (hdg : decode cc pc = .ok (.getfield 72, 3)) (kk : V z k nL (pc + 3) lv (.ref (zA z 55) :: rest) σ) : V z k nL pc lv (.ref (zA z 35) :: rest) σ :=
  r_get X 35 inAX8 (by decide) rfl rfl 28 (by decide) wd3_223 rfl rfl hdg kk
theorem gf_X8_75 (X : Cx z cc nL RX8) (hdg : decode cc pc = .ok (.getfield 75, 3)) (kk : V z k nL (pc + 3) lv (.ref (zA z 56) :: rest) σ) : V z k nL pc lv (.ref (zA z 35) :: rest) σ :=
  r_get X 35 inAX8 (by decide) rfl rfl 29 (by decide) wd3_224 rfl rfl hdg kk
theorem al_2 {own : String} (X : Cx z cc nL own) {i : Int32} (hdg : decode cc pc = .ok (.iaload, 1)) {K : Int32 → Option β} (h : rdA 20 (σ 2) i K = some res) (kk : ∀ v : Int32, K v = some res → V z k nL (pc + 1) lv (.int v :: rest) σ) : V z k nL pc lv (.int i :: .ref (zA z 2) :: rest) σ :=
  r_iald X 2 0 20 (by decide) rfl rfl hdg h kk
theorem as_2 {own : String} (X : Cx z cc nL own) {i x : Int32} (hdg : decode cc pc = .ok (.iastore, 1)) {K : Sg → Option β} (h : wrA 20 σ 2 i x K = some res) (kk : ∀ σ9 : Sg, K σ9 = some res → V z k nL (pc + 1) lv rest σ9) : V z k nL pc lv (.int x :: .int i :: .ref (zA z 2) :: rest) σ :=
  r_iast X 2 0 20 (by decide) (fun _ => rfl) rfl hdg h kk
theorem al_4 {own : String} (X : Cx z cc nL own) {i : Int32} (hdg : decode cc pc = .ok (.iaload, 1)) {K : Int32 → Option β} (h : rdA 60 (σ 4) i K = some res) (kk : ∀ v : Int32, K v = some res → V z k nL (pc + 1) lv (.int v :: rest) σ) : V z k nL pc lv (.int i :: .ref (zA z 4) :: rest) σ :=
  r_iald X 4 1 60 (by decide) rfl rfl hdg h kk
theorem as_4 {own : String} (X : Cx z cc nL own) {i x : Int32} (hdg : decode cc pc = .ok (.iastore, 1)) {K : Sg → Option β} (h : wrA 60 σ 4 i x K = some res) (kk : ∀ σ9 : Sg, K σ9 = some res → V z k nL (pc + 1) lv rest σ9) : V z k nL pc lv (.int x :: .int i :: .ref (zA z 4) :: rest) σ :=
  r_iast X 4 1 60 (by decide) (fun _ => rfl) rfl hdg h kk
theorem al_5 {own : String} (X : Cx z cc nL own) {i : Int32} (hdg : decode cc pc = .ok (.iaload, 1)) {K : Int32 → Option β} (h : rdA 60 (σ 5) i K = some res) (kk : ∀ v : Int32, K v = some res → V z k nL (pc + 1) lv (.int v :: rest) σ) : V z k nL pc lv (.int i :: .ref (zA z 5) :: rest) σ :=
  r_iald X 5 2 60 (by decide) rfl rfl hdg h kk
theorem as_5 {own : String} (X : Cx z cc nL own) {i x : Int32} (hdg : decode cc pc = .ok (.iastore, 1)) {K : Sg → Option β} (h : wrA 60 σ 5 i x K = some res) (kk : ∀ σ9 : Sg, K σ9 = some res → V z k nL (pc + 1) lv rest σ9) : V z k nL pc lv (.int x :: .int i :: .ref (zA z 5) :: rest) σ :=
  r_iast X 5 2 60 (by decide) (fun _ => rfl) rfl hdg h kk
theorem al_6 {own : String} (X : Cx z cc nL own) {i : Int32} (hdg : decode cc pc = .ok (.iaload, 1)) {K : Int32 → Option β} (h : rdA 60 (σ 6) i K = some res) (kk : ∀ v : Int32, K v = some res → V z k nL (pc + 1) lv (.int v :: rest) σ) : V z k nL pc lv (.int i :: .ref (zA z 6) :: rest) σ :=
  r_iald X 6 3 60 (by decide) rfl rfl hdg h kk
theorem as_6 {own : String} (X : Cx z cc nL own) {i x : Int32} (hdg : decode cc pc = .ok (.iastore, 1)) {K : Sg → Option β} (h : wrA 60 σ 6 i x K = some res) (kk : ∀ σ9 : Sg, K σ9 = some res → V z k nL (pc + 1) lv rest σ9) : V z k nL pc lv (.int x :: .int i :: .ref (zA z 6) :: rest) σ :=
  r_iast X 6 3 60 (by decide) (fun _ => rfl) rfl hdg h kk
theorem al_7 {own : String} (X : Cx z cc nL own) {i : Int32} (hdg : decode cc pc = .ok (.iaload, 1)) {K : Int32 → Option β} (h : rdA 260 (σ 7) i K = some res) (kk : ∀ v : Int32, K v = some res → V z k nL (pc + 1) lv (.int v :: rest) σ) : V z k nL pc lv (.int i :: .ref (zA z 7) :: rest) σ :=
  r_iald X 7 4 260 (by decide) rfl rfl hdg h kk
theorem as_7 {own : String} (X : Cx z cc nL own) {i x : Int32} (hdg : decode cc pc = .ok (.iastore, 1)) {K : Sg → Option β} (h : wrA 260 σ 7 i x K = some res) (kk : ∀ σ9 : Sg, K σ9 = some res → V z k nL (pc + 1) lv rest σ9) : V z k nL pc lv (.int x :: .int i :: .ref (zA z 7) :: rest) σ :=
  r_iast X 7 4 260 (by decide) (fun _ => rfl) rfl hdg h kk
theorem al_8 {own : String} (X : Cx z cc nL own) {i : Int32} (hdg : decode cc pc = .ok (.iaload, 1)) {K : Int32 → Option β} (h : rdA 260 (σ 8) i K = some res) (kk : ∀ v : Int32, K v = some res → V z k nL (pc + 1) lv (.int v :: rest) σ) : V z k nL pc lv (.int i :: .ref (zA z 8) :: rest) σ :=
  r_iald X 8 5 260 (by decide) rfl rfl hdg h kk
theorem as_8 {own : String} (X : Cx z cc nL own) {i x : Int32} (hdg : decode cc pc = .ok (.iastore, 1)) {K : Sg → Option β} (h : wrA 260 σ 8 i x K = some res) (kk : ∀ σ9 : Sg, K σ9 = some res → V z k nL (pc + 1) lv rest σ9) : V z k nL pc lv (.int x :: .int i :: .ref (zA z 8) :: rest) σ :=
  r_iast X 8 5 260 (by decide) (fun _ => rfl) rfl hdg h kk
theorem al_10 {own : String} (X : Cx z cc nL own) {i : Int32} (hdg : decode cc pc = .ok (.iaload, 1)) {K : Int32 → Option β} (h : rdA 60 (σ 10) i K = some res) (kk : ∀ v : Int32, K v = some res → V z k nL (pc + 1) lv (.int v :: rest) σ) : V z k nL pc lv (.int i :: .ref (zA z 10) :: rest) σ :=
  r_iald X 10 6 60 (by decide) rfl rfl hdg h kk
theorem as_10 {own : String} (X : Cx z cc nL own) {i x : Int32} (hdg : decode cc pc = .ok (.iastore, 1)) {K : Sg → Option β} (h : wrA 60 σ 10 i x K = some res) (kk : ∀ σ9 : Sg, K σ9 = some res → V z k nL (pc + 1) lv rest σ9) : V z k nL pc lv (.int x :: .int i :: .ref (zA z 10) :: rest) σ :=
  r_iast X 10 6 60 (by decide) (fun _ => rfl) rfl hdg h kk
theorem al_11 {own : String} (X : Cx z cc nL own) {i : Int32} (hdg : decode cc pc = .ok (.iaload, 1)) {K : Int32 → Option β} (h : rdA 100 (σ 11) i K = some res) (kk : ∀ v : Int32, K v = some res → V z k nL (pc + 1) lv (.int v :: rest) σ) : V z k nL pc lv (.int i :: .ref (zA z 11) :: rest) σ :=
  r_iald X 11 7 100 (by decide) rfl rfl hdg h kk
theorem as_11 {own : String} (X : Cx z cc nL own) {i x : Int32} (hdg : decode cc pc = .ok (.iastore, 1)) {K : Sg → Option β} (h : wrA 100 σ 11 i x K = some res) (kk : ∀ σ9 : Sg, K σ9 = some res → V z k nL (pc + 1) lv rest σ9) : V z k nL pc lv (.int x :: .int i :: .ref (zA z 11) :: rest) σ :=
  r_iast X 11 7 100 (by decide) (fun _ => rfl) rfl hdg h kk
theorem al_13 {own : String} (X : Cx z cc nL own) {i : Int32} (hdg : decode cc pc = .ok (.iaload, 1)) {K : Int32 → Option β} (h : rdA 200 (σ 13) i K = some res) (kk : ∀ v : Int32, K v = some res → V z k nL (pc + 1) lv (.int v :: rest) σ) : V z k nL pc lv (.int i :: .ref (zA z 13) :: rest) σ :=
  r_iald X 13 8 200 (by decide) rfl rfl hdg h kk
theorem as_13 {own : String} (X : Cx z cc nL own) {i x : Int32} (hdg : decode cc pc = .ok (.iastore, 1)) {K : Sg → Option β} (h : wrA 200 σ 13 i x K = some res) (kk : ∀ σ9 : Sg, K σ9 = some res → V z k nL (pc + 1) lv rest σ9) : V z k nL pc lv (.int x :: .int i :: .ref (zA z 13) :: rest) σ :=
  r_iast X 13 8 200 (by decide) (fun _ => rfl) rfl hdg h kk
theorem al_14 {own : String} (X : Cx z cc nL own) {i : Int32} (hdg : decode cc pc = .ok (.iaload, 1)) {K : Int32 → Option β} (h : rdA 200 (σ 14) i K = some res) (kk : ∀ v : Int32, K v = some res → V z k nL (pc + 1) lv (.int v :: rest) σ) : V z k nL pc lv (.int i :: .ref (zA z 14) :: rest) σ :=
  r_iald X 14 9 200 (by decide) rfl rfl hdg h kk
theorem as_14 {own : String} (X : Cx z cc nL own) {i x : Int32} (hdg : decode cc pc = .ok (.iastore, 1)) {K : Sg → Option β} (h : wrA 200 σ 14 i x K = some res) (kk : ∀ σ9 : Sg, K σ9 = some res → V z k nL (pc + 1) lv rest σ9) : V z k nL pc lv (.int x :: .int i :: .ref (zA z 14) :: rest) σ :=
  r_iast X 14 9 200 (by decide) (fun _ => rfl) rfl hdg h kk
theorem al_15 {own : String} (X : Cx z cc nL own) {i : Int32} (hdg : decode cc pc = .ok (.iaload, 1)) {K : Int32 → Option β} (h : rdA 10 (σ 15) i K = some res) (kk : ∀ v : Int32, K v = some res → V z k nL (pc + 1) lv (.int v :: rest) σ) : V z k nL pc lv (.int i :: .ref (zA z 15) :: rest) σ :=
  r_iald X 15 10 10 (by decide) rfl rfl hdg h kk
theorem as_15 {own : String} (X : Cx z cc nL own) {i x : Int32} (hdg : decode cc pc = .ok (.iastore, 1)) {K : Sg → Option β} (h : wrA 10 σ 15 i x K = some res) (kk : ∀ σ9 : Sg, K σ9 = some res → V z k nL (pc + 1) lv rest σ9) : V z k nL pc lv (.int x :: .int i :: .ref (zA z 15) :: rest) σ :=
  r_iast X 15 10 10 (by decide) (fun _ => rfl) rfl hdg h kk
theorem al_17 {own : String} (X : Cx z cc nL own) {i : Int32} (hdg : decode cc pc = .ok (.iaload, 1)) {K : Int32 → Option β} (h : rdA 60 (σ 17) i K = some res) (kk : ∀ v : Int32, K v = some res → V z k nL (pc + 1) lv (.int v :: rest) σ) : V z k nL pc lv (.int i :: .ref (zA z 17) :: rest) σ :=
  r_iald X 17 11 60 (by decide) rfl rfl hdg h kk
theorem as_17 {own : String} (X : Cx z cc nL own) {i x : Int32} (hdg : decode cc pc = .ok (.iastore, 1)) {K : Sg → Option β} (h : wrA 60 σ 17 i x K = some res) (kk : ∀ σ9 : Sg, K σ9 = some res → V z k nL (pc + 1) lv rest σ9) : V z k nL pc lv (.int x :: .int i :: .ref (zA z 17) :: rest) σ :=
  r_iast X 17 11 60 (by decide) (fun _ => rfl) rfl hdg h kk
theorem al_18 {own : String} (X : Cx z cc nL own) {i : Int32} (hdg : decode cc pc = .ok (.iaload, 1)) {K : Int32 → Option β} (h : rdA 60 (σ 18) i K = some res) (kk : ∀ v : Int32, K v = some res → V z k nL (pc + 1) lv (.int v :: rest) σ) : V z k nL pc lv (.int i :: .ref (zA z 18) :: rest) σ :=
  r_iald X 18 12 60 (by decide) rfl rfl hdg h kk
theorem as_18 {own : String} (X : Cx z cc nL own) {i x : Int32} (hdg : decode cc pc = .ok (.iastore, 1)) {K : Sg → Option β} (h : wrA 60 σ 18 i x K = some res) (kk : ∀ σ9 : Sg, K σ9 = some res → V z k nL (pc + 1) lv rest σ9) : V z k nL pc lv (.int x :: .int i :: .ref (zA z 18) :: rest) σ :=
  r_iast X 18 12 60 (by decide) (fun _ => rfl) rfl hdg h kk
theorem al_19 {own : String} (X : Cx z cc nL own) {i : Int32} (hdg : decode cc pc = .ok (.iaload, 1)) {K : Int32 → Option β} (h : rdA 60 (σ 19) i K = some res) (kk : ∀ v : Int32, K v = some res → V z k nL (pc + 1) lv (.int v :: rest) σ) : V z k nL pc lv (.int i :: .ref (zA z 19) :: rest) σ :=
  r_iald X 19 13 60 (by decide) rfl rfl hdg h kk
theorem as_19 {own : String} (X : Cx z cc nL own) {i x : Int32} (hdg : decode cc pc = .ok (.iastore, 1)) {K : Sg → Option β} (h : wrA 60 σ 19 i x K = some res) (kk : ∀ σ9 : Sg, K σ9 = some res → V z k nL (pc + 1) lv rest σ9) : V z k nL pc lv (.int x :: .int i :: .ref (zA z 19) :: rest) σ :=
  r_iast X 19 13 60 (by decide) (fun _ => rfl) rfl hdg h kk
theorem al_21 {own : String} (X : Cx z cc nL own) {i : Int32} (hdg : decode cc pc = .ok (.iaload, 1)) {K : Int32 → Option β} (h : rdA 480 (σ 21) i K = some res) (kk : ∀ v : Int32, K v = some res → V z k nL (pc + 1) lv (.int v :: rest) σ) : V z k nL pc lv (.int i :: .ref (zA z 21) :: rest) σ :=
  r_iald X 21 14 480 (by decide) rfl rfl hdg h kk
theorem as_21 {own : String} (X : Cx z cc nL own) {i x : Int32} (hdg : decode cc pc = .ok (.iastore, 1)) {K : Sg → Option β} (h : wrA 480 σ 21 i x K = some res) (kk : ∀ σ9 : Sg, K σ9 = some res → V z k nL (pc + 1) lv rest σ9) : V z k nL pc lv (.int x :: .int i :: .ref (zA z 21) :: rest) σ :=
  r_iast X 21 14 480 (by decide) (fun _ => rfl) rfl hdg h kk
theorem al_23 {own : String} (X : Cx z cc nL own) {i : Int32} (hdg : decode cc pc = .ok (.iaload, 1)) {K : Int32 → Option β} (h : rdA 760 (σ 23) i K = some res) (kk : ∀ v : Int32, K v = some res → V z k nL (pc + 1) lv (.int v :: rest) σ) : V z k nL pc lv (.int i :: .ref (zA z 23) :: rest) σ :=
  r_iald X 23 15 760 (by decide) rfl rfl hdg h kk
theorem as_23 {own : String} (X : Cx z cc nL own) {i x : Int32} (hdg : decode cc pc = .ok (.iastore, 1)) {K : Sg → Option β} (h : wrA 760 σ 23 i x K = some res) (kk : ∀ σ9 : Sg, K σ9 = some res → V z k nL (pc + 1) lv rest σ9) : V z k nL pc lv (.int x :: .int i :: .ref (zA z 23) :: rest) σ :=
  r_iast X 23 15 760 (by decide) (fun _ => rfl) rfl hdg h kk
theorem al_24 {own : String} (X : Cx z cc nL own) {i : Int32} (hdg : decode cc pc = .ok (.iaload, 1)) {K : Int32 → Option β} (h : rdA 760 (σ 24) i K = some res) (kk : ∀ v : Int32, K v = some res → V z k nL (pc + 1) lv (.int v :: rest) σ) : V z k nL pc lv (.int i :: .ref (zA z 24) :: rest) σ :=
  r_iald X 24 16 760 (by decide) rfl rfl hdg h kk
theorem as_24 {own : String} (X : Cx z cc nL own) {i x : Int32} (hdg : decode cc pc = .ok (.iastore, 1)) {K : Sg → Option β} (h : wrA 760 σ 24 i x K = some res) (kk : ∀ σ9 : Sg, K σ9 = some res → V z k nL (pc + 1) lv rest σ9) : V z k nL pc lv (.int x :: .int i :: .ref (zA z 24) :: rest) σ :=
  r_iast X 24 16 760 (by decide) (fun _ => rfl) rfl hdg h kk
theorem al_25 {own : String} (X : Cx z cc nL own) {i : Int32} (hdg : decode cc pc = .ok (.iaload, 1)) {K : Int32 → Option β} (h : rdA 760 (σ 25) i K = some res) (kk : ∀ v : Int32, K v = some res → V z k nL (pc + 1) lv (.int v :: rest) σ) : V z k nL pc lv (.int i :: .ref (zA z 25) :: rest) σ :=
  r_iald X 25 17 760 (by decide) rfl rfl hdg h kk
theorem as_25 {own : String} (X : Cx z cc nL own) {i x : Int32} (hdg : decode cc pc = .ok (.iastore, 1)) {K : Sg → Option β} (h : wrA 760 σ 25 i x K = some res) (kk : ∀ σ9 : Sg, K σ9 = some res → V z k nL (pc + 1) lv rest σ9) : V z k nL pc lv (.int x :: .int i :: .ref (zA z 25) :: rest) σ :=
  r_iast X 25 17 760 (by decide) (fun _ => rfl) rfl hdg h kk
theorem al_26 {own : String} (X : Cx z cc nL own) {i : Int32} (hdg : decode cc pc = .ok (.iaload, 1)) {K : Int32 → Option β} (h : rdA 60 (σ 26) i K = some res) (kk : ∀ v : Int32, K v = some res → V z k nL (pc + 1) lv (.int v :: rest) σ) : V z k nL pc lv (.int i :: .ref (zA z 26) :: rest) σ :=
  r_iald X 26 18 60 (by decide) rfl rfl hdg h kk
theorem as_26 {own : String} (X : Cx z cc nL own) {i x : Int32} (hdg : decode cc pc = .ok (.iastore, 1)) {K : Sg → Option β} (h : wrA 60 σ 26 i x K = some res) (kk : ∀ σ9 : Sg, K σ9 = some res → V z k nL (pc + 1) lv rest σ9) : V z k nL pc lv (.int x :: .int i :: .ref (zA z 26) :: rest) σ :=
  r_iast X 26 18 60 (by decide) (fun _ => rfl) rfl hdg h kk
theorem al_27 {own : String} (X : Cx z cc nL own) {i : Int32} (hdg : decode cc pc = .ok (.baload, 1)) {K : Int32 → Option β} (h : rdA 60 (σ 27) i K = some res) (kk : ∀ v : Int32, K v = some res → V z k nL (pc + 1) lv (.int v :: rest) σ) : V z k nL pc lv (.int i :: .ref (zA z 27) :: rest) σ :=
  r_zald X 27 19 60 (by decide) rfl rfl hdg h kk
theorem as_27 {own : String} (X : Cx z cc nL own) {i x : Int32} (hdg : decode cc pc = .ok (.bastore, 1)) {K : Sg → Option β} (h : wrA 60 σ 27 i (vp_nar .boolean x) K = some res) (kk : ∀ σ9 : Sg, K σ9 = some res → V z k nL (pc + 1) lv rest σ9) : V z k nL pc lv (.int x :: .int i :: .ref (zA z 27) :: rest) σ :=
  r_zast X 27 19 60 (by decide) (fun _ => rfl) rfl hdg h kk
theorem al_28 {own : String} (X : Cx z cc nL own) {i : Int32} (hdg : decode cc pc = .ok (.iaload, 1)) {K : Int32 → Option β} (h : rdA 60 (σ 28) i K = some res) (kk : ∀ v : Int32, K v = some res → V z k nL (pc + 1) lv (.int v :: rest) σ) : V z k nL pc lv (.int i :: .ref (zA z 28) :: rest) σ :=
  r_iald X 28 20 60 (by decide) rfl rfl hdg h kk
theorem as_28 {own : String} (X : Cx z cc nL own) {i x : Int32} (hdg : decode cc pc = .ok (.iastore, 1)) {K : Sg → Option β} (h : wrA 60 σ 28 i x K = some res) (kk : ∀ σ9 : Sg, K σ9 = some res → V z k nL (pc + 1) lv rest σ9) : V z k nL pc lv (.int x :: .int i :: .ref (zA z 28) :: rest) σ :=
  r_iast X 28 20 60 (by decide) (fun _ => rfl) rfl hdg h kk
theorem al_29 {own : String} (X : Cx z cc nL own) {i : Int32} (hdg : decode cc pc = .ok (.iaload, 1)) {K : Int32 → Option β} (h : rdA 60 (σ 29) i K = some res) (kk : ∀ v : Int32, K v = some res → V z k nL (pc + 1) lv (.int v :: rest) σ) : V z k nL pc lv (.int i :: .ref (zA z 29) :: rest) σ :=
  r_iald X 29 21 60 (by decide) rfl rfl hdg h kk
theorem as_29 {own : String} (X : Cx z cc nL own) {i x : Int32} (hdg : decode cc pc = .ok (.iastore, 1)) {K : Sg → Option β} (h : wrA 60 σ 29 i x K = some res) (kk : ∀ σ9 : Sg, K σ9 = some res → V z k nL (pc + 1) lv rest σ9) : V z k nL pc lv (.int x :: .int i :: .ref (zA z 29) :: rest) σ :=
  r_iast X 29 21 60 (by decide) (fun _ => rfl) rfl hdg h kk
theorem al_30 {own : String} (X : Cx z cc nL own) {i : Int32} (hdg : decode cc pc = .ok (.iaload, 1)) {K : Int32 → Option β} (h : rdA 40 (σ 30) i K = some res) (kk : ∀ v : Int32, K v = some res → V z k nL (pc + 1) lv (.int v :: rest) σ) : V z k nL pc lv (.int i :: .ref (zA z 30) :: rest) σ :=
  r_iald X 30 22 40 (by decide) rfl rfl hdg h kk
theorem as_30 {own : String} (X : Cx z cc nL own) {i x : Int32} (hdg : decode cc pc = .ok (.iastore, 1)) {K : Sg → Option β} (h : wrA 40 σ 30 i x K = some res) (kk : ∀ σ9 : Sg, K σ9 = some res → V z k nL (pc + 1) lv rest σ9) : V z k nL pc lv (.int x :: .int i :: .ref (zA z 30) :: rest) σ :=
  r_iast X 30 22 40 (by decide) (fun _ => rfl) rfl hdg h kk
theorem al_31 {own : String} (X : Cx z cc nL own) {i : Int32} (hdg : decode cc pc = .ok (.iaload, 1)) {K : Int32 → Option β} (h : rdA 40 (σ 31) i K = some res) (kk : ∀ v : Int32, K v = some res → V z k nL (pc + 1) lv (.int v :: rest) σ) : V z k nL pc lv (.int i :: .ref (zA z 31) :: rest) σ :=
  r_iald X 31 23 40 (by decide) rfl rfl hdg h kk
theorem as_31 {own : String} (X : Cx z cc nL own) {i x : Int32} (hdg : decode cc pc = .ok (.iastore, 1)) {K : Sg → Option β} (h : wrA 40 σ 31 i x K = some res) (kk : ∀ σ9 : Sg, K σ9 = some res → V z k nL (pc + 1) lv rest σ9) : V z k nL pc lv (.int x :: .int i :: .ref (zA z 31) :: rest) σ :=
  r_iast X 31 23 40 (by decide) (fun _ => rfl) rfl hdg h kk
theorem al_32 {own : String} (X : Cx z cc nL own) {i : Int32} (hdg : decode cc pc = .ok (.iaload, 1)) {K : Int32 → Option β} (h : rdA 200 (σ 32) i K = some res) (kk : ∀ v : Int32, K v = some res → V z k nL (pc + 1) lv (.int v :: rest) σ) : V z k nL pc lv (.int i :: .ref (zA z 32) :: rest) σ :=
  r_iald X 32 24 200 (by decide) rfl rfl hdg h kk
theorem as_32 {own : String} (X : Cx z cc nL own) {i x : Int32} (hdg : decode cc pc = .ok (.iastore, 1)) {K : Sg → Option β} (h : wrA 200 σ 32 i x K = some res) (kk : ∀ σ9 : Sg, K σ9 = some res → V z k nL (pc + 1) lv rest σ9) : V z k nL pc lv (.int x :: .int i :: .ref (zA z 32) :: rest) σ :=
  r_iast X 32 24 200 (by decide) (fun _ => rfl) rfl hdg h kk
theorem al_33 {own : String} (X : Cx z cc nL own) {i : Int32} (hdg : decode cc pc = .ok (.iaload, 1)) {K : Int32 → Option β} (h : rdA 10 (σ 33) i K = some res) (kk : ∀ v : Int32, K v = some res → V z k nL (pc + 1) lv (.int v :: rest) σ) : V z k nL pc lv (.int i :: .ref (zA z 33) :: rest) σ :=
  r_iald X 33 25 10 (by decide) rfl rfl hdg h kk
theorem as_33 {own : String} (X : Cx z cc nL own) {i x : Int32} (hdg : decode cc pc = .ok (.iastore, 1)) {K : Sg → Option β} (h : wrA 10 σ 33 i x K = some res) (kk : ∀ σ9 : Sg, K σ9 = some res → V z k nL (pc + 1) lv rest σ9) : V z k nL pc lv (.int x :: .int i :: .ref (zA z 33) :: rest) σ :=
  r_iast X 33 25 10 (by decide) (fun _ => rfl) rfl hdg h kk
theorem al_36 {own : String} (X : Cx z cc nL own) {i : Int32} (hdg : decode cc pc = .ok (.iaload, 1)) {K : Int32 → Option β} (h : rdA 60 (σ 36) i K = some res) (kk : ∀ v : Int32, K v = some res → V z k nL (pc + 1) lv (.int v :: rest) σ) : V z k nL pc lv (.int i :: .ref (zA z 36) :: rest) σ :=
  r_iald X 36 27 60 (by decide) rfl rfl hdg h kk
theorem as_36 {own : String} (X : Cx z cc nL own) {i x : Int32} (hdg : decode cc pc = .ok (.iastore, 1)) {K : Sg → Option β} (h : wrA 60 σ 36 i x K = some res) (kk : ∀ σ9 : Sg, K σ9 = some res → V z k nL (pc + 1) lv rest σ9) : V z k nL pc lv (.int x :: .int i :: .ref (zA z 36) :: rest) σ :=
  r_iast X 36 27 60 (by decide) (fun _ => rfl) rfl hdg h kk
theorem al_37 {own : String} (X : Cx z cc nL own) {i : Int32} (hdg : decode cc pc = .ok (.iaload, 1)) {K : Int32 → Option β} (h : rdA 60 (σ 37) i K = some res) (kk : ∀ v : Int32, K v = some res → V z k nL (pc + 1) lv (.int v :: rest) σ) : V z k nL pc lv (.int i :: .ref (zA z 37) :: rest) σ :=
  r_iald X 37 28 60 (by decide) rfl rfl hdg h kk
theorem as_37 {own : String} (X : Cx z cc nL own) {i x : Int32} (hdg : decode cc pc = .ok (.iastore, 1)) {K : Sg → Option β} (h : wrA 60 σ 37 i x K = some res) (kk : ∀ σ9 : Sg, K σ9 = some res → V z k nL (pc + 1) lv rest σ9) : V z k nL pc lv (.int x :: .int i :: .ref (zA z 37) :: rest) σ :=
  r_iast X 37 28 60 (by decide) (fun _ => rfl) rfl hdg h kk
theorem al_38 {own : String} (X : Cx z cc nL own) {i : Int32} (hdg : decode cc pc = .ok (.baload, 1)) {K : Int32 → Option β} (h : rdA 60 (σ 38) i K = some res) (kk : ∀ v : Int32, K v = some res → V z k nL (pc + 1) lv (.int v :: rest) σ) : V z k nL pc lv (.int i :: .ref (zA z 38) :: rest) σ :=
  r_zald X 38 29 60 (by decide) rfl rfl hdg h kk
theorem as_38 {own : String} (X : Cx z cc nL own) {i x : Int32} (hdg : decode cc pc = .ok (.bastore, 1)) {K : Sg → Option β} (h : wrA 60 σ 38 i (vp_nar .boolean x) K = some res) (kk : ∀ σ9 : Sg, K σ9 = some res → V z k nL (pc + 1) lv rest σ9) : V z k nL pc lv (.int x :: .int i :: .ref (zA z 38) :: rest) σ :=
  r_zast X 38 29 60 (by decide) (fun _ => rfl) rfl hdg h kk
theorem al_39 {own : String} (X : Cx z cc nL own) {i : Int32} (hdg : decode cc pc = .ok (.iaload, 1)) {K : Int32 → Option β} (h : rdA 60 (σ 39) i K = some res) (kk : ∀ v : Int32, K v = some res → V z k nL (pc + 1) lv (.int v :: rest) σ) : V z k nL pc lv (.int i :: .ref (zA z 39) :: rest) σ :=
  r_iald X 39 30 60 (by decide) rfl rfl hdg h kk
theorem as_39 {own : String} (X : Cx z cc nL own) {i x : Int32} (hdg : decode cc pc = .ok (.iastore, 1)) {K : Sg → Option β} (h : wrA 60 σ 39 i x K = some res) (kk : ∀ σ9 : Sg, K σ9 = some res → V z k nL (pc + 1) lv rest σ9) : V z k nL pc lv (.int x :: .int i :: .ref (zA z 39) :: rest) σ :=
  r_iast X 39 30 60 (by decide) (fun _ => rfl) rfl hdg h kk
theorem al_40 {own : String} (X : Cx z cc nL own) {i : Int32} (hdg : decode cc pc = .ok (.iaload, 1)) {K : Int32 → Option β} (h : rdA 60 (σ 40) i K = some res) (kk : ∀ v : Int32, K v = some res → V z k nL (pc + 1) lv (.int v :: rest) σ) : V z k nL pc lv (.int i :: .ref (zA z 40) :: rest) σ :=
  r_iald X 40 31 60 (by decide) rfl rfl hdg h kk
theorem as_40 {own : String} (X : Cx z cc nL own) {i x : Int32} (hdg : decode cc pc = .ok (.iastore, 1)) {K : Sg → Option β} (h : wrA 60 σ 40 i x K = some res) (kk : ∀ σ9 : Sg, K σ9 = some res → V z k nL (pc + 1) lv rest σ9) : V z k nL pc lv (.int x :: .int i :: .ref (zA z 40) :: rest) σ :=
  r_iast X 40 31 60 (by decide) (fun _ => rfl) rfl hdg h kk
theorem al_41 {own : String} (X : Cx z cc nL own) {i : Int32} (hdg : decode cc pc = .ok (.iaload, 1)) {K : Int32 → Option β} (h : rdA 20 (σ 41) i K = some res) (kk : ∀ v : Int32, K v = some res → V z k nL (pc + 1) lv (.int v :: rest) σ) : V z k nL pc lv (.int i :: .ref (zA z 41) :: rest) σ :=
  r_iald X 41 32 20 (by decide) rfl rfl hdg h kk
theorem as_41 {own : String} (X : Cx z cc nL own) {i x : Int32} (hdg : decode cc pc = .ok (.iastore, 1)) {K : Sg → Option β} (h : wrA 20 σ 41 i x K = some res) (kk : ∀ σ9 : Sg, K σ9 = some res → V z k nL (pc + 1) lv rest σ9) : V z k nL pc lv (.int x :: .int i :: .ref (zA z 41) :: rest) σ :=
  r_iast X 41 32 20 (by decide) (fun _ => rfl) rfl hdg h kk
theorem al_42 {own : String} (X : Cx z cc nL own) {i : Int32} (hdg : decode cc pc = .ok (.iaload, 1)) {K : Int32 → Option β} (h : rdA 160 (σ 42) i K = some res) (kk : ∀ v : Int32, K v = some res → V z k nL (pc + 1) lv (.int v :: rest) σ) : V z k nL pc lv (.int i :: .ref (zA z 42) :: rest) σ :=
  r_iald X 42 33 160 (by decide) rfl rfl hdg h kk
theorem as_42 {own : String} (X : Cx z cc nL own) {i x : Int32} (hdg : decode cc pc = .ok (.iastore, 1)) {K : Sg → Option β} (h : wrA 160 σ 42 i x K = some res) (kk : ∀ σ9 : Sg, K σ9 = some res → V z k nL (pc + 1) lv rest σ9) : V z k nL pc lv (.int x :: .int i :: .ref (zA z 42) :: rest) σ :=
  r_iast X 42 33 160 (by decide) (fun _ => rfl) rfl hdg h kk
theorem al_43 {own : String} (X : Cx z cc nL own) {i : Int32} (hdg : decode cc pc = .ok (.iaload, 1)) {K : Int32 → Option β} (h : rdA 160 (σ 43) i K = some res) (kk : ∀ v : Int32, K v = some res → V z k nL (pc + 1) lv (.int v :: rest) σ) : V z k nL pc lv (.int i :: .ref (zA z 43) :: rest) σ :=
  r_iald X 43 34 160 (by decide) rfl rfl hdg h kk
theorem as_43 {own : String} (X : Cx z cc nL own) {i x : Int32} (hdg : decode cc pc = .ok (.iastore, 1)) {K : Sg → Option β} (h : wrA 160 σ 43 i x K = some res) (kk : ∀ σ9 : Sg, K σ9 = some res → V z k nL (pc + 1) lv rest σ9) : V z k nL pc lv (.int x :: .int i :: .ref (zA z 43) :: rest) σ :=
  r_iast X 43 34 160 (by decide) (fun _ => rfl) rfl hdg h kk
theorem al_44 {own : String} (X : Cx z cc nL own) {i : Int32} (hdg : decode cc pc = .ok (.iaload, 1)) {K : Int32 → Option β} (h : rdA 40 (σ 44) i K = some res) (kk : ∀ v : Int32, K v = some res → V z k nL (pc + 1) lv (.int v :: rest) σ) : V z k nL pc lv (.int i :: .ref (zA z 44) :: rest) σ :=
  r_iald X 44 35 40 (by decide) rfl rfl hdg h kk
theorem as_44 {own : String} (X : Cx z cc nL own) {i x : Int32} (hdg : decode cc pc = .ok (.iastore, 1)) {K : Sg → Option β} (h : wrA 40 σ 44 i x K = some res) (kk : ∀ σ9 : Sg, K σ9 = some res → V z k nL (pc + 1) lv rest σ9) : V z k nL pc lv (.int x :: .int i :: .ref (zA z 44) :: rest) σ :=
  r_iast X 44 35 40 (by decide) (fun _ => rfl) rfl hdg h kk
theorem al_45 {own : String} (X : Cx z cc nL own) {i : Int32} (hdg : decode cc pc = .ok (.iaload, 1)) {K : Int32 → Option β} (h : rdA 40 (σ 45) i K = some res) (kk : ∀ v : Int32, K v = some res → V z k nL (pc + 1) lv (.int v :: rest) σ) : V z k nL pc lv (.int i :: .ref (zA z 45) :: rest) σ :=
  r_iald X 45 36 40 (by decide) rfl rfl hdg h kk
theorem as_45 {own : String} (X : Cx z cc nL own) {i x : Int32} (hdg : decode cc pc = .ok (.iastore, 1)) {K : Sg → Option β} (h : wrA 40 σ 45 i x K = some res) (kk : ∀ σ9 : Sg, K σ9 = some res → V z k nL (pc + 1) lv rest σ9) : V z k nL pc lv (.int x :: .int i :: .ref (zA z 45) :: rest) σ :=
  r_iast X 45 36 40 (by decide) (fun _ => rfl) rfl hdg h kk
theorem al_46 {own : String} (X : Cx z cc nL own) {i : Int32} (hdg : decode cc pc = .ok (.iaload, 1)) {K : Int32 → Option β} (h : rdA 200 (σ 46) i K = some res) (kk : ∀ v : Int32, K v = some res → V z k nL (pc + 1) lv (.int v :: rest) σ) : V z k nL pc lv (.int i :: .ref (zA z 46) :: rest) σ :=
  r_iald X 46 37 200 (by decide) rfl rfl hdg h kk
theorem as_46 {own : String} (X : Cx z cc nL own) {i x : Int32} (hdg : decode cc pc = .ok (.iastore, 1)) {K : Sg → Option β} (h : wrA 200 σ 46 i x K = some res) (kk : ∀ σ9 : Sg, K σ9 = some res → V z k nL (pc + 1) lv rest σ9) : V z k nL pc lv (.int x :: .int i :: .ref (zA z 46) :: rest) σ :=
  r_iast X 46 37 200 (by decide) (fun _ => rfl) rfl hdg h kk
theorem al_47 {own : String} (X : Cx z cc nL own) {i : Int32} (hdg : decode cc pc = .ok (.iaload, 1)) {K : Int32 → Option β} (h : rdA 160 (σ 47) i K = some res) (kk : ∀ v : Int32, K v = some res → V z k nL (pc + 1) lv (.int v :: rest) σ) : V z k nL pc lv (.int i :: .ref (zA z 47) :: rest) σ :=
  r_iald X 47 38 160 (by decide) rfl rfl hdg h kk
theorem as_47 {own : String} (X : Cx z cc nL own) {i x : Int32} (hdg : decode cc pc = .ok (.iastore, 1)) {K : Sg → Option β} (h : wrA 160 σ 47 i x K = some res) (kk : ∀ σ9 : Sg, K σ9 = some res → V z k nL (pc + 1) lv rest σ9) : V z k nL pc lv (.int x :: .int i :: .ref (zA z 47) :: rest) σ :=
  r_iast X 47 38 160 (by decide) (fun _ => rfl) rfl hdg h kk
theorem al_48 {own : String} (X : Cx z cc nL own) {i : Int32} (hdg : decode cc pc = .ok (.iaload, 1)) {K : Int32 → Option β} (h : rdA 160 (σ 48) i K = some res) (kk : ∀ v : Int32, K v = some res → V z k nL (pc + 1) lv (.int v :: rest) σ) : V z k nL pc lv (.int i :: .ref (zA z 48) :: rest) σ :=
  r_iald X 48 39 160 (by decide) rfl rfl hdg h kk
theorem as_48 {own : String} (X : Cx z cc nL own) {i x : Int32} (hdg : decode cc pc = .ok (.iastore, 1)) {K : Sg → Option β} (h : wrA 160 σ 48 i x K = some res) (kk : ∀ σ9 : Sg, K σ9 = some res → V z k nL (pc + 1) lv rest σ9) : V z k nL pc lv (.int x :: .int i :: .ref (zA z 48) :: rest) σ :=
  r_iast X 48 39 160 (by decide) (fun _ => rfl) rfl hdg h kk
theorem al_49 {own : String} (X : Cx z cc nL own) {i : Int32} (hdg : decode cc pc = .ok (.iaload, 1)) {K : Int32 → Option β} (h : rdA 61 (σ 49) i K = some res) (kk : ∀ v : Int32, K v = some res → V z k nL (pc + 1) lv (.int v :: rest) σ) : V z k nL pc lv (.int i :: .ref (zA z 49) :: rest) σ :=
  r_iald X 49 40 61 (by decide) rfl rfl hdg h kk
theorem as_49 {own : String} (X : Cx z cc nL own) {i x : Int32} (hdg : decode cc pc = .ok (.iastore, 1)) {K : Sg → Option β} (h : wrA 61 σ 49 i x K = some res) (kk : ∀ σ9 : Sg, K σ9 = some res → V z k nL (pc + 1) lv rest σ9) : V z k nL pc lv (.int x :: .int i :: .ref (zA z 49) :: rest) σ :=
  r_iast X 49 40 61 (by decide) (fun _ => rfl) rfl hdg h kk
theorem al_50 {own : String} (X : Cx z cc nL own) {i : Int32} (hdg : decode cc pc = .ok (.iaload, 1)) {K : Int32 → Option β} (h : rdA 61 (σ 50) i K = some res) (kk : ∀ v : Int32, K v = some res → V z k nL (pc + 1) lv (.int v :: rest) σ) : V z k nL pc lv (.int i :: .ref (zA z 50) :: rest) σ :=
  r_iald X 50 41 61 (by decide) rfl rfl hdg h kk
theorem as_50 {own : String} (X : Cx z cc nL own) {i x : Int32} (hdg : decode cc pc = .ok (.iastore, 1)) {K : Sg → Option β} (h : wrA 61 σ 50 i x K = some res) (kk : ∀ σ9 : Sg, K σ9 = some res → V z k nL (pc + 1) lv rest σ9) : V z k nL pc lv (.int x :: .int i :: .ref (zA z 50) :: rest) σ :=
  r_iast X 50 41 61 (by decide) (fun _ => rfl) rfl hdg h kk
theorem al_51 {own : String} (X : Cx z cc nL own) {i : Int32} (hdg : decode cc pc = .ok (.iaload, 1)) {K : Int32 → Option β} (h : rdA 60 (σ 51) i K = some res) (kk : ∀ v : Int32, K v = some res → V z k nL (pc + 1) lv (.int v :: rest) σ) : V z k nL pc lv (.int i :: .ref (zA z 51) :: rest) σ :=
  r_iald X 51 42 60 (by decide) rfl rfl hdg h kk
theorem as_51 {own : String} (X : Cx z cc nL own) {i x : Int32} (hdg : decode cc pc = .ok (.iastore, 1)) {K : Sg → Option β} (h : wrA 60 σ 51 i x K = some res) (kk : ∀ σ9 : Sg, K σ9 = some res → V z k nL (pc + 1) lv rest σ9) : V z k nL pc lv (.int x :: .int i :: .ref (zA z 51) :: rest) σ :=
  r_iast X 51 42 60 (by decide) (fun _ => rfl) rfl hdg h kk
theorem al_52 {own : String} (X : Cx z cc nL own) {i : Int32} (hdg : decode cc pc = .ok (.iaload, 1)) {K : Int32 → Option β} (h : rdA 60 (σ 52) i K = some res) (kk : ∀ v : Int32, K v = some res → V z k nL (pc + 1) lv (.int v :: rest) σ) : V z k nL pc lv (.int i :: .ref (zA z 52) :: rest) σ :=
  r_iald X 52 43 60 (by decide) rfl rfl hdg h kk
theorem as_52 {own : String} (X : Cx z cc nL own) {i x : Int32} (hdg : decode cc pc = .ok (.iastore, 1)) {K : Sg → Option β} (h : wrA 60 σ 52 i x K = some res) (kk : ∀ σ9 : Sg, K σ9 = some res → V z k nL (pc + 1) lv rest σ9) : V z k nL pc lv (.int x :: .int i :: .ref (zA z 52) :: rest) σ :=
  r_iast X 52 43 60 (by decide) (fun _ => rfl) rfl hdg h kk
theorem al_53 {own : String} (X : Cx z cc nL own) {i : Int32} (hdg : decode cc pc = .ok (.iaload, 1)) {K : Int32 → Option β} (h : rdA 700 (σ 53) i K = some res) (kk : ∀ v : Int32, K v = some res → V z k nL (pc + 1) lv (.int v :: rest) σ) : V z k nL pc lv (.int i :: .ref (zA z 53) :: rest) σ :=
  r_iald X 53 44 700 (by decide) rfl rfl hdg h kk
theorem as_53 {own : String} (X : Cx z cc nL own) {i x : Int32} (hdg : decode cc pc = .ok (.iastore, 1)) {K : Sg → Option β} (h : wrA 700 σ 53 i x K = some res) (kk : ∀ σ9 : Sg, K σ9 = some res → V z k nL (pc + 1) lv rest σ9) : V z k nL pc lv (.int x :: .int i :: .ref (zA z 53) :: rest) σ :=
  r_iast X 53 44 700 (by decide) (fun _ => rfl) rfl hdg h kk
theorem al_54 {own : String} (X : Cx z cc nL own) {i : Int32} (hdg : decode cc pc = .ok (.iaload, 1)) {K : Int32 → Option β} (h : rdA 700 (σ 54) i K = some res) (kk : ∀ v : Int32, K v = some res → V z k nL (pc + 1) lv (.int v :: rest) σ) : V z k nL pc lv (.int i :: .ref (zA z 54) :: rest) σ :=
  r_iald X 54 45 700 (by decide) rfl rfl hdg h kk
theorem as_54 {own : String} (X : Cx z cc nL own) {i x : Int32} (hdg : decode cc pc = .ok (.iastore, 1)) {K : Sg → Option β} (h : wrA 700 σ 54 i x K = some res) (kk : ∀ σ9 : Sg, K σ9 = some res → V z k nL (pc + 1) lv rest σ9) : V z k nL pc lv (.int x :: .int i :: .ref (zA z 54) :: rest) σ :=
  r_iast X 54 45 700 (by decide) (fun _ => rfl) rfl hdg h kk
theorem al_55 {own : String} (X : Cx z cc nL own) {i : Int32} (hdg : decode cc pc = .ok (.iaload, 1)) {K : Int32 → Option β} (h : rdA 700 (σ 55) i K = some res) (kk : ∀ v : Int32, K v = some res → V z k nL (pc + 1) lv (.int v :: rest) σ) : V z k nL pc lv (.int i :: .ref (zA z 55) :: rest) σ :=
  r_iald X 55 46 700 (by decide) rfl rfl hdg h kk
theorem as_55 {own : String} (X : Cx z cc nL own) {i x : Int32} (hdg : decode cc pc = .ok (.iastore, 1)) {K : Sg → Option β} (h : wrA 700 σ 55 i x K = some res) (kk : ∀ σ9 : Sg, K σ9 = some res → V z k nL (pc + 1) lv rest σ9) : V z k nL pc lv (.int x :: .int i :: .ref (zA z 55) :: rest) σ :=
  r_iast X 55 46 700 (by decide) (fun _ => rfl) rfl hdg h kk
theorem al_56 {own : String} (X : Cx z cc nL own) {i : Int32} (hdg : decode cc pc = .ok (.iaload, 1)) {K : Int32 → Option β} (h : rdA 500 (σ 56) i K = some res) (kk : ∀ v : Int32, K v = some res → V z k nL (pc + 1) lv (.int v :: rest) σ) : V z k nL pc lv (.int i :: .ref (zA z 56) :: rest) σ :=
  r_iald X 56 47 500 (by decide) rfl rfl hdg h kk
theorem as_56 {own : String} (X : Cx z cc nL own) {i x : Int32} (hdg : decode cc pc = .ok (.iastore, 1)) {K : Sg → Option β} (h : wrA 500 σ 56 i x K = some res) (kk : ∀ σ9 : Sg, K σ9 = some res → V z k nL (pc + 1) lv rest σ9) : V z k nL pc lv (.int x :: .int i :: .ref (zA z 56) :: rest) σ :=
  r_iast X 56 47 500 (by decide) (fun _ => rfl) rfl hdg h kk
theorem lk_X4_15 : LkS RX4 15 yJ7_fill_53178 cJ7_fill_53178 4 none 2 := ⟨wd1_33, wd1_34, wd1_3, wd1_35, by decide, by decide, by decide +kernel⟩
theorem lk_X6_38 : LkS RX6 38 yJ7_fill_53178 cJ7_fill_53178 4 none 2 := ⟨wd1_47, wd1_34, wd1_3, wd1_35, by decide, by decide, by decide +kernel⟩
theorem lk_X3_21 : LkS RX3 21 yJ7_fill_53178 cJ7_fill_53178 4 none 2 := ⟨wd1_107, wd1_34, wd1_3, wd1_35, by decide, by decide, by decide +kernel⟩
theorem lk_X7_95 : LkS RX7 95 yJ7_fill_53178 cJ7_fill_53178 4 none 2 := ⟨wd1_190, wd1_34, wd1_3, wd1_35, by decide, by decide, by decide +kernel⟩
theorem lk_L_81 : LkV RL 81 RX7 yX7_walk cX7_walk 1 (some .int) 0 := ⟨wd2_4, wd2_5, wd2_6, wd1_1, wd2_7, rfl, by decide, by decide, by decide +kernel⟩
theorem lk_X7_162 : LkV RX7 162 RX5 yX5_follow cX5_follow 3 none 0 := ⟨wd2_8, wd2_9, wd2_10, wd1_5, wd2_11, rfl, by decide, by decide, by decide +kernel⟩
theorem lk_X5_29 : LkS RX5 29 yX6_isElement cX6_isElement 1 (some .boolean) 1 := ⟨wd2_12, wd2_13, wd1_4, wd2_14, by decide, by decide, by decide +kernel⟩
theorem lk_X5_35 : LkV RX5 35 RX5 yX5_passElement cX5_passElement 2 (some .int) 1 := ⟨wd2_15, wd2_17, wd0_0, wd1_5, wd2_18, rfl, by decide, by decide, by decide +kernel⟩
theorem lk_X5_42 : LkV RX5 42 RX6 yX6_standardOf cX6_standardOf 2 (some .int) 1 := ⟨wd2_19, wd2_20, wd2_21, wd1_4, wd2_22, rfl, by decide, by decide, by decide +kernel⟩
theorem lk_X6_48 : LkV RX6 48 RX4 yX4_standardOf cX4_standardOf 4 (some .int) 1 := ⟨wd2_23, wd2_24, wd2_25, wd1_2, wd2_26, rfl, by decide, by decide, by decide +kernel⟩
theorem lk_X4_21 : LkS RX4 21 yX4_isOwn cX4_isOwn 1 (some .boolean) 1 := ⟨wd2_27, wd2_28, wd1_2, wd2_29, by decide, by decide, by decide +kernel⟩
theorem lk_X5_45 : LkV RX5 45 RX6 yX6_firstBehind cX6_firstBehind 4 (some .int) 1 := ⟨wd2_30, wd2_31, wd2_32, wd1_4, wd2_33, rfl, by decide, by decide, by decide +kernel⟩
theorem lk_X5_48 : LkV RX5 48 RX6 yX6_firstIn cX6_firstIn 2 (some .int) 1 := ⟨wd2_34, wd2_35, wd2_36, wd1_4, wd2_37, rfl, by decide, by decide, by decide +kernel⟩
theorem lk_X6_54 : LkV RX6 54 RX6 yX6_hasKids cX6_hasKids 2 (some .boolean) 1 := ⟨wd2_38, wd2_39, wd2_40, wd1_4, wd2_41, rfl, by decide, by decide, by decide +kernel⟩
theorem lk_X6_58 : LkV RX6 58 RX6 yX6_firstBehind cX6_firstBehind 4 (some .int) 1 := ⟨wd2_42, wd2_31, wd2_32, wd1_4, wd2_33, rfl, by decide, by decide, by decide +kernel⟩
theorem lk_X5_39 : LkV RX5 39 RX5 yX5_passPart cX5_passPart 2 (some .int) 1 := ⟨wd2_43, wd2_45, wd0_1, wd1_5, wd2_46, rfl, by decide, by decide, by decide +kernel⟩
theorem lk_X5_51 : LkS RX5 51 yX6_codeOf cX6_codeOf 1 (some .int) 1 := ⟨wd2_47, wd2_48, wd1_4, wd2_49, by decide, by decide, by decide +kernel⟩
theorem lk_L_91 : LkV RL 91 RX7 yX7_check cX7_check 1 (some .int) 0 := ⟨wd2_50, wd2_51, wd2_52, wd1_1, wd2_53, rfl, by decide, by decide, by decide +kernel⟩
theorem lk_X7_180 : LkV RX7 180 RX7 yX7_findElementsWithoutStandard cX7_findElementsWithoutStandard 2 none 0 := ⟨wd2_54, wd2_56, wd0_2, wd1_1, wd2_57, rfl, by decide, by decide, by decide +kernel⟩
theorem lk_X7_253 : LkV RX7 253 RX6 yX6_standardOf cX6_standardOf 2 (some .int) 1 := ⟨wd2_58, wd2_20, wd2_21, wd1_4, wd2_22, rfl, by decide, by decide, by decide +kernel⟩
theorem lk_X7_265 : LkV RX7 265 RX0 yX0_append cX0_append 4 none 3 := ⟨wd2_59, wd2_60, wd2_61, wd1_9, wd2_62, rfl, by decide, by decide, by decide +kernel⟩
theorem lk_X7_183 : LkV RX7 183 RX7 yX7_findHeadingsWithoutLevel cX7_findHeadingsWithoutLevel 2 none 0 := ⟨wd2_63, wd2_65, wd0_3, wd1_1, wd2_66, rfl, by decide, by decide, by decide +kernel⟩
theorem lk_X7_186 : LkV RX7 186 RX7 yX7_findSkippedLevels cX7_findSkippedLevels 4 none 0 := ⟨wd2_67, wd2_69, wd0_4, wd1_1, wd2_70, rfl, by decide, by decide, by decide +kernel⟩
theorem lk_X7_224 : LkV RX7 224 RX7 yX7_gatherHeadings cX7_gatherHeadings 3 none 0 := ⟨wd2_71, wd2_73, wd0_5, wd1_1, wd2_74, rfl, by decide, by decide, by decide +kernel⟩
theorem lk_X7_256 : LkV RX7 256 RX2 yX2_append cX2_append 3 none 2 := ⟨wd2_75, wd2_76, wd2_77, wd1_7, wd2_78, rfl, by decide, by decide, by decide +kernel⟩
theorem lk_X2_25 : LkV RX2 25 RX2 yX2_depthBehind cX2_depthBehind 3 (some .int) 1 := ⟨wd2_79, wd2_81, wd0_6, wd1_7, wd2_82, rfl, by decide, by decide, by decide +kernel⟩
theorem lk_X7_189 : LkV RX7 189 RX7 yX7_findMisplaced cX7_findMisplaced 2 none 0 := ⟨wd2_83, wd2_85, wd0_7, wd1_1, wd2_86, rfl, by decide, by decide, by decide +kernel⟩
theorem lk_X7_268 : LkV RX7 268 RX6 yX6_parentOf cX6_parentOf 2 (some .int) 1 := ⟨wd2_87, wd2_88, wd2_89, wd1_4, wd2_90, rfl, by decide, by decide, by decide +kernel⟩
theorem lk_X7_271 : LkS RX7 271 yX7_isMisplaced cX7_isMisplaced 4 (some .boolean) 2 := ⟨wd2_91, wd2_92, wd1_1, wd2_93, by decide, by decide, by decide +kernel⟩
theorem lk_X7_274 : LkS RX7 274 yX7_neededParent cX7_neededParent 1 (some .int) 1 := ⟨wd2_94, wd2_95, wd1_1, wd2_96, by decide, by decide, by decide +kernel⟩
theorem lk_X7_277 : LkS RX7 277 yX7_isCell cX7_isCell 1 (some .boolean) 1 := ⟨wd2_97, wd2_98, wd1_1, wd2_99, by decide, by decide, by decide +kernel⟩
theorem lk_X7_192 : LkV RX7 192 RX7 yX7_findUnevenTables cX7_findUnevenTables 2 none 0 := ⟨wd2_100, wd2_102, wd0_8, wd1_1, wd2_103, rfl, by decide, by decide, by decide +kernel⟩
theorem lk_X7_280 : LkV RX7 280 RX7 yX7_isUneven cX7_isUneven 3 (some .boolean) 1 := ⟨wd2_104, wd2_106, wd0_9, wd1_1, wd2_107, rfl, by decide, by decide, by decide +kernel⟩
theorem lk_X7_283 : LkV RX7 283 RX1 yX1_clear cX1_clear 1 none 0 := ⟨wd2_108, wd2_109, wd2_110, wd1_8, wd2_111, rfl, by decide, by decide, by decide +kernel⟩
theorem lk_X1_32 : LkS RX1 32 yJ7_fill_53178 cJ7_fill_53178 4 none 2 := ⟨wd2_112, wd1_34, wd1_3, wd1_35, by decide, by decide, by decide +kernel⟩
theorem lk_X7_286 : LkV RX7 286 RX1 yX1_beginRow cX1_beginRow 1 none 0 := ⟨wd2_113, wd2_114, wd2_115, wd1_8, wd2_116, rfl, by decide, by decide, by decide +kernel⟩
theorem lk_X7_289 : LkV RX7 289 RX7 yX7_layCells cX7_layCells 3 none 1 := ⟨wd2_117, wd2_119, wd0_10, wd1_1, wd2_120, rfl, by decide, by decide, by decide +kernel⟩
theorem lk_X7_299 : LkV RX7 299 RX1 yX1_lay cX1_lay 4 none 2 := ⟨wd2_121, wd2_122, wd2_123, wd1_8, wd2_124, rfl, by decide, by decide, by decide +kernel⟩
theorem lk_X7_292 : LkV RX7 292 RX1 yX1_endRow cX1_endRow 2 none 0 := ⟨wd2_128, wd2_129, wd2_130, wd1_8, wd2_131, rfl, by decide, by decide, by decide +kernel⟩
theorem lk_X7_195 : LkV RX7 195 RX7 yX7_findFiguresWithoutWords cX7_findFiguresWithoutWords 2 none 0 := ⟨wd2_132, wd2_134, wd0_11, wd1_1, wd2_135, rfl, by decide, by decide, by decide +kernel⟩
theorem lk_X7_198 : LkV RX7 198 RX7 yX7_findElementsWithoutKids cX7_findElementsWithoutKids 2 none 0 := ⟨wd2_136, wd2_138, wd0_12, wd1_1, wd2_139, rfl, by decide, by decide, by decide +kernel⟩
theorem lk_X7_302 : LkV RX7 302 RX6 yX6_hasKids cX6_hasKids 2 (some .boolean) 1 := ⟨wd2_140, wd2_39, wd2_40, wd1_4, wd2_41, rfl, by decide, by decide, by decide +kernel⟩
theorem lk_X7_201 : LkV RX7 201 RX7 yX7_findRepeats cX7_findRepeats 2 none 0 := ⟨wd2_141, wd2_143, wd0_13, wd1_1, wd2_144, rfl, by decide, by decide, by decide +kernel⟩
theorem lk_X7_204 : LkV RX7 204 RX7 yX7_findUntagged cX7_findUntagged 2 none 0 := ⟨wd2_145, wd2_147, wd0_14, wd1_1, wd2_148, rfl, by decide, by decide, by decide +kernel⟩
theorem lk_X7_235 : LkV RX7 235 RX7 yX7_gatherLoose cX7_gatherLoose 4 none 0 := ⟨wd2_149, wd2_151, wd0_15, wd1_1, wd2_152, rfl, by decide, by decide, by decide +kernel⟩
theorem lk_X7_259 : LkV RX7 259 RX3 yX3_shownBy cX3_shownBy 2 (some .int) 1 := ⟨wd2_153, wd2_154, wd2_155, wd1_6, wd2_156, rfl, by decide, by decide, by decide +kernel⟩
theorem lk_X7_262 : LkV RX7 262 RX3 yX3_codeAt cX3_codeAt 3 (some .int) 2 := ⟨wd2_157, wd2_158, wd2_159, wd1_6, wd2_160, rfl, by decide, by decide, by decide +kernel⟩
theorem lk_X7_144 : LkV RX7 144 RX6 yX6_holderOf cX6_holderOf 2 (some .int) 1 := ⟨wd2_161, wd2_162, wd2_163, wd1_4, wd2_164, rfl, by decide, by decide, by decide +kernel⟩
theorem lk_X7_207 : LkV RX7 207 RX7 yX7_findOutOfOrder cX7_findOutOfOrder 5 none 0 := ⟨wd2_165, wd2_167, wd0_16, wd1_1, wd2_168, rfl, by decide, by decide, by decide +kernel⟩
theorem lk_X7_305 : LkV RX7 305 RX3 yX3_placeOf cX3_placeOf 2 (some .int) 1 := ⟨wd2_169, wd2_170, wd2_171, wd1_6, wd2_172, rfl, by decide, by decide, by decide +kernel⟩
theorem lk_L_7 : LkV RL 7 RX7 yX7_element cX7_element 3 (some .int) 2 := ⟨wd2_179, wd2_180, wd2_181, wd1_1, wd2_182, rfl, by decide, by decide, by decide +kernel⟩
theorem lk_X7_101 : LkV RX7 101 RX7 yX7_needElement cX7_needElement 2 none 1 := ⟨wd2_183, wd2_185, wd0_17, wd1_1, wd2_186, rfl, by decide, by decide, by decide +kernel⟩
theorem lk_X7_105 : LkS RX7 105 yX4_isRole cX4_isRole 1 (some .boolean) 1 := ⟨wd3_16, wd3_17, wd1_2, wd3_18, by decide, by decide, by decide +kernel⟩
theorem lk_X7_124 : LkV RX7 124 RX6 yX6_addElement cX6_addElement 4 (some .int) 2 := ⟨wd3_51, wd3_52, wd3_53, wd1_4, wd3_54, rfl, by decide, by decide, by decide +kernel⟩
theorem lk_X6_44 : LkV RX6 44 RX6 yX6_addKid cX6_addKid 4 none 2 := ⟨wd3_55, wd3_57, wd0_19, wd1_4, wd3_58, rfl, by decide, by decide, by decide +kernel⟩
theorem lk_L_19 : LkV RL 19 RX7 yX7_map cX7_map 3 (some .int) 2 := ⟨wd3_62, wd3_63, wd3_64, wd1_1, wd3_65, rfl, by decide, by decide, by decide +kernel⟩
theorem lk_X7_128 : LkS RX7 128 yX4_isOwn cX4_isOwn 1 (some .boolean) 1 := ⟨wd3_66, wd2_28, wd1_2, wd2_29, by decide, by decide, by decide +kernel⟩
theorem lk_X7_133 : LkV RX7 133 RX4 yX4_leads cX4_leads 5 (some .boolean) 2 := ⟨wd3_68, wd3_69, wd3_70, wd1_2, wd3_71, rfl, by decide, by decide, by decide +kernel⟩
theorem lk_X7_137 : LkV RX7 137 RX4 yX4_lead cX4_lead 3 none 2 := ⟨wd3_72, wd3_73, wd3_74, wd1_2, wd3_75, rfl, by decide, by decide, by decide +kernel⟩
theorem lk_L_22 : LkV RL 22 RX7 yX7_content cX7_content 5 (some .int) 3 := ⟨wd3_79, wd3_80, wd3_81, wd1_1, wd3_82, rfl, by decide, by decide, by decide +kernel⟩
theorem lk_X7_141 : LkS RX7 141 yX7_needCode cX7_needCode 2 (some .int) 2 := ⟨wd3_83, wd3_84, wd1_1, wd3_85, by decide, by decide, by decide +kernel⟩
theorem lk_X7_148 : LkV RX7 148 RX7 yX7_keepRepeat cX7_keepRepeat 3 none 2 := ⟨wd3_87, wd3_89, wd0_20, wd1_1, wd3_90, rfl, by decide, by decide, by decide +kernel⟩
theorem lk_X7_156 : LkV RX7 156 RX6 yX6_addPart cX6_addPart 3 none 2 := ⟨wd3_92, wd3_93, wd3_94, wd1_4, wd3_95, rfl, by decide, by decide, by decide +kernel⟩
theorem lk_L_26 : LkV RL 26 RX7 yX7_shows cX7_shows 3 (some .int) 2 := ⟨wd3_99, wd3_100, wd3_101, wd1_1, wd3_102, rfl, by decide, by decide, by decide +kernel⟩
theorem lk_X7_159 : LkV RX7 159 RX3 yX3_show cX3_show 5 (some .int) 2 := ⟨wd3_103, wd3_104, wd3_105, wd1_6, wd3_106, rfl, by decide, by decide, by decide +kernel⟩
theorem lk_L_29 : LkV RL 29 RX7 yX7_at cX7_at 4 (some .int) 2 := ⟨wd3_111, wd3_112, wd3_113, wd1_1, wd3_114, rfl, by decide, by decide, by decide +kernel⟩
theorem lk_X7_166 : LkS RX7 166 yX7_needWhat cX7_needWhat 1 none 1 := ⟨wd3_115, wd3_116, wd1_1, wd3_117, by decide, by decide, by decide +kernel⟩
theorem lk_L_34 : LkV RL 34 RX7 yX7_parent cX7_parent 3 (some .int) 2 := ⟨wd3_138, wd3_139, wd3_140, wd1_1, wd3_141, rfl, by decide, by decide, by decide +kernel⟩
theorem lk_L_37 : LkV RL 37 RX7 yX7_fault cX7_fault 3 (some .int) 2 := ⟨wd3_145, wd3_146, wd3_147, wd1_1, wd3_148, rfl, by decide, by decide, by decide +kernel⟩
theorem lk_L_40 : LkV RL 40 RX7 yX7_heading cX7_heading 4 (some .int) 2 := ⟨wd3_153, wd3_154, wd3_155, wd1_1, wd3_156, rfl, by decide, by decide, by decide +kernel⟩
theorem lk_L_43 : LkV RL 43 RX7 yX7_words cX7_words 4 (some .int) 2 := ⟨wd3_161, wd3_162, wd3_163, wd1_1, wd3_164, rfl, by decide, by decide, by decide +kernel⟩
theorem lk_L_47 : LkV RL 47 RX7 yX7_span cX7_span 5 (some .int) 3 := ⟨wd3_168, wd3_169, wd3_170, wd1_1, wd3_171, rfl, by decide, by decide, by decide +kernel⟩
theorem lk_L_50 : LkV RL 50 RX7 yX7_outline cX7_outline 3 (some .int) 2 := ⟨wd3_176, wd3_177, wd3_178, wd1_1, wd3_179, rfl, by decide, by decide, by decide +kernel⟩
theorem lk_L_53 : LkV RL 53 RX7 yX7_untagged cX7_untagged 2 (some .int) 1 := ⟨wd3_184, wd3_185, wd3_186, wd1_1, wd3_187, rfl, by decide, by decide, by decide +kernel⟩
theorem lk_L_67 : LkV RL 67 RX8 yX8_thrown cX8_thrown 1 (some .int) 0 := ⟨wd4_46, wd4_47, wd4_48, wd1_10, wd4_49, rfl, by decide, by decide, by decide +kernel⟩
theorem lk_L_66 : LkV RL 66 RX8 yX8_element cX8_element 3 (some .int) 2 := ⟨wd4_50, wd4_51, wd4_52, wd1_10, wd4_53, rfl, by decide, by decide, by decide +kernel⟩
theorem lk_X8_81 : LkV RX8 81 RX8 yX8_isElement cX8_isElement 2 (some .boolean) 1 := ⟨wd4_54, wd4_56, wd0_21, wd1_10, wd4_57, rfl, by decide, by decide, by decide +kernel⟩
theorem lk_X8_85 : LkS RX8 85 yX8_in cX8_in 3 (some .boolean) 3 := ⟨wd4_58, wd4_59, wd1_10, wd4_60, by decide, by decide, by decide +kernel⟩
theorem lk_L_73 : LkV RL 73 RX8 yX8_map cX8_map 3 (some .int) 2 := ⟨wd4_61, wd4_62, wd4_63, wd1_10, wd4_64, rfl, by decide, by decide, by decide +kernel⟩
theorem lk_X8_92 : LkV RX8 92 RX8 yX8_leadsTo cX8_leadsTo 5 (some .boolean) 2 := ⟨wd4_65, wd4_67, wd0_22, wd1_10, wd4_68, rfl, by decide, by decide, by decide +kernel⟩
theorem lk_L_77 : LkV RL 77 RX8 yX8_content cX8_content 5 (some .int) 3 := ⟨wd4_69, wd4_70, wd4_71, wd1_10, wd4_72, rfl, by decide, by decide, by decide +kernel⟩
theorem lk_X8_96 : LkS RX8 96 yX8_isPart cX8_isPart 2 (some .boolean) 2 := ⟨wd4_73, wd4_74, wd1_10, wd4_75, by decide, by decide, by decide +kernel⟩
theorem lk_X8_99 : LkV RX8 99 RX8 yX8_ownerOf cX8_ownerOf 4 (some .int) 1 := ⟨wd4_76, wd4_78, wd0_23, wd1_10, wd4_79, rfl, by decide, by decide, by decide +kernel⟩
theorem lk_L_80 : LkV RL 80 RX8 yX8_shows cX8_shows 4 (some .int) 2 := ⟨wd4_80, wd4_81, wd4_82, wd1_10, wd4_83, rfl, by decide, by decide, by decide +kernel⟩
theorem lk_X8_112 : LkV RX8 112 RX8 yX8_placeOf cX8_placeOf 5 (some .int) 1 := ⟨wd4_84, wd4_86, wd0_24, wd1_10, wd4_87, rfl, by decide, by decide, by decide +kernel⟩
theorem lk_L_84 : LkV RL 84 RX8 yX8_walk cX8_walk 1 (some .int) 0 := ⟨wd4_88, wd4_89, wd4_90, wd1_10, wd4_91, rfl, by decide, by decide, by decide +kernel⟩
theorem lk_X8_135 : LkV RX8 135 RX8 yX8_go cX8_go 6 none 0 := ⟨wd4_92, wd4_94, wd0_25, wd1_10, wd4_95, rfl, by decide, by decide, by decide +kernel⟩
theorem lk_X8_121 : LkV RX8 121 RX8 yX8_meet cX8_meet 3 none 2 := ⟨wd4_96, wd4_98, wd0_26, wd1_10, wd4_99, rfl, by decide, by decide, by decide +kernel⟩
theorem lk_X8_125 : LkV RX8 125 RX8 yX8_nextKid cX8_nextKid 4 (some .int) 2 := ⟨wd4_100, wd4_102, wd0_27, wd1_10, wd4_103, rfl, by decide, by decide, by decide +kernel⟩
theorem lk_X8_129 : LkV RX8 129 RX8 yX8_is cX8_is 3 (some .boolean) 2 := ⟨wd4_104, wd4_106, wd0_28, wd1_10, wd4_107, rfl, by decide, by decide, by decide +kernel⟩
theorem lk_X8_115 : LkV RX8 115 RX8 yX8_standardOf cX8_standardOf 3 (some .int) 1 := ⟨wd4_108, wd4_110, wd0_29, wd1_10, wd4_111, rfl, by decide, by decide, by decide +kernel⟩
theorem lk_X8_138 : LkV RX8 138 RX8 yX8_partAt cX8_partAt 5 (some .int) 1 := ⟨wd4_112, wd4_114, wd0_30, wd1_10, wd4_115, rfl, by decide, by decide, by decide +kernel⟩
theorem lk_L_87 : LkV RL 87 RX8 yX8_at cX8_at 5 (some .int) 2 := ⟨wd4_116, wd4_117, wd4_118, wd1_10, wd4_119, rfl, by decide, by decide, by decide +kernel⟩
theorem lk_L_90 : LkV RL 90 RX8 yX8_parent cX8_parent 3 (some .int) 2 := ⟨wd4_120, wd4_121, wd4_122, wd1_10, wd4_123, rfl, by decide, by decide, by decide +kernel⟩
theorem lk_L_94 : LkV RL 94 RX8 yX8_check cX8_check 3 (some .int) 0 := ⟨wd4_124, wd4_125, wd4_126, wd1_10, wd4_127, rfl, by decide, by decide, by decide +kernel⟩
theorem lk_X8_167 : LkV RX8 167 RX8 yX8_addJumps cX8_addJumps 4 none 0 := ⟨wd4_128, wd4_130, wd0_31, wd1_10, wd4_131, rfl, by decide, by decide, by decide +kernel⟩
theorem lk_X8_163 : LkV RX8 163 RX8 yX8_add cX8_add 4 none 3 := ⟨wd4_132, wd4_134, wd0_32, wd1_10, wd4_135, rfl, by decide, by decide, by decide +kernel⟩
theorem lk_X8_170 : LkV RX8 170 RX8 yX8_hasFault cX8_hasFault 3 (some .boolean) 2 := ⟨wd4_136, wd4_138, wd0_33, wd1_10, wd4_139, rfl, by decide, by decide, by decide +kernel⟩
theorem lk_X8_157 : LkV RX8 157 RX8 yX8_isPlaced cX8_isPlaced 6 (some .boolean) 1 := ⟨wd4_140, wd4_142, wd0_34, wd1_10, wd4_143, rfl, by decide, by decide, by decide +kernel⟩
theorem lk_X8_144 : LkV RX8 144 RX8 yX8_parentOf cX8_parentOf 4 (some .int) 1 := ⟨wd4_144, wd4_146, wd0_35, wd1_10, wd4_147, rfl, by decide, by decide, by decide +kernel⟩
theorem lk_X8_147 : LkS RX8 147 yX8_suits cX8_suits 3 (some .boolean) 3 := ⟨wd4_148, wd4_149, wd1_10, wd4_150, by decide, by decide, by decide +kernel⟩
theorem lk_X8_151 : LkV RX8 151 RX8 yX8_isCell cX8_isCell 2 (some .boolean) 1 := ⟨wd4_151, wd4_153, wd0_36, wd1_10, wd4_154, rfl, by decide, by decide, by decide +kernel⟩
theorem lk_X8_160 : LkV RX8 160 RX8 yX8_isUneven cX8_isUneven 9 (some .boolean) 1 := ⟨wd4_155, wd4_157, wd0_37, wd1_10, wd4_158, rfl, by decide, by decide, by decide +kernel⟩
theorem lk_X8_154 : LkV RX8 154 RX8 yX8_lay cX8_lay 8 (some .boolean) 2 := ⟨wd4_159, wd4_161, wd0_38, wd1_10, wd4_162, rfl, by decide, by decide, by decide +kernel⟩
theorem lk_X8_173 : LkV RX8 173 RX8 yX8_countUntagged cX8_countUntagged 3 (some .int) 0 := ⟨wd4_163, wd4_165, wd0_39, wd1_10, wd4_166, rfl, by decide, by decide, by decide +kernel⟩
theorem lk_X8_177 : LkV RX8 177 RX8 yX8_untaggedAt cX8_untaggedAt 6 (some .int) 1 := ⟨wd4_167, wd4_169, wd0_40, wd1_10, wd4_170, rfl, by decide, by decide, by decide +kernel⟩
theorem lk_X8_180 : LkV RX8 180 RX8 yX8_addOrder cX8_addOrder 6 none 0 := ⟨wd4_171, wd4_173, wd0_41, wd1_10, wd4_174, rfl, by decide, by decide, by decide +kernel⟩
theorem lk_L_97 : LkV RL 97 RX8 yX8_fault cX8_fault 3 (some .int) 2 := ⟨wd4_175, wd4_176, wd4_177, wd1_10, wd4_178, rfl, by decide, by decide, by decide +kernel⟩
theorem lk_L_100 : LkV RL 100 RX8 yX8_heading cX8_heading 4 (some .int) 2 := ⟨wd4_179, wd4_180, wd4_181, wd1_10, wd4_182, rfl, by decide, by decide, by decide +kernel⟩
theorem lk_L_104 : LkV RL 104 RX8 yX8_words cX8_words 4 (some .int) 2 := ⟨wd4_183, wd4_184, wd4_185, wd1_10, wd4_186, rfl, by decide, by decide, by decide +kernel⟩
theorem lk_L_107 : LkV RL 107 RX8 yX8_span cX8_span 5 (some .int) 3 := ⟨wd4_187, wd4_188, wd4_189, wd1_10, wd4_190, rfl, by decide, by decide, by decide +kernel⟩
theorem lk_L_110 : LkV RL 110 RX8 yX8_outline cX8_outline 3 (some .int) 2 := ⟨wd4_191, wd4_192, wd4_193, wd1_10, wd4_194, rfl, by decide, by decide, by decide +kernel⟩
theorem lk_L_114 : LkV RL 114 RX8 yX8_untagged cX8_untagged 3 (some .int) 1 := ⟨wd4_195, wd4_196, wd4_197, wd1_10, wd4_198, rfl, by decide, by decide, by decide +kernel⟩
end FD
