/-! facts of the frozen shape -/
theorem fz_k {G : hG} (h : Frz G) (a : Nat) {k : Nat} (e : K0.getD a 99 = k) : gk G a = k := (h.2.2.1 a).trans e
theorem fz_l {G : hG} (h : Frz G) (a : Nat) {k : Nat} (e : L0.getD a 0 = k) : gl G a = k := (h.2.2.2.1 a).trans e
theorem fz_p {G : hG} (h : Frz G) (a k : Nat) {o : Option Nat} (z : fzM a k = false) (e : (P0.getD a []).getD k none = o) : gP G a k = o := (h.2.2.2.2 a k z).trans e
theorem fzM_ne {a : Nat} (k : Nat) (h1 : a ≠ 239) (h2 : a ≠ 250) : fzM a k = false := by simp [fzM, h1, h2]
def momL : List Nat := [2, 57, 62, 67, 72, 77, 82, 87, 92, 97, 102, 107, 112, 117, 122, 127, 132, 140, 145, 150, 155, 160, 165, 170, 175, 180, 185, 190, 195, 200, 205, 210, 215, 220, 225, 230, 266, 317]
def is_mom (a : Nat) : Bool := momL.elem a
theorem mom_in {a : Nat} (h : is_mom a = true) : a ∈ momL := List.elem_iff.mp h
def kptL : List Nat := [1, 265, 316]
def is_kpt (a : Nat) : Bool := kptL.elem a
theorem kpt_in {a : Nat} (h : is_kpt a = true) : a ∈ kptL := List.elem_iff.mp h
def txtL : List Nat := [10, 17, 24, 31, 38, 45, 240, 274, 281, 288, 295, 302, 309, 325, 332, 339, 346, 353, 360]
def is_txt (a : Nat) : Bool := txtL.elem a
theorem txt_in {a : Nat} (h : is_txt a = true) : a ∈ txtL := List.elem_iff.mp h
def pstL : List Nat := [54, 137]
def is_pst (a : Nat) : Bool := pstL.elem a
theorem pst_in {a : Nat} (h : is_pst a = true) : a ∈ pstL := List.elem_iff.mp h
def iaL : List Nat := [249, 251]
def is_ia (a : Nat) : Bool := iaL.elem a
theorem ia_in {a : Nat} (h : is_ia a = true) : a ∈ iaL := List.elem_iff.mp h
theorem mom_all : ∀ a ∈ momL, K0.getD a 99 = 2 ∧ P0.getD a [] = [some (a + 1), some (a + 2), some (a + 3), some (a + 4)] ∧ a ≠ 239 ∧ a ≠ 250 ∧ K0.getD (a + 1) 99 = 13 ∧ L0.getD (a + 1) 0 = 8 ∧ K0.getD (a + 2) 99 = 13 ∧ L0.getD (a + 2) 0 = 8 ∧ K0.getD (a + 3) 99 = 13 ∧ L0.getD (a + 3) 0 = 8 ∧ K0.getD (a + 4) 99 = 13 ∧ L0.getD (a + 4) 0 = 25 := by decide +kernel
theorem mom_k {G : hG} {a : Nat} (h : Frz G) (m : is_mom a = true) : gk G a = 2 := fz_k h a ((mom_all a (mom_in m)).1)
theorem mom_p0 {G : hG} {a : Nat} (h : Frz G) (m : is_mom a = true) : gP G a 0 = some (a + 1) := fz_p h a 0 (fzM_ne _ ((mom_all a (mom_in m)).2.2.1) ((mom_all a (mom_in m)).2.2.2.1)) (by rw [(mom_all a (mom_in m)).2.1]; rfl)
theorem mom_p1 {G : hG} {a : Nat} (h : Frz G) (m : is_mom a = true) : gP G a 1 = some (a + 2) := fz_p h a 1 (fzM_ne _ ((mom_all a (mom_in m)).2.2.1) ((mom_all a (mom_in m)).2.2.2.1)) (by rw [(mom_all a (mom_in m)).2.1]; rfl)
theorem mom_p2 {G : hG} {a : Nat} (h : Frz G) (m : is_mom a = true) : gP G a 2 = some (a + 3) := fz_p h a 2 (fzM_ne _ ((mom_all a (mom_in m)).2.2.1) ((mom_all a (mom_in m)).2.2.2.1)) (by rw [(mom_all a (mom_in m)).2.1]; rfl)
theorem mom_p3 {G : hG} {a : Nat} (h : Frz G) (m : is_mom a = true) : gP G a 3 = some (a + 4) := fz_p h a 3 (fzM_ne _ ((mom_all a (mom_in m)).2.2.1) ((mom_all a (mom_in m)).2.2.2.1)) (by rw [(mom_all a (mom_in m)).2.1]; rfl)
theorem mom_ak1 {G : hG} {a : Nat} (h : Frz G) (m : is_mom a = true) : gk G (a + 1) = 13 := fz_k h _ ((mom_all a (mom_in m)).2.2.2.2.1)
theorem mom_al1 {G : hG} {a : Nat} (h : Frz G) (m : is_mom a = true) : gl G (a + 1) = 8 := fz_l h _ ((mom_all a (mom_in m)).2.2.2.2.2.1)
theorem mom_ak2 {G : hG} {a : Nat} (h : Frz G) (m : is_mom a = true) : gk G (a + 2) = 13 := fz_k h _ ((mom_all a (mom_in m)).2.2.2.2.2.2.1)
theorem mom_al2 {G : hG} {a : Nat} (h : Frz G) (m : is_mom a = true) : gl G (a + 2) = 8 := fz_l h _ ((mom_all a (mom_in m)).2.2.2.2.2.2.2.1)
theorem mom_ak3 {G : hG} {a : Nat} (h : Frz G) (m : is_mom a = true) : gk G (a + 3) = 13 := fz_k h _ ((mom_all a (mom_in m)).2.2.2.2.2.2.2.2.1)
theorem mom_al3 {G : hG} {a : Nat} (h : Frz G) (m : is_mom a = true) : gl G (a + 3) = 8 := fz_l h _ ((mom_all a (mom_in m)).2.2.2.2.2.2.2.2.2.1)
theorem mom_ak4 {G : hG} {a : Nat} (h : Frz G) (m : is_mom a = true) : gk G (a + 4) = 13 := fz_k h _ ((mom_all a (mom_in m)).2.2.2.2.2.2.2.2.2.2.1)
theorem mom_al4 {G : hG} {a : Nat} (h : Frz G) (m : is_mom a = true) : gl G (a + 4) = 25 := fz_l h _ ((mom_all a (mom_in m)).2.2.2.2.2.2.2.2.2.2.2)
theorem kpt_all : ∀ a ∈ kptL, K0.getD a 99 = 1 ∧ P0.getD a [] = [some (a + 1), none, none, none, some (a + 6), some (a + 7), none, some (a + 8)] ∧ a ≠ 239 ∧ a ≠ 250 ∧ K0.getD (a + 6) 99 = 13 ∧ L0.getD (a + 6) 0 = 6 ∧ K0.getD (a + 7) 99 = 13 ∧ L0.getD (a + 7) 0 = 6 ∧ K0.getD (a + 8) 99 = 18 ∧ L0.getD (a + 8) 0 = 6 := by decide +kernel
theorem kpt_k {G : hG} {a : Nat} (h : Frz G) (m : is_kpt a = true) : gk G a = 1 := fz_k h a ((kpt_all a (kpt_in m)).1)
theorem kpt_p0 {G : hG} {a : Nat} (h : Frz G) (m : is_kpt a = true) : gP G a 0 = some (a + 1) := fz_p h a 0 (fzM_ne _ ((kpt_all a (kpt_in m)).2.2.1) ((kpt_all a (kpt_in m)).2.2.2.1)) (by rw [(kpt_all a (kpt_in m)).2.1]; rfl)
theorem kpt_p4 {G : hG} {a : Nat} (h : Frz G) (m : is_kpt a = true) : gP G a 4 = some (a + 6) := fz_p h a 4 (fzM_ne _ ((kpt_all a (kpt_in m)).2.2.1) ((kpt_all a (kpt_in m)).2.2.2.1)) (by rw [(kpt_all a (kpt_in m)).2.1]; rfl)
theorem kpt_p5 {G : hG} {a : Nat} (h : Frz G) (m : is_kpt a = true) : gP G a 5 = some (a + 7) := fz_p h a 5 (fzM_ne _ ((kpt_all a (kpt_in m)).2.2.1) ((kpt_all a (kpt_in m)).2.2.2.1)) (by rw [(kpt_all a (kpt_in m)).2.1]; rfl)
theorem kpt_p7 {G : hG} {a : Nat} (h : Frz G) (m : is_kpt a = true) : gP G a 7 = some (a + 8) := fz_p h a 7 (fzM_ne _ ((kpt_all a (kpt_in m)).2.2.1) ((kpt_all a (kpt_in m)).2.2.2.1)) (by rw [(kpt_all a (kpt_in m)).2.1]; rfl)
theorem kpt_ak6 {G : hG} {a : Nat} (h : Frz G) (m : is_kpt a = true) : gk G (a + 6) = 13 := fz_k h _ ((kpt_all a (kpt_in m)).2.2.2.2.1)
theorem kpt_al6 {G : hG} {a : Nat} (h : Frz G) (m : is_kpt a = true) : gl G (a + 6) = 6 := fz_l h _ ((kpt_all a (kpt_in m)).2.2.2.2.2.1)
theorem kpt_ak7 {G : hG} {a : Nat} (h : Frz G) (m : is_kpt a = true) : gk G (a + 7) = 13 := fz_k h _ ((kpt_all a (kpt_in m)).2.2.2.2.2.2.1)
theorem kpt_al7 {G : hG} {a : Nat} (h : Frz G) (m : is_kpt a = true) : gl G (a + 7) = 6 := fz_l h _ ((kpt_all a (kpt_in m)).2.2.2.2.2.2.2.1)
theorem kpt_ak8 {G : hG} {a : Nat} (h : Frz G) (m : is_kpt a = true) : gk G (a + 8) = 18 := fz_k h _ ((kpt_all a (kpt_in m)).2.2.2.2.2.2.2.2.1)
theorem kpt_al8 {G : hG} {a : Nat} (h : Frz G) (m : is_kpt a = true) : gl G (a + 8) = 6 := fz_l h _ ((kpt_all a (kpt_in m)).2.2.2.2.2.2.2.2.2)
theorem txt_all : ∀ a ∈ txtL, K0.getD a 99 = 9 ∧ P0.getD a [] = [some (a + 1), none, none, some (a + 2), some (a + 3), some (a + 4), some (a + 5), some (a + 6)] ∧ a ≠ 239 ∧ a ≠ 250 ∧ K0.getD (a + 1) 99 = 13 ∧ L0.getD (a + 1) 0 = 402 ∧ K0.getD (a + 2) 99 = 13 ∧ L0.getD (a + 2) 0 = 12 ∧ K0.getD (a + 3) 99 = 13 ∧ L0.getD (a + 3) 0 = 12 ∧ K0.getD (a + 4) 99 = 13 ∧ L0.getD (a + 4) 0 = 12 ∧ K0.getD (a + 5) 99 = 13 ∧ L0.getD (a + 5) 0 = 12 ∧ K0.getD (a + 6) 99 = 13 ∧ L0.getD (a + 6) 0 = 12 := by decide +kernel
theorem txt_k {G : hG} {a : Nat} (h : Frz G) (m : is_txt a = true) : gk G a = 9 := fz_k h a ((txt_all a (txt_in m)).1)
theorem txt_p0 {G : hG} {a : Nat} (h : Frz G) (m : is_txt a = true) : gP G a 0 = some (a + 1) := fz_p h a 0 (fzM_ne _ ((txt_all a (txt_in m)).2.2.1) ((txt_all a (txt_in m)).2.2.2.1)) (by rw [(txt_all a (txt_in m)).2.1]; rfl)
theorem txt_p3 {G : hG} {a : Nat} (h : Frz G) (m : is_txt a = true) : gP G a 3 = some (a + 2) := fz_p h a 3 (fzM_ne _ ((txt_all a (txt_in m)).2.2.1) ((txt_all a (txt_in m)).2.2.2.1)) (by rw [(txt_all a (txt_in m)).2.1]; rfl)
theorem txt_p4 {G : hG} {a : Nat} (h : Frz G) (m : is_txt a = true) : gP G a 4 = some (a + 3) := fz_p h a 4 (fzM_ne _ ((txt_all a (txt_in m)).2.2.1) ((txt_all a (txt_in m)).2.2.2.1)) (by rw [(txt_all a (txt_in m)).2.1]; rfl)
theorem txt_p5 {G : hG} {a : Nat} (h : Frz G) (m : is_txt a = true) : gP G a 5 = some (a + 4) := fz_p h a 5 (fzM_ne _ ((txt_all a (txt_in m)).2.2.1) ((txt_all a (txt_in m)).2.2.2.1)) (by rw [(txt_all a (txt_in m)).2.1]; rfl)
theorem txt_p6 {G : hG} {a : Nat} (h : Frz G) (m : is_txt a = true) : gP G a 6 = some (a + 5) := fz_p h a 6 (fzM_ne _ ((txt_all a (txt_in m)).2.2.1) ((txt_all a (txt_in m)).2.2.2.1)) (by rw [(txt_all a (txt_in m)).2.1]; rfl)
theorem txt_p7 {G : hG} {a : Nat} (h : Frz G) (m : is_txt a = true) : gP G a 7 = some (a + 6) := fz_p h a 7 (fzM_ne _ ((txt_all a (txt_in m)).2.2.1) ((txt_all a (txt_in m)).2.2.2.1)) (by rw [(txt_all a (txt_in m)).2.1]; rfl)
theorem txt_ak1 {G : hG} {a : Nat} (h : Frz G) (m : is_txt a = true) : gk G (a + 1) = 13 := fz_k h _ ((txt_all a (txt_in m)).2.2.2.2.1)
theorem txt_al1 {G : hG} {a : Nat} (h : Frz G) (m : is_txt a = true) : gl G (a + 1) = 402 := fz_l h _ ((txt_all a (txt_in m)).2.2.2.2.2.1)
theorem txt_ak2 {G : hG} {a : Nat} (h : Frz G) (m : is_txt a = true) : gk G (a + 2) = 13 := fz_k h _ ((txt_all a (txt_in m)).2.2.2.2.2.2.1)
theorem txt_al2 {G : hG} {a : Nat} (h : Frz G) (m : is_txt a = true) : gl G (a + 2) = 12 := fz_l h _ ((txt_all a (txt_in m)).2.2.2.2.2.2.2.1)
theorem txt_ak3 {G : hG} {a : Nat} (h : Frz G) (m : is_txt a = true) : gk G (a + 3) = 13 := fz_k h _ ((txt_all a (txt_in m)).2.2.2.2.2.2.2.2.1)
theorem txt_al3 {G : hG} {a : Nat} (h : Frz G) (m : is_txt a = true) : gl G (a + 3) = 12 := fz_l h _ ((txt_all a (txt_in m)).2.2.2.2.2.2.2.2.2.1)
theorem txt_ak4 {G : hG} {a : Nat} (h : Frz G) (m : is_txt a = true) : gk G (a + 4) = 13 := fz_k h _ ((txt_all a (txt_in m)).2.2.2.2.2.2.2.2.2.2.1)
theorem txt_al4 {G : hG} {a : Nat} (h : Frz G) (m : is_txt a = true) : gl G (a + 4) = 12 := fz_l h _ ((txt_all a (txt_in m)).2.2.2.2.2.2.2.2.2.2.2.1)
theorem txt_ak5 {G : hG} {a : Nat} (h : Frz G) (m : is_txt a = true) : gk G (a + 5) = 13 := fz_k h _ ((txt_all a (txt_in m)).2.2.2.2.2.2.2.2.2.2.2.2.1)
theorem txt_al5 {G : hG} {a : Nat} (h : Frz G) (m : is_txt a = true) : gl G (a + 5) = 12 := fz_l h _ ((txt_all a (txt_in m)).2.2.2.2.2.2.2.2.2.2.2.2.2.1)
theorem txt_ak6 {G : hG} {a : Nat} (h : Frz G) (m : is_txt a = true) : gk G (a + 6) = 13 := fz_k h _ ((txt_all a (txt_in m)).2.2.2.2.2.2.2.2.2.2.2.2.2.2.1)
theorem txt_al6 {G : hG} {a : Nat} (h : Frz G) (m : is_txt a = true) : gl G (a + 6) = 12 := fz_l h _ ((txt_all a (txt_in m)).2.2.2.2.2.2.2.2.2.2.2.2.2.2.2)
theorem pst_all : ∀ a ∈ pstL, K0.getD a 99 = 4 ∧ P0.getD a [] = [some (a + 1), some (a + 2)] ∧ a ≠ 239 ∧ a ≠ 250 ∧ K0.getD (a + 1) 99 = 17 ∧ L0.getD (a + 1) 0 = 16 ∧ K0.getD (a + 2) 99 = 13 ∧ L0.getD (a + 2) 0 = 16 := by decide +kernel
theorem pst_k {G : hG} {a : Nat} (h : Frz G) (m : is_pst a = true) : gk G a = 4 := fz_k h a ((pst_all a (pst_in m)).1)
theorem pst_p0 {G : hG} {a : Nat} (h : Frz G) (m : is_pst a = true) : gP G a 0 = some (a + 1) := fz_p h a 0 (fzM_ne _ ((pst_all a (pst_in m)).2.2.1) ((pst_all a (pst_in m)).2.2.2.1)) (by rw [(pst_all a (pst_in m)).2.1]; rfl)
theorem pst_p1 {G : hG} {a : Nat} (h : Frz G) (m : is_pst a = true) : gP G a 1 = some (a + 2) := fz_p h a 1 (fzM_ne _ ((pst_all a (pst_in m)).2.2.1) ((pst_all a (pst_in m)).2.2.2.1)) (by rw [(pst_all a (pst_in m)).2.1]; rfl)
theorem pst_ak1 {G : hG} {a : Nat} (h : Frz G) (m : is_pst a = true) : gk G (a + 1) = 17 := fz_k h _ ((pst_all a (pst_in m)).2.2.2.2.1)
theorem pst_al1 {G : hG} {a : Nat} (h : Frz G) (m : is_pst a = true) : gl G (a + 1) = 16 := fz_l h _ ((pst_all a (pst_in m)).2.2.2.2.2.1)
theorem pst_ak2 {G : hG} {a : Nat} (h : Frz G) (m : is_pst a = true) : gk G (a + 2) = 13 := fz_k h _ ((pst_all a (pst_in m)).2.2.2.2.2.2.1)
theorem pst_al2 {G : hG} {a : Nat} (h : Frz G) (m : is_pst a = true) : gl G (a + 2) = 16 := fz_l h _ ((pst_all a (pst_in m)).2.2.2.2.2.2.2)
theorem kpt_mom {a : Nat} (m : is_kpt a = true) : is_mom (a + 1) = true := (show ∀ a ∈ kptL, is_mom (a + 1) = true by decide +kernel) a (kpt_in m)
theorem kpt_e0 : ∀ a ∈ kptL, (a + 8 ≠ 239 ∧ a + 8 ≠ 250) ∧ ∀ i, i < 6 → (P0.getD (a + 8) []).getD i none = some (a + 9 + 7 * i) ∧ is_txt (a + 9 + 7 * i) = true := by decide +kernel
theorem kpt_e {G : hG} {a : Nat} (h : Frz G) (m : is_kpt a = true) {i : Int32} (hi : inb i 6) : gP G (a + 8) i.toNatClampNeg = some (a + 9 + 7 * i.toNatClampNeg) := fz_p h _ _ (fzM_ne _ (kpt_e0 a (kpt_in m)).1.1 (kpt_e0 a (kpt_in m)).1.2) ((kpt_e0 a (kpt_in m)).2 _ hi.2).1
theorem kpt_txt {a : Nat} (m : is_kpt a = true) {i : Int32} (hi : inb i 6) : is_txt (a + 9 + 7 * i.toNatClampNeg) = true := ((kpt_e0 a (kpt_in m)).2 _ hi.2).2
theorem pst_e0 : ∀ a ∈ pstL, (a + 1 ≠ 239 ∧ a + 1 ≠ 250) ∧ ∀ i, i < 16 → (P0.getD (a + 1) []).getD i none = some (a + 3 + 5 * i) ∧ is_mom (a + 3 + 5 * i) = true := by decide +kernel
theorem pst_e {G : hG} {a : Nat} (h : Frz G) (m : is_pst a = true) {i : Int32} (hi : inb i 16) : gP G (a + 1) i.toNatClampNeg = some (a + 3 + 5 * i.toNatClampNeg) := fz_p h _ _ (fzM_ne _ (pst_e0 a (pst_in m)).1.1 (pst_e0 a (pst_in m)).1.2) ((pst_e0 a (pst_in m)).2 _ hi.2).1
theorem pst_mom {a : Nat} (m : is_pst a = true) {i : Int32} (hi : inb i 16) : is_mom (a + 3 + 5 * i.toNatClampNeg) = true := ((pst_e0 a (pst_in m)).2 _ hi.2).2
theorem img_e0 : ∀ i, i < 2 → (P0.getD 52 []).getD i none = some (265 + 51 * i) ∧ is_kpt (265 + 51 * i) = true := by decide +kernel
theorem img_e {G : hG} (h : Frz G) {i : Int32} (hi : inb i 2) : gP G 52 i.toNatClampNeg = some (265 + 51 * i.toNatClampNeg) := fz_p h _ _ (fzM_ne _ (by decide) (by decide)) (img_e0 _ hi.2).1
theorem img_kpt {i : Int32} (hi : inb i 2) : is_kpt (265 + 51 * i.toNatClampNeg) = true := (img_e0 _ hi.2).2
def iaLen (a : Nat) : Nat := L0.getD a 0
theorem ia_k {G : hG} {a : Nat} (h : Frz G) (m : is_ia a = true) : gk G a = 13 := fz_k h a ((show ∀ a ∈ iaL, K0.getD a 99 = 13 by decide +kernel) a (ia_in m))
theorem ia_l {G : hG} {a : Nat} (h : Frz G) (m : is_ia a = true) : gl G a = iaLen a := fz_l h a rfl
theorem fk_0 {G : hG} (h : Frz G) : gk G 0 = 11 := fz_k h 0 rfl
theorem fp_0_0 {G : hG} (h : Frz G) : gP G 0 0 = some 1 := fz_p h 0 0 rfl rfl
theorem fp_0_1 {G : hG} (h : Frz G) : gP G 0 1 = some 2 := fz_p h 0 1 rfl rfl
theorem fp_0_2 {G : hG} (h : Frz G) : gP G 0 2 = some 52 := fz_p h 0 2 rfl rfl
theorem fp_0_3 {G : hG} (h : Frz G) : gP G 0 3 = some 53 := fz_p h 0 3 rfl rfl
theorem fp_0_4 {G : hG} (h : Frz G) : gP G 0 4 = some 54 := fz_p h 0 4 rfl rfl
theorem fp_0_5 {G : hG} (h : Frz G) : gP G 0 5 = some 137 := fz_p h 0 5 rfl rfl
theorem fp_0_6 {G : hG} (h : Frz G) : gP G 0 6 = some 220 := fz_p h 0 6 rfl rfl
theorem fp_0_7 {G : hG} (h : Frz G) : gP G 0 7 = some 225 := fz_p h 0 7 rfl rfl
theorem fp_0_8 {G : hG} (h : Frz G) : gP G 0 8 = some 230 := fz_p h 0 8 rfl rfl
theorem fp_0_10 {G : hG} (h : Frz G) : gP G 0 10 = some 235 := fz_p h 0 10 rfl rfl
theorem fp_0_11 {G : hG} (h : Frz G) : gP G 0 11 = some 239 := fz_p h 0 11 rfl rfl
theorem fp_0_12 {G : hG} (h : Frz G) : gP G 0 12 = some 240 := fz_p h 0 12 rfl rfl
theorem fp_0_13 {G : hG} (h : Frz G) : gP G 0 13 = some 247 := fz_p h 0 13 rfl rfl
theorem fp_0_14 {G : hG} (h : Frz G) : gP G 0 14 = some 249 := fz_p h 0 14 rfl rfl
theorem fp_0_15 {G : hG} (h : Frz G) : gP G 0 15 = some 250 := fz_p h 0 15 rfl rfl
theorem fp_0_16 {G : hG} (h : Frz G) : gP G 0 16 = some 254 := fz_p h 0 16 rfl rfl
theorem fp_0_17 {G : hG} (h : Frz G) : gP G 0 17 = some 260 := fz_p h 0 17 rfl rfl
theorem fp_0_18 {G : hG} (h : Frz G) : gP G 0 18 = some 262 := fz_p h 0 18 rfl rfl
theorem fp_0_19 {G : hG} (h : Frz G) : gP G 0 19 = some 263 := fz_p h 0 19 rfl rfl
theorem fk_235 {G : hG} (h : Frz G) : gk G 235 = 8 := fz_k h 235 rfl
theorem fp_235_0 {G : hG} (h : Frz G) : gP G 235 0 = some 236 := fz_p h 235 0 rfl rfl
theorem fp_235_2 {G : hG} (h : Frz G) : gP G 235 2 = some 237 := fz_p h 235 2 rfl rfl
theorem fp_235_3 {G : hG} (h : Frz G) : gP G 235 3 = some 238 := fz_p h 235 3 rfl rfl
theorem fk_239 {G : hG} (h : Frz G) : gk G 239 = 5 := fz_k h 239 rfl
theorem fp_239_0 {G : hG} (h : Frz G) : gP G 239 0 = some 235 := fz_p h 239 0 rfl rfl
theorem fk_247 {G : hG} (h : Frz G) : gk G 247 = 0 := fz_k h 247 rfl
theorem fp_247_0 {G : hG} (h : Frz G) : gP G 247 0 = some 248 := fz_p h 247 0 rfl rfl
theorem fk_250 {G : hG} (h : Frz G) : gk G 250 = 6 := fz_k h 250 rfl
theorem fp_250_0 {G : hG} (h : Frz G) : gP G 250 0 = some 247 := fz_p h 250 0 rfl rfl
theorem fp_250_1 {G : hG} (h : Frz G) : gP G 250 1 = some 251 := fz_p h 250 1 rfl rfl
theorem fp_250_2 {G : hG} (h : Frz G) : gP G 250 2 = some 252 := fz_p h 250 2 rfl rfl
theorem fp_250_3 {G : hG} (h : Frz G) : gP G 250 3 = some 253 := fz_p h 250 3 rfl rfl
theorem fp_250_4 {G : hG} (h : Frz G) : gP G 250 4 = some 1 := fz_p h 250 4 rfl rfl
theorem fk_254 {G : hG} (h : Frz G) : gk G 254 = 7 := fz_k h 254 rfl
theorem fp_254_0 {G : hG} (h : Frz G) : gP G 254 0 = some 255 := fz_p h 254 0 rfl rfl
theorem fp_254_1 {G : hG} (h : Frz G) : gP G 254 1 = some 256 := fz_p h 254 1 rfl rfl
theorem fp_254_2 {G : hG} (h : Frz G) : gP G 254 2 = some 257 := fz_p h 254 2 rfl rfl
theorem fp_254_3 {G : hG} (h : Frz G) : gP G 254 3 = some 258 := fz_p h 254 3 rfl rfl
theorem fp_254_4 {G : hG} (h : Frz G) : gP G 254 4 = some 259 := fz_p h 254 4 rfl rfl
theorem fk_260 {G : hG} (h : Frz G) : gk G 260 = 10 := fz_k h 260 rfl
theorem fp_260_0 {G : hG} (h : Frz G) : gP G 260 0 = some 261 := fz_p h 260 0 rfl rfl
theorem fk_263 {G : hG} (h : Frz G) : gk G 263 = 3 := fz_k h 263 rfl
theorem fp_263_0 {G : hG} (h : Frz G) : gP G 263 0 = some 264 := fz_p h 263 0 rfl rfl
theorem fk_367 {G : hG} (h : Frz G) : gk G 367 = 12 := fz_k h 367 rfl
theorem fp_367_2 {G : hG} (h : Frz G) : gP G 367 2 = some 368 := fz_p h 367 2 rfl rfl
theorem fp_367_3 {G : hG} (h : Frz G) : gP G 367 3 = some 369 := fz_p h 367 3 rfl rfl
theorem fp_367_4 {G : hG} (h : Frz G) : gP G 367 4 = some 370 := fz_p h 367 4 rfl rfl
theorem fp_367_5 {G : hG} (h : Frz G) : gP G 367 5 = some 371 := fz_p h 367 5 rfl rfl
theorem fp_367_6 {G : hG} (h : Frz G) : gP G 367 6 = some 372 := fz_p h 367 6 rfl rfl
theorem fp_367_7 {G : hG} (h : Frz G) : gP G 367 7 = some 373 := fz_p h 367 7 rfl rfl
theorem fp_367_9 {G : hG} (h : Frz G) : gP G 367 9 = some 374 := fz_p h 367 9 rfl rfl
theorem fp_367_10 {G : hG} (h : Frz G) : gP G 367 10 = some 375 := fz_p h 367 10 rfl rfl
theorem fp_367_12 {G : hG} (h : Frz G) : gP G 367 12 = some 376 := fz_p h 367 12 rfl rfl
theorem fp_367_22 {G : hG} (h : Frz G) : gP G 367 22 = some 377 := fz_p h 367 22 rfl rfl
theorem fp_367_24 {G : hG} (h : Frz G) : gP G 367 24 = some 378 := fz_p h 367 24 rfl rfl
theorem fp_367_25 {G : hG} (h : Frz G) : gP G 367 25 = some 379 := fz_p h 367 25 rfl rfl
theorem fp_367_27 {G : hG} (h : Frz G) : gP G 367 27 = some 380 := fz_p h 367 27 rfl rfl
theorem fp_367_28 {G : hG} (h : Frz G) : gP G 367 28 = some 381 := fz_p h 367 28 rfl rfl
theorem fp_367_31 {G : hG} (h : Frz G) : gP G 367 31 = some 382 := fz_p h 367 31 rfl rfl
theorem fp_367_32 {G : hG} (h : Frz G) : gP G 367 32 = some 383 := fz_p h 367 32 rfl rfl
theorem fp_367_33 {G : hG} (h : Frz G) : gP G 367 33 = some 384 := fz_p h 367 33 rfl rfl
theorem fp_367_35 {G : hG} (h : Frz G) : gP G 367 35 = some 385 := fz_p h 367 35 rfl rfl
theorem fp_367_36 {G : hG} (h : Frz G) : gP G 367 36 = some 386 := fz_p h 367 36 rfl rfl
theorem fp_367_37 {G : hG} (h : Frz G) : gP G 367 37 = some 387 := fz_p h 367 37 rfl rfl
theorem fp_367_41 {G : hG} (h : Frz G) : gP G 367 41 = some 388 := fz_p h 367 41 rfl rfl
theorem fp_367_42 {G : hG} (h : Frz G) : gP G 367 42 = some 389 := fz_p h 367 42 rfl rfl
theorem fp_367_43 {G : hG} (h : Frz G) : gP G 367 43 = some 390 := fz_p h 367 43 rfl rfl
theorem fp_367_44 {G : hG} (h : Frz G) : gP G 367 44 = some 391 := fz_p h 367 44 rfl rfl
theorem fp_367_45 {G : hG} (h : Frz G) : gP G 367 45 = some 392 := fz_p h 367 45 rfl rfl
theorem fp_367_46 {G : hG} (h : Frz G) : gP G 367 46 = some 393 := fz_p h 367 46 rfl rfl
theorem fp_367_47 {G : hG} (h : Frz G) : gP G 367 47 = some 394 := fz_p h 367 47 rfl rfl
theorem fp_367_48 {G : hG} (h : Frz G) : gP G 367 48 = some 395 := fz_p h 367 48 rfl rfl
theorem fp_367_49 {G : hG} (h : Frz G) : gP G 367 49 = some 396 := fz_p h 367 49 rfl rfl
theorem fp_367_50 {G : hG} (h : Frz G) : gP G 367 50 = some 397 := fz_p h 367 50 rfl rfl
theorem fp_367_56 {G : hG} (h : Frz G) : gP G 367 56 = some 398 := fz_p h 367 56 rfl rfl
theorem fk_52 {G : hG} (h : Frz G) : gk G 52 = 16 := fz_k h 52 rfl
theorem fl_52 {G : hG} (h : Frz G) : gl G 52 = 2 := fz_l h 52 rfl
theorem fk_53 {G : hG} (h : Frz G) : gk G 53 = 15 := fz_k h 53 rfl
theorem fl_53 {G : hG} (h : Frz G) : gl G 53 = 2 := fz_l h 53 rfl
theorem fk_236 {G : hG} (h : Frz G) : gk G 236 = 13 := fz_k h 236 rfl
theorem fl_236 {G : hG} (h : Frz G) : gl G 236 = 400 := fz_l h 236 rfl
theorem fk_237 {G : hG} (h : Frz G) : gk G 237 = 13 := fz_k h 237 rfl
theorem fl_237 {G : hG} (h : Frz G) : gl G 237 = 401 := fz_l h 237 rfl
theorem fk_238 {G : hG} (h : Frz G) : gk G 238 = 13 := fz_k h 238 rfl
theorem fl_238 {G : hG} (h : Frz G) : gl G 238 = 401 := fz_l h 238 rfl
theorem fk_248 {G : hG} (h : Frz G) : gk G 248 = 13 := fz_k h 248 rfl
theorem fl_248 {G : hG} (h : Frz G) : gl G 248 = 50 := fz_l h 248 rfl
theorem fk_249 {G : hG} (h : Frz G) : gk G 249 = 13 := fz_k h 249 rfl
theorem fl_249 {G : hG} (h : Frz G) : gl G 249 = 38 := fz_l h 249 rfl
theorem fk_251 {G : hG} (h : Frz G) : gk G 251 = 13 := fz_k h 251 rfl
theorem fl_251 {G : hG} (h : Frz G) : gl G 251 = 7 := fz_l h 251 rfl
theorem fk_252 {G : hG} (h : Frz G) : gk G 252 = 13 := fz_k h 252 rfl
theorem fl_252 {G : hG} (h : Frz G) : gl G 252 = 25 := fz_l h 252 rfl
theorem fk_253 {G : hG} (h : Frz G) : gk G 253 = 13 := fz_k h 253 rfl
theorem fl_253 {G : hG} (h : Frz G) : gl G 253 = 8 := fz_l h 253 rfl
theorem fk_255 {G : hG} (h : Frz G) : gk G 255 = 13 := fz_k h 255 rfl
theorem fl_255 {G : hG} (h : Frz G) : gl G 255 = 25 := fz_l h 255 rfl
theorem fk_256 {G : hG} (h : Frz G) : gk G 256 = 13 := fz_k h 256 rfl
theorem fl_256 {G : hG} (h : Frz G) : gl G 256 = 25 := fz_l h 256 rfl
theorem fk_257 {G : hG} (h : Frz G) : gk G 257 = 13 := fz_k h 257 rfl
theorem fl_257 {G : hG} (h : Frz G) : gl G 257 = 25 := fz_l h 257 rfl
theorem fk_258 {G : hG} (h : Frz G) : gk G 258 = 13 := fz_k h 258 rfl
theorem fl_258 {G : hG} (h : Frz G) : gl G 258 = 8 := fz_l h 258 rfl
theorem fk_259 {G : hG} (h : Frz G) : gk G 259 = 13 := fz_k h 259 rfl
theorem fl_259 {G : hG} (h : Frz G) : gl G 259 = 8 := fz_l h 259 rfl
theorem fk_261 {G : hG} (h : Frz G) : gk G 261 = 13 := fz_k h 261 rfl
theorem fl_261 {G : hG} (h : Frz G) : gl G 261 = 248 := fz_l h 261 rfl
theorem fk_262 {G : hG} (h : Frz G) : gk G 262 = 14 := fz_k h 262 rfl
theorem fl_262 {G : hG} (h : Frz G) : gl G 262 = 20 := fz_l h 262 rfl
theorem fk_264 {G : hG} (h : Frz G) : gk G 264 = 13 := fz_k h 264 rfl
theorem fl_264 {G : hG} (h : Frz G) : gl G 264 = 7 := fz_l h 264 rfl
theorem fk_368 {G : hG} (h : Frz G) : gk G 368 = 13 := fz_k h 368 rfl
theorem fl_368 {G : hG} (h : Frz G) : gl G 368 = 7 := fz_l h 368 rfl
theorem fk_369 {G : hG} (h : Frz G) : gk G 369 = 13 := fz_k h 369 rfl
theorem fl_369 {G : hG} (h : Frz G) : gl G 369 = 5468 := fz_l h 369 rfl
theorem fk_370 {G : hG} (h : Frz G) : gk G 370 = 13 := fz_k h 370 rfl
theorem fl_370 {G : hG} (h : Frz G) : gl G 370 = 10936 := fz_l h 370 rfl
theorem fk_371 {G : hG} (h : Frz G) : gk G 371 = 15 := fz_k h 371 rfl
theorem fl_371 {G : hG} (h : Frz G) : gl G 371 = 2 := fz_l h 371 rfl
theorem fk_372 {G : hG} (h : Frz G) : gk G 372 = 13 := fz_k h 372 rfl
theorem fl_372 {G : hG} (h : Frz G) : gl G 372 = 936 := fz_l h 372 rfl
theorem fk_373 {G : hG} (h : Frz G) : gk G 373 = 13 := fz_k h 373 rfl
theorem fl_373 {G : hG} (h : Frz G) : gl G 373 = 16 := fz_l h 373 rfl
theorem fk_374 {G : hG} (h : Frz G) : gk G 374 = 13 := fz_k h 374 rfl
theorem fl_374 {G : hG} (h : Frz G) : gl G 374 = 832 := fz_l h 374 rfl
theorem fk_375 {G : hG} (h : Frz G) : gk G 375 = 13 := fz_k h 375 rfl
theorem fl_375 {G : hG} (h : Frz G) : gl G 375 = 16 := fz_l h 375 rfl
theorem fk_376 {G : hG} (h : Frz G) : gk G 376 = 13 := fz_k h 376 rfl
theorem fl_376 {G : hG} (h : Frz G) : gl G 376 = 400 := fz_l h 376 rfl
theorem fk_377 {G : hG} (h : Frz G) : gk G 377 = 13 := fz_k h 377 rfl
theorem fl_377 {G : hG} (h : Frz G) : gl G 377 = 96 := fz_l h 377 rfl
theorem fk_378 {G : hG} (h : Frz G) : gk G 378 = 13 := fz_k h 378 rfl
theorem fl_378 {G : hG} (h : Frz G) : gl G 378 = 400 := fz_l h 378 rfl
theorem fk_379 {G : hG} (h : Frz G) : gk G 379 = 13 := fz_k h 379 rfl
theorem fl_379 {G : hG} (h : Frz G) : gl G 379 = 400 := fz_l h 379 rfl
theorem fk_380 {G : hG} (h : Frz G) : gk G 380 = 13 := fz_k h 380 rfl
theorem fl_380 {G : hG} (h : Frz G) : gl G 380 = 400 := fz_l h 380 rfl
theorem fk_381 {G : hG} (h : Frz G) : gk G 381 = 13 := fz_k h 381 rfl
theorem fl_381 {G : hG} (h : Frz G) : gl G 381 = 400 := fz_l h 381 rfl
theorem fk_382 {G : hG} (h : Frz G) : gk G 382 = 14 := fz_k h 382 rfl
theorem fl_382 {G : hG} (h : Frz G) : gl G 382 = 7 := fz_l h 382 rfl
theorem fk_383 {G : hG} (h : Frz G) : gk G 383 = 14 := fz_k h 383 rfl
theorem fl_383 {G : hG} (h : Frz G) : gl G 383 = 7 := fz_l h 383 rfl
theorem fk_384 {G : hG} (h : Frz G) : gk G 384 = 14 := fz_k h 384 rfl
theorem fl_384 {G : hG} (h : Frz G) : gl G 384 = 2 := fz_l h 384 rfl
theorem fk_385 {G : hG} (h : Frz G) : gk G 385 = 14 := fz_k h 385 rfl
theorem fl_385 {G : hG} (h : Frz G) : gl G 385 = 13 := fz_l h 385 rfl
theorem fk_386 {G : hG} (h : Frz G) : gk G 386 = 14 := fz_k h 386 rfl
theorem fl_386 {G : hG} (h : Frz G) : gl G 386 = 13 := fz_l h 386 rfl
theorem fk_387 {G : hG} (h : Frz G) : gk G 387 = 14 := fz_k h 387 rfl
theorem fl_387 {G : hG} (h : Frz G) : gl G 387 = 400 := fz_l h 387 rfl
theorem fk_388 {G : hG} (h : Frz G) : gk G 388 = 13 := fz_k h 388 rfl
theorem fl_388 {G : hG} (h : Frz G) : gl G 388 = 25 := fz_l h 388 rfl
theorem fk_389 {G : hG} (h : Frz G) : gk G 389 = 13 := fz_k h 389 rfl
theorem fl_389 {G : hG} (h : Frz G) : gl G 389 = 25 := fz_l h 389 rfl
theorem fk_390 {G : hG} (h : Frz G) : gk G 390 = 13 := fz_k h 390 rfl
theorem fl_390 {G : hG} (h : Frz G) : gl G 390 = 8 := fz_l h 390 rfl
theorem fk_391 {G : hG} (h : Frz G) : gk G 391 = 13 := fz_k h 391 rfl
theorem fl_391 {G : hG} (h : Frz G) : gl G 391 = 9 := fz_l h 391 rfl
theorem fk_392 {G : hG} (h : Frz G) : gk G 392 = 15 := fz_k h 392 rfl
theorem fl_392 {G : hG} (h : Frz G) : gl G 392 = 64 := fz_l h 392 rfl
theorem fk_393 {G : hG} (h : Frz G) : gk G 393 = 13 := fz_k h 393 rfl
theorem fl_393 {G : hG} (h : Frz G) : gl G 393 = 248 := fz_l h 393 rfl
theorem fk_394 {G : hG} (h : Frz G) : gk G 394 = 14 := fz_k h 394 rfl
theorem fl_394 {G : hG} (h : Frz G) : gl G 394 = 21 := fz_l h 394 rfl
theorem fk_395 {G : hG} (h : Frz G) : gk G 395 = 14 := fz_k h 395 rfl
theorem fl_395 {G : hG} (h : Frz G) : gl G 395 = 4 := fz_l h 395 rfl
theorem fk_396 {G : hG} (h : Frz G) : gk G 396 = 14 := fz_k h 396 rfl
theorem fl_396 {G : hG} (h : Frz G) : gl G 396 = 3 := fz_l h 396 rfl
theorem fk_397 {G : hG} (h : Frz G) : gk G 397 = 13 := fz_k h 397 rfl
theorem fl_397 {G : hG} (h : Frz G) : gl G 397 = 96 := fz_l h 397 rfl
theorem fk_398 {G : hG} (h : Frz G) : gk G 398 = 13 := fz_k h 398 rfl
theorem fl_398 {G : hG} (h : Frz G) : gl G 398 = 52 := fz_l h 398 rfl
