/-! texts: the model's pile -/
abbrev Pi : Type := List (Nat × Nat)
abbrev Cd : Type := (Nat → Int32) × (Nat → Int32) × Nat
def sPm (a k : Nat) : Bool := (a == 367 && (k == 14 || k == 15 || k == 16 || k == 17 || k == 18 || k == 19 || k == 23 || k == 26 || k == 29 || k == 30)) || a == 378 || a == 379 || a == 380 || a == 381
def PL : Pi → hG → Prop
  | [], _ => True
  | x :: L, f => gI f 380 L.length = nI x.1 ∧ gI f 381 L.length = nI x.2 ∧ x.1 < 100 ∧ x.2 < 400 ∧ PL L f
def wt : Pi → Nat
  | [] => 0
  | x :: L => (if x.1 < 29 then 1 else 0) + wt L
def bd (op : Nat) : Nat := if op < 31 then (if op = 30 then 1 else if op = 29 then 2 else if op = 28 then 3 else if op < 25 then (if op < 22 then 5 else 6) else 4) else 0
def tb : Pi → Nat
  | [] => 0
  | x :: _ => bd x.1
def ib : Pi → Nat
  | [] => 0
  | x :: L => if 31 ≤ x.1 then x.1 else ib L
theorem ib_s (x : Nat × Nat) (L : Pi) : ib (x :: L) = if 31 ≤ x.1 then x.1 else ib L := rfl
def cmF : Pi → Bool
  | [] => false
  | x :: L => if 20 ≤ x.1 ∧ x.1 ≤ 24 then cmF L else decide (25 ≤ x.1 ∧ x.1 ≤ 27)
/-- what settling leaves of the code -/
def sf1 (x : Nat × Nat) (C : Cd) : Cd := if x.1 = 29 ∨ x.1 = 30 then (C.1, upR C.2.1 x.2 (nI C.2.2), C.2.2) else (upR C.1 C.2.2 (nI x.1), upR C.2.1 C.2.2 0, C.2.2 + 1)
def sfF : Pi → Cd → Cd
  | [], C => C
  | x :: L, C => sfF L (sf1 x C)
theorem sfF_app : ∀ (p q : Pi) (C : Cd), sfF (p ++ q) C = sfF q (sfF p C)
  | [], _, _ => rfl
  | x :: p, q, C => by
    show sfF (p ++ q) (sf1 x C) = sfF q (sfF p (sf1 x C))
    exact sfF_app p q _
theorem wt_app : ∀ (p q : Pi), wt (p ++ q) = wt p + wt q
  | [], q => by show wt q = 0 + wt q; omega
  | x :: p, q => by
    show (if x.1 < 29 then 1 else 0) + wt (p ++ q) = (if x.1 < 29 then 1 else 0) + wt p + wt q
    rw [wt_app p q]; omega
theorem PL.app : ∀ {p q : Pi} {f : hG}, PL (p ++ q) f → PL q f
  | [], _, _, h => h
  | _ :: p, _, _, h => PL.app (p := p) h.2.2.2.2
theorem PL.ex : ∀ {L : Pi} {f f' : hG}, PL L f → (∀ i, i < L.length → gI f' 380 i = gI f 380 i ∧ gI f' 381 i = gI f 381 i) → PL L f'
  | [], _, _, _, _ => trivial
  | x :: L, f, f', h, e => ⟨(e _ (by show L.length < L.length + 1; omega)).1.trans h.1, (e _ (by show L.length < L.length + 1; omega)).2.trans h.2.1, h.2.2.1, h.2.2.2.1, PL.ex h.2.2.2.2 (fun i hi => e i (by show i < L.length + 1; omega))⟩
theorem gI_up (f : hG) (a k : Nat) (v : Int32) : gI (sI f a k v) a = upR (gI f a) k v := by
  funext i
  unfold upR
  by_cases z : i = k
  · rw [if_pos z, z, rd_s]
  · rw [if_neg z, rd_k z]
theorem gI_up0 (f : hG) {a b : Nat} (k : Nat) (v : Int32) (h : b ≠ a) : gI (sI f a k v) b = gI f b := funext (fun i => rd_a h)
section PI
variable {f : hG}
theorem binds_m (op : Nat) (ho : op < 100) : q_Mo_binds (nI op) f = some (nI (bd op), f) := by
  unfold q_Mo_binds bd
  by_cases a : op < 31
  · rw [if_pos (show nI op < (31 : Int32) from nI_lt' (b := 31) a (by omega)), if_pos a]
    by_cases b : op = 30
    · rw [if_pos (show nI op = (30 : Int32) by rw [b]; rfl), if_pos b]; rfl
    · rw [if_neg (show ¬ nI op = (30 : Int32) from nI_dif (b := 30) b (by omega) (by omega)), if_neg b]
      by_cases c : op = 29
      · rw [if_pos (show nI op = (29 : Int32) by rw [c]; rfl), if_pos c]; rfl
      · rw [if_neg (show ¬ nI op = (29 : Int32) from nI_dif (b := 29) c (by omega) (by omega)), if_neg c]
        by_cases d : op = 28
        · rw [if_pos (show nI op = (28 : Int32) by rw [d]; rfl), if_pos d]; rfl
        · rw [if_neg (show ¬ nI op = (28 : Int32) from nI_dif (b := 28) d (by omega) (by omega)), if_neg d]
          by_cases e : op < 25
          · rw [if_pos (show nI op < (25 : Int32) from nI_lt' (b := 25) e (by omega)), if_pos e]
            by_cases g : op < 22
            · rw [if_pos (show nI op < (22 : Int32) from nI_lt' (b := 22) g (by omega)), if_pos g]; rfl
            · rw [if_neg (show ¬ nI op < (22 : Int32) from nI_ngt (a := 22) (by omega) (by omega)), if_neg g]; rfl
          · rw [if_neg (show ¬ nI op < (25 : Int32) from nI_ngt (a := 25) (by omega) (by omega)), if_neg e]; rfl
  · rw [if_neg (show ¬ nI op < (31 : Int32) from nI_ngt (a := 31) (by omega) (by omega)), if_neg a]; rfl
theorem inner_l (K : Int32 → hG → hO Int32) {m : Nat} (hm : m ≤ 400) (h29 : gI f 367 29 = nI m) : ∀ (L : Pi) (F : Nat), PL L f → L.length ≤ m → q_Mo_inner_4L K (F + L.length) (-1) 0 f = q_Mo_inner_4L K F (if ib L = 0 then -1 else nI (ib L)) (nI L.length) f
  | [], F, _, _ => rfl
  | x :: L, F, h, hl => by
    have hl' : L.length + 1 ≤ m := hl
    show q_Mo_inner_4L K (F + (L.length + 1)) (-1) 0 f = q_Mo_inner_4L K F (if ib (x :: L) = 0 then -1 else nI (ib (x :: L))) (nI (L.length + 1)) f
    rw [show F + (L.length + 1) = F + 1 + L.length by omega, inner_l K hm h29 L (F + 1) h.2.2.2.2 (by omega), q_Mo_inner_4L_s]
    have hx := h.2.2.1
    unfold q_Mo_inner_4
    rw [ib_s, h29, if_neg (nI_ge (by omega) (by omega)), gd_nI (by omega) (by omega), gd_nI (by omega) (by omega), nI_clamp (by omega), h.1, nI_1]
    by_cases z : 31 ≤ x.1
    · rw [if_neg (show ¬ nI x.1 < (31 : Int32) from nI_ngt (a := 31) z (by omega)), if_pos z, if_neg (show ¬ x.1 = 0 by omega)]
    · rw [if_pos (show nI x.1 < (31 : Int32) from nI_lt' (b := 31) (by omega) (by omega)), if_neg z]
theorem inner_m {L : Pi} (h : PL L f) (h29 : gI f 367 29 = nI L.length) (hl : L.length ≤ 400) : q_Mo_inner f = some (if ib L = 0 then -1 else nI (ib L), f) := by
  obtain ⟨F, hF⟩ : ∃ F, FU = F + 1 + L.length := ⟨1000000 - 1 - L.length, by have e : FU = 1000000 := rfl; omega⟩
  unfold q_Mo_inner
  rw [hF, inner_l _ hl h29 L (F + 1) h (Nat.le_refl _), q_Mo_inner_4L_s]
  unfold q_Mo_inner_4
  rw [h29, if_pos (nI_le (Nat.le_refl _) (by omega))]
theorem in_n (v lo hi : Nat) (hv : v < 2 ^ 31) (hl : lo < 2 ^ 31) (hh : hi < 2 ^ 31) : q_Mo_in (nI v).toInt64 (nL lo) (nL hi) f = some (bI (lo ≤ v ∧ v ≤ hi), f) := by
  rw [in_e (nI v) (nI lo) (nI hi) (nL lo) (nL hi) (nI_64 hl).symm (nI_64 hh).symm, bI_congr (q := lo ≤ v ∧ v ≤ hi)]
  exact ⟨fun q => ⟨by
    by_cases z : lo ≤ v
    · exact z
    · exact absurd q.1 (nI_ge (by omega) hl), by
    by_cases z : v ≤ hi
    · exact z
    · exact absurd q.2 (nI_ge (by omega) hv)⟩, fun q => ⟨nI_le q.1 hv, nI_le q.2 hh⟩⟩
theorem compd_l : ∀ (L : Pi) (F : Nat), PL L f → L.length ≤ 400 → L.length < F → q_Mo_isCompared_5L (fun x6 g7 => q_Mo_isCompared_18 x6 g7) F (tI L.length) f = some (bI (cmF L = true), f)
  | [], F, _, _, hF => by
    obtain ⟨F, rfl⟩ : ∃ q, F = q + 1 := ⟨F - 1, by omega⟩
    rw [q_Mo_isCompared_5L_s]
    unfold q_Mo_isCompared_5 q_Mo_isCompared_18
    have e : tI ([] : Pi).length < 0 := by decide
    rw [if_pos e]
    exact if_pos e
  | x :: L, F, h, hl, hF => by
    have hl' : L.length + 1 ≤ 400 := hl
    have hF' : L.length + 1 < F := hF
    obtain ⟨F, rfl⟩ : ∃ q, F = q + 1 := ⟨F - 1, by omega⟩
    have hx := h.2.2.1
    have e : tI (x :: L).length = nI L.length := tI_s _
    rw [q_Mo_isCompared_5L_s, e]
    unfold q_Mo_isCompared_5 cmF
    rw [if_neg (Int32.not_lt.mpr (nI_pos' (by omega))), gd_nI (by omega) (by omega), nI_clamp (by omega), h.1, show (20 : Int64) = nL 20 from rfl, show (24 : Int64) = nL 24 from rfl, in_n _ _ _ (by omega) (by omega) (by omega), bnd_s]
    by_cases z : 20 ≤ x.1 ∧ x.1 ≤ 24
    · rw [bI_t z, if_neg (by decide), if_pos z, tI_d]
      exact compd_l L F h.2.2.2.2 (by omega) (by omega)
    · rw [bI_f z, if_pos rfl, if_neg z]
      show q_Mo_isCompared_18 (nI L.length) f = _
      unfold q_Mo_isCompared_18
      rw [if_neg (Int32.not_lt.mpr (nI_pos' (by omega))), gd_nI (by omega) (by omega), nI_clamp (by omega), h.1, show (25 : Int64) = nL 25 from rfl, show (27 : Int64) = nL 27 from rfl, in_n _ _ _ (by omega) (by omega) (by omega), bnd_s]
      by_cases y : 25 ≤ x.1 ∧ x.1 ≤ 27
      · rw [bI_t y, if_neg (by decide), decide_eq_true y, bI_t rfl]
      · rw [bI_f y, if_pos rfl, decide_eq_false y, bI_f Bool.false_ne_true]
theorem compd_m {L : Pi} (h : PL L f) (h29 : gI f 367 29 = nI L.length) (hl : L.length ≤ 400) : q_Mo_isCompared f = some (bI (cmF L = true), f) := by
  have e : nI L.length - (1 : Int32) = tI L.length := by
    rw [Int32.sub_eq_add_neg]
    exact tI_d _
  unfold q_Mo_isCompared
  rw [h29, e]
  exact compd_l L FU h hl (Nat.lt_of_le_of_lt hl (by decide))
def pushH (L : Pi) (a b : Nat) (f : hG) : hG := sI (sI (sI f 380 L.length (nI a)) 381 L.length (nI b)) 367 29 (nI (L.length + 1))
theorem push_m {L : Pi} (h29 : gI f 367 29 = nI L.length) (hl : L.length < 400) (a b : Nat) : q_Mo_push (nI a) (nI b) f = some ((), pushH L a b f) := by
  unfold q_Mo_push pushH
  rw [h29, gd_nI hl (by omega), wr_e, rd_a (by decide), h29, gd_nI hl (by omega), wr_e, wr_e, nI_clamp (by omega), rd_a (by decide), rd_a (by decide), h29, nI_1]
theorem push_PL {L : Pi} (h : PL L f) {a b : Nat} (ha : a < 100) (hb : b < 400) : PL ((a, b) :: L) (pushH L a b f) := by
  unfold pushH
  refine ⟨?_, ?_, ha, hb, h.ex (fun i hi => ⟨?_, ?_⟩)⟩
  · rw [rd_a (by decide), rd_a (by decide), rd_s]
  · rw [rd_a (by decide), rd_s]
  · rw [rd_a (by decide), rd_a (by decide), rd_k (by omega)]
  · rw [rd_a (by decide), rd_k (by omega), rd_a (by decide)]
def emitH (len : Nat) (a b : Int32) (f : hG) : hG := sI (sI (sI f 378 len a) 379 len b) 367 23 (nI (len + 1))
theorem emit_m {len : Nat} (h23 : gI f 367 23 = nI len) (hl : len < 400) (a b : Int32) : q_Mo_emit a b f = some ((), emitH len a b f) := by
  unfold q_Mo_emit emitH
  rw [h23, gd_nI hl (by omega), wr_e, rd_a (by decide), h23, gd_nI hl (by omega), wr_e, wr_e, nI_clamp (by omega), rd_a (by decide), rd_a (by decide), h23, nI_1]
def sSt (a k : Nat) : Bool := (a == 367 && (k == 23 || k == 29)) || a == 378 || a == 379
theorem settle_l {lo : Nat} (h1 : 1 ≤ lo) (hlo : lo < 100) (K : hG → hO Unit) : ∀ (pend L : Pi) (len F : Nat) (f : hG), PL (pend ++ L) f → gI f 367 29 = nI (pend ++ L).length → gI f 367 23 = nI len → (∀ x, x ∈ pend → lo ≤ bd x.1) → tb L < lo → len + wt pend ≤ 400 → (pend ++ L).length ≤ 400 → pend.length < F → ∃ f', q_Mo_settle_0L (nI lo) K F f = K f' ∧ gI f' 367 29 = nI L.length ∧ gI f' 367 23 = nI (sfF pend (gI f 378, gI f 379, len)).2.2 ∧ gI f' 378 = (sfF pend (gI f 378, gI f 379, len)).1 ∧ gI f' 379 = (sfF pend (gI f 378, gI f 379, len)).2.1 ∧ Un sSt f f'
  | [], L, len, F, f, hp, h29, h23, hb, ht, hw, hl, hF => by
    obtain ⟨F, rfl⟩ : ∃ q, F = q + 1 := ⟨F - 1, by omega⟩
    have hl' : L.length ≤ 400 := hl
    refine ⟨f, ?_, h29, h23, rfl, rfl, Un.rf⟩
    have h29' : gI f 367 29 = nI L.length := h29
    rw [q_Mo_settle_0L_s]
    unfold q_Mo_settle_0
    cases L with
    | nil =>
      rw [h29', if_pos (show nI ([] : Pi).length ≤ (0 : Int32) from by decide)]
    | cons x L =>
      have hx : PL (x :: L) f := hp
      have hl2 : L.length + 1 ≤ 400 := hl'
      have e : nI (x :: L).length - (1 : Int32) = nI L.length := nI_sub (a := L.length + 1) (b := 1) (by omega)
      have hb1 : bd x.1 < lo := ht
      rw [h29', if_neg (show ¬ nI (x :: L).length ≤ (0 : Int32) from nI_ge (a := 0) (b := L.length + 1) (by omega) (by omega)), e, gd_nI (by omega) (by omega), nI_clamp (by omega), hx.1, binds_m _ hx.2.2.1, bnd_s, if_pos (nI_lt' hb1 (by omega))]
  | x :: pend, L, len, F, f, hp, h29, h23, hb, ht, hw, hl, hF => by
    obtain ⟨F, rfl⟩ : ∃ q, F = q + 1 := ⟨F - 1, by omega⟩
    have hF' : pend.length + 1 < F + 1 := hF
    have hl2 : (pend ++ L).length + 1 ≤ 400 := hl
    have hx : PL (x :: (pend ++ L)) f := hp
    have h29' : gI f 367 29 = nI ((pend ++ L).length + 1) := h29
    have e : nI ((pend ++ L).length + 1) - (1 : Int32) = nI (pend ++ L).length := nI_sub (b := 1) (by omega)
    have hb1 := hb x List.mem_cons_self
    have hw' : len + ((if x.1 < 29 then 1 else 0) + wt pend) ≤ 400 := hw
    have bb : bd x.1 < 100 := by unfold bd; split; (split; omega; split; omega; split; omega; split; (split; omega; omega); omega); omega
    have go : ∀ f1 : hG, Un sSt (sI f 367 29 (nI (pend ++ L).length)) f1 → gI f1 367 29 = nI (pend ++ L).length → gI f1 367 23 = nI (sf1 x (gI f 378, gI f 379, len)).2.2 → gI f1 378 = (sf1 x (gI f 378, gI f 379, len)).1 → gI f1 379 = (sf1 x (gI f 378, gI f 379, len)).2.1 → (sf1 x (gI f 378, gI f 379, len)).2.2 + wt pend ≤ 400 → ∃ f', q_Mo_settle_0L (nI lo) K F f1 = K f' ∧ gI f' 367 29 = nI L.length ∧ gI f' 367 23 = nI (sfF (x :: pend) (gI f 378, gI f 379, len)).2.2 ∧ gI f' 378 = (sfF (x :: pend) (gI f 378, gI f 379, len)).1 ∧ gI f' 379 = (sfF (x :: pend) (gI f 378, gI f 379, len)).2.1 ∧ Un sSt f f' := fun f1 u a1 a2 a3 a4 a5 => by
      have u0 : Un sSt f (sI f 367 29 (nI (pend ++ L).length)) := Un.rf.sI rfl _
      obtain ⟨f', b1, b2, b3, b4, b5, b6⟩ := settle_l h1 hlo K pend L _ F f1 (hx.2.2.2.2.ex (fun i hi => ⟨(u0.tr u).I rfl, (u0.tr u).I rfl⟩)) a1 a2 (fun y hy => hb y (List.mem_cons_of_mem _ hy)) ht a5 (by omega) (by omega)
      have e3 : (gI f1 378, gI f1 379, (sf1 x (gI f 378, gI f 379, len)).2.2) = sf1 x (gI f 378, gI f 379, len) := by rw [a3, a4]
      rw [e3] at b3 b4 b5
      exact ⟨f', b1, b2, b3, b4, b5, (u0.tr u).tr b6⟩
    rw [q_Mo_settle_0L_s]
    unfold q_Mo_settle_0 q_Mo_settle_33
    rw [h29', if_neg (show ¬ nI ((pend ++ L).length + 1) ≤ (0 : Int32) from nI_ge (a := 0) (by omega) (by omega)), e, gd_nI (by omega) (by omega), nI_clamp (by omega), hx.1, binds_m _ hx.2.2.1, bnd_s, if_neg (nI_ngt hb1 (by omega)), h29', e, wr_e, rd_s, gd_nI (by omega) (by omega), gd_nI (by omega) (by omega), nI_clamp (by omega), rd_a (by decide), hx.1, gd_nI (by omega) (by omega), rd_a (by decide), hx.2.1, gd_nI hx.2.2.2.1 (by omega), wr_e, nI_clamp (by have := hx.2.2.2.1; omega), rd_k (by decide), h23]
    have h23' : gI (sI f 367 29 (nI (pend ++ L).length)) 367 23 = nI len := (rd_k (by decide)).trans h23
    by_cases z : x.1 = 29 ∨ x.1 = 30
    · have s1 : sf1 x (gI f 378, gI f 379, len) = (gI f 378, upR (gI f 379) x.2 (nI len), len) := if_pos z
      have h0 : ¬ x.1 < 29 := by omega
      rw [if_neg h0] at hw'
      have fin := go (sI (sI f 367 29 (nI (pend ++ L).length)) 379 x.2 (nI len)) (Un.rf.sI rfl _) ((rd_a (by decide)).trans rd_s) (by rw [s1]; exact (rd_a (by decide)).trans h23') (by rw [s1, gI_up0 _ _ _ (by decide), gI_up0 _ _ _ (by decide)]) (by rw [s1, gI_up, gI_up0 _ _ _ (by decide)]) (by rw [s1]; show len + wt pend ≤ 400; omega)
      rcases z with z | z
      · rw [if_pos (show nI x.1 = (29 : Int32) by rw [z]; rfl)]
        exact fin
      · rw [if_neg (show ¬ nI x.1 = (29 : Int32) by rw [z]; decide), if_pos (show nI x.1 = (30 : Int32) by rw [z]; rfl)]
        exact fin
    · have s1 : sf1 x (gI f 378, gI f 379, len) = (upR (gI f 378) len (nI x.1), upR (gI f 379) len 0, len + 1) := if_neg z
      have x29 : ¬ nI x.1 = (29 : Int32) := nI_dif (b := 29) (by omega) (by have := hx.2.2.1; omega) (by omega)
      have x30 : ¬ nI x.1 = (30 : Int32) := nI_dif (b := 30) (by omega) (by have := hx.2.2.1; omega) (by omega)
      have hop : x.1 < 29 := by
        by_cases y : x.1 < 29
        · exact y
        · have : bd x.1 = 0 := by unfold bd; rw [if_neg (by omega)]
          omega
      rw [if_pos hop] at hw'
      rw [if_neg x29, if_neg x30, gd_nI (by omega) (by omega), emit_m h23' (by omega), bnd_s]
      refine go _ ?_ ?_ ?_ ?_ ?_ ?_
      · exact ((Un.rf.sI rfl _).sI rfl _).sI rfl _
      · unfold emitH; rw [rd_k (by decide), rd_a (by decide), rd_a (by decide), rd_s]
      · rw [s1]; exact rd_s
      · rw [s1]; unfold emitH; rw [gI_up0 _ _ _ (by decide), gI_up0 _ _ _ (by decide), gI_up, gI_up0 _ _ _ (by decide)]
      · rw [s1]; unfold emitH; rw [gI_up0 _ _ _ (by decide), gI_up, gI_up0 _ _ _ (by decide), gI_up0 _ _ _ (by decide)]
      · rw [s1]; show len + 1 + wt pend ≤ 400; omega
end PI
