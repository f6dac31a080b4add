/-! the start: heaps as lists of cells, and the constructors' rows -/
abbrev hCl : Type := Nat × Nat × List (Option Nat) × (Nat → Int32) × (Nat → Int64)
def zI0 : Nat → Int32 := fun _ => 0
def zJ0 : Nat → Int64 := fun _ => 0
def clD : hCl := (99, 0, [], zI0, zJ0)
abbrev mkC (c len : Nat) : hCl := (c, len, [], zI0, zJ0)
def RepG (G : hG) (L : List hCl) (s : Nat) : Prop := gn G = L.length ∧ gs G = s ∧ ∀ a, gk G a = (L.getD a clD).1 ∧ gl G a = (L.getD a clD).2.1 ∧ (∀ k, gP G a k = (L.getD a clD).2.2.1.getD k none) ∧ gI G a = (L.getD a clD).2.2.2.1 ∧ gJ G a = (L.getD a clD).2.2.2.2
def setR : List (Option Nat) → Nat → Option Nat → List (Option Nat)
  | [], 0, v => [v]
  | [], k + 1, v => none :: setR [] k v
  | _ :: r, 0, v => v :: r
  | x :: r, k + 1, v => x :: setR r k v
theorem setR_get : ∀ (r : List (Option Nat)) (k : Nat) (v : Option Nat) (j : Nat), (setR r k v).getD j none = if j = k then v else r.getD j none
  | [], 0, v, j => by
    cases j with
    | zero => rfl
    | succ j => rfl
  | [], k + 1, v, j => by
    cases j with
    | zero => rfl
    | succ j =>
      show (setR [] k v).getD j none = _
      rw [setR_get [] k v j]
      by_cases z : j = k
      · rw [if_pos z, if_pos (by omega)]
      · rw [if_neg z, if_neg (by omega)]; rfl
  | x :: r, 0, v, j => by
    cases j with
    | zero => rfl
    | succ j => rfl
  | x :: r, k + 1, v, j => by
    cases j with
    | zero => rfl
    | succ j =>
      show (setR r k v).getD j none = _
      rw [setR_get r k v j]
      by_cases z : j = k
      · rw [if_pos z, if_pos (by omega)]
      · rw [if_neg z, if_neg (by omega)]; rfl
def upJ (r : Nat → Int64) (k : Nat) (v : Int64) : Nat → Int64 := fun i => if i = k then v else r i
theorem getD_snoc {α : Type} (d x : α) : ∀ (L : List α) (a : Nat), (L ++ [x]).getD a d = if a = L.length then x else L.getD a d
  | [], a => by
    cases a with
    | zero => rfl
    | succ a => rfl
  | y :: L, a => by
    cases a with
    | zero => rfl
    | succ a =>
      show (L ++ [x]).getD a d = _
      rw [getD_snoc d x L a]
      by_cases z : a = L.length
      · rw [if_pos z, if_pos (by rw [List.length_cons]; omega)]
      · rw [if_neg z, if_neg (by rw [List.length_cons]; omega)]; rfl
theorem getD_mid {α : Type} (d x : α) (B : List α) : ∀ (A : List α), (A ++ x :: B).getD A.length d = x
  | [] => rfl
  | _ :: A => getD_mid d x B A
theorem getD_sw {α : Type} (d x y : α) (B : List α) : ∀ (A : List α) (a : Nat), (A ++ y :: B).getD a d = if a = A.length then y else (A ++ x :: B).getD a d
  | [], a => by
    cases a with
    | zero => rfl
    | succ a => rfl
  | w :: A, a => by
    cases a with
    | zero => rfl
    | succ a =>
      show (A ++ y :: B).getD a d = _
      rw [getD_sw d x y B A a]
      by_cases z : a = A.length
      · rw [if_pos z, if_pos (by rw [List.length_cons]; omega)]
      · rw [if_neg z, if_neg (by rw [List.length_cons]; omega)]; rfl
section RE
variable {G : hG} {L A B : List hCl} {s c l : Nat} {q : List (Option Nat)} {f : Nat → Int32} {j : Nat → Int64}
theorem rep_new (h : RepG G L s) (kd len sl : Nat) : RepG (sNew G kd len sl) (L ++ [mkC kd len]) (s + sl) := by
  obtain ⟨h1, h2, h3⟩ := h
  refine ⟨by rw [List.length_append]; show gn G + 1 = _; rw [h1]; rfl, by show gs G + sl = _; rw [h2], fun a => ?_⟩
  rw [getD_snoc]
  have e : ∀ {β : Type} (u : Nat → β) (v : β), va_up u (gn G) v a = if a = gn G then v else u a := fun u v => rfl
  by_cases z : a = L.length
  · rw [if_pos z]
    have z' : a = gn G := z.trans h1.symm
    refine ⟨(e _ _).trans (if_pos z'), (e _ _).trans (if_pos z'), fun k => ?_, (e _ _).trans (if_pos z'), (e _ _).trans (if_pos z')⟩
    show va_up (gP G) (gn G) (fun _ => none) a k = none
    rw [e, if_pos z']
  · rw [if_neg z]
    have z' : ¬ a = gn G := fun w => z (w.trans h1)
    obtain ⟨k1, k2, k3, k4, k5⟩ := h3 a
    refine ⟨((e _ _).trans (if_neg z')).trans k1, ((e _ _).trans (if_neg z')).trans k2, fun k => ?_, ((e _ _).trans (if_neg z')).trans k4, ((e _ _).trans (if_neg z')).trans k5⟩
    show va_up (gP G) (gn G) (fun _ => none) a k = _
    rw [e, if_neg z']
    exact k3 k
theorem rep_at (h : RepG G (A ++ (c, l, q, f, j) :: B) s) : gk G A.length = c ∧ gl G A.length = l ∧ (∀ k, gP G A.length k = q.getD k none) ∧ gI G A.length = f ∧ gJ G A.length = j := by
  have := h.2.2 A.length
  rw [getD_mid] at this
  exact this
theorem rep_P (h : RepG G (A ++ (c, l, q, f, j) :: B) s) (k : Nat) (v : Option Nat) : RepG (sP G A.length k v) (A ++ (c, l, setR q k v, f, j) :: B) s := by
  obtain ⟨h1, h2, h3⟩ := id h
  refine ⟨h1.trans (by rw [List.length_append, List.length_append]; rfl), h2, fun a => ?_⟩
  rw [getD_sw clD (c, l, q, f, j)]
  obtain ⟨k1, k2, k3, k4, k5⟩ := h3 a
  by_cases z : a = A.length
  · rw [if_pos z]
    subst z
    obtain ⟨e1, e2, e3, e4, e5⟩ := rep_at h
    refine ⟨e1, e2, fun i => ?_, e4, e5⟩
    rw [gP_sP, setR_get]
    by_cases w : i = k
    · rw [if_pos ⟨rfl, w⟩, if_pos w]
    · rw [if_neg (fun y => w y.2), if_neg w, e3]
  · rw [if_neg z]
    refine ⟨k1, k2, fun i => ?_, k4, k5⟩
    rw [gP_sP, if_neg (fun y => z y.1)]
    exact k3 i
theorem rep_I (h : RepG G (A ++ (c, l, q, f, j) :: B) s) (k : Nat) (v : Int32) : RepG (sI G A.length k v) (A ++ (c, l, q, upR f k v, j) :: B) s := by
  obtain ⟨h1, h2, h3⟩ := id h
  refine ⟨h1.trans (by rw [List.length_append, List.length_append]; rfl), h2, fun a => ?_⟩
  rw [getD_sw clD (c, l, q, f, j)]
  obtain ⟨k1, k2, k3, k4, k5⟩ := h3 a
  by_cases z : a = A.length
  · rw [if_pos z]
    subst z
    obtain ⟨e1, e2, e3, e4, e5⟩ := rep_at h
    refine ⟨e1, e2, e3, ?_, e5⟩
    rw [gI_up, e4]
  · rw [if_neg z]
    refine ⟨k1, k2, k3, ?_, k5⟩
    rw [gI_up0 _ _ _ z]
    exact k4
theorem rep_J (h : RepG G (A ++ (c, l, q, f, j) :: B) s) (k : Nat) (v : Int64) : RepG (sJ G A.length k v) (A ++ (c, l, q, f, upJ j k v) :: B) s := by
  obtain ⟨h1, h2, h3⟩ := id h
  refine ⟨h1.trans (by rw [List.length_append, List.length_append]; rfl), h2, fun a => ?_⟩
  rw [getD_sw clD (c, l, q, f, j)]
  obtain ⟨k1, k2, k3, k4, k5⟩ := h3 a
  by_cases z : a = A.length
  · rw [if_pos z]
    subst z
    obtain ⟨e1, e2, e3, e4, e5⟩ := rep_at h
    refine ⟨e1, e2, e3, e4, ?_⟩
    funext i
    rw [gJ_sJ, e5]
    show (if A.length = A.length ∧ i = k then v else j i) = if i = k then v else j i
    by_cases w : i = k
    · rw [if_pos ⟨rfl, w⟩, if_pos w]
    · rw [if_neg (fun y => w y.2), if_neg w]
  · rw [if_neg z]
    refine ⟨k1, k2, k3, k4, ?_⟩
    rw [← k5]
    funext i
    rw [gJ_sJ, if_neg (fun y => z y.1)]
end RE
/-- from a heap of cells L the rest of a method comes to a heap of cells L' -/
def RG (d M : Nat) (os : List hOp) (lv : List (Option Value)) (st : List Value) (L : List hCl) (s : Nat) (L' : List hCl) (s' : Nat) : Prop :=
  ∀ G, RepG G L s → ∃ G', RepG G' L' s' ∧ ∃ f0 : Nat, ∀ f, f0 ≤ f → exO os (fun k => hrun f d M k) (clF f d) lv st G = some (none, G')
def CM (d M : Nat) (av : List Value) (L : List hCl) (s : Nat) (L' : List hCl) (s' : Nat) : Prop :=
  ∀ G, RepG G L s → ∃ G', RepG G' L' s' ∧ ∃ f0 : Nat, ∀ f, f0 ≤ f → hrun f d M 0 (lvOf M av) [] G = some (none, G')
section RU
variable {d M n c l k s s' : Nat} {os os' : List hOp} {lv lv' : List (Option Value)} {st : List Value} {L0 R L L' L2 : List hCl} {x : hCl} {q : List (Option Nat)} {f : Nat → Int32} {j : Nat → Int64}
theorem CM.of {av : List Value} (he : opsOf M = os) (hl : lvOf M av = lv) (h : RG d M os lv [] L s L' s') : CM d M av L s L' s' := by
  intro G hG
  obtain ⟨G', h1, f0, h2⟩ := h G hG
  refine ⟨G', h1, f0 + 1, fun f hf => ?_⟩
  obtain ⟨f, rfl⟩ : ∃ q, f = q + 1 := ⟨f - 1, by omega⟩
  rw [hrun_eq, List.drop_zero, he, hl]
  exact h2 f (by omega)
theorem rg_cast (e : L = L2) (h : RG d M os lv st L2 s L' s') : RG d M os lv st L s L' s' := by
  subst e
  exact h
/-- an instruction that leaves the heap -/
theorem rg_n {o : hOp} {st' : List Value} (h : ∀ (nx : hN) (jp : Nat → hN) (cl : Nat → List Value → hG → hR) (G : hG), o nx jp cl lv st G = nx lv' st' G) (k : RG d M os lv' st' L s L' s') : RG d M (o :: os) lv st L s L' s' := by
  intro G hG
  obtain ⟨G', h1, f0, h2⟩ := k G hG
  refine ⟨G', h1, f0, fun f hf => ?_⟩
  show o (exO os _ _) _ _ lv st G = _
  rw [h]
  exact h2 f hf
theorem rg_j {o : hOp} {t : Nat} {st' : List Value} (h : ∀ (nx : hN) (jp : Nat → hN) (cl : Nat → List Value → hG → hR) (G : hG), o nx jp cl lv st G = jp t lv' st' G) (he : (opsOf M).drop t = os') (k : RG d M os' lv' st' L s L' s') : RG d M (o :: os) lv st L s L' s' := by
  intro G hG
  obtain ⟨G', h1, f0, h2⟩ := k G hG
  refine ⟨G', h1, f0 + 1, fun f hf => ?_⟩
  obtain ⟨f, rfl⟩ : ∃ q, f = q + 1 := ⟨f - 1, by omega⟩
  show o (exO os _ _) _ _ lv st G = _
  rw [h, hrun_eq, he]
  exact h2 f (by omega)
theorem rg_ret : RG d M (oRetV :: os) lv [] L s L s := fun G hG => ⟨G, hG, 0, fun _ _ => rfl⟩
theorem rg_new {nf i : Nat} (hi : (L0 ++ x :: R).length = i) (h9 : i < 90000) (k : RG d M os lv (.ref i :: st) (L0 ++ x :: (R ++ [mkC c 0])) (s + nf) L' s') : RG d M (oNew c nf :: os) lv st (L0 ++ x :: R) s L' s' := by
  intro G hG
  have e : gn G = i := hG.1.trans hi
  have r := rep_new hG c 0 nf
  rw [List.append_assoc] at r
  obtain ⟨G', h1, f0, h2⟩ := k _ r
  refine ⟨G', h1, f0, fun f hf => ?_⟩
  show oNew c nf (exO os _ _) _ _ lv st G = _
  unfold oNew
  rw [if_pos (by rw [e]; exact h9), e]
  exact h2 f hf
theorem rg_newA {kd i m : Nat} {v : Int32} (hv : v = nI m) (hm : m < 100000) (hi : (L0 ++ x :: R).length = i) (h9 : i < 90000) (k : RG d M os lv (.ref i :: st) (L0 ++ x :: (R ++ [mkC kd m])) (s + m) L' s') : RG d M (oNewA kd :: os) lv (.int v :: st) (L0 ++ x :: R) s L' s' := by
  intro G hG
  subst hv
  have e : gn G = i := hG.1.trans hi
  have r := rep_new hG kd m m
  rw [List.append_assoc] at r
  obtain ⟨G', h1, f0, h2⟩ := k _ r
  refine ⟨G', h1, f0, fun f hf => ?_⟩
  show oNewA kd (exO os _ _) _ _ lv (.int (nI m) :: st) G = _
  unfold oNewA
  dsimp only
  rw [if_pos ⟨by rw [e]; exact h9, inb_nI hm (by omega)⟩, e, nI_clamp (by omega)]
  exact h2 f hf
theorem rg_putP {y : Nat} (hn : L0.length = n) (k' : RG d M os lv st (L0 ++ (c, l, setR q k (some y), f, j) :: R) s L' s') : RG d M (oPutP c k :: os) lv (.ref y :: .ref n :: st) (L0 ++ (c, l, q, f, j) :: R) s L' s' := by
  intro G hG
  subst hn
  obtain ⟨G', h1, f0, h2⟩ := k' _ (rep_P hG k (some y))
  refine ⟨G', h1, f0, fun f' hf => ?_⟩
  show oPutP c k (exO os _ _) _ _ lv (.ref y :: .ref L0.length :: st) G = _
  unfold oPutP
  dsimp only
  rw [if_pos (rep_at hG).1]
  exact h2 f' hf
theorem rg_putI {v : Int32} (hn : L0.length = n) (k' : RG d M os lv st (L0 ++ (c, l, q, upR f k v, j) :: R) s L' s') : RG d M (oPutI c k :: os) lv (.int v :: .ref n :: st) (L0 ++ (c, l, q, f, j) :: R) s L' s' := by
  intro G hG
  subst hn
  obtain ⟨G', h1, f0, h2⟩ := k' _ (rep_I hG k v)
  refine ⟨G', h1, f0, fun f' hf => ?_⟩
  show oPutI c k (exO os _ _) _ _ lv (.int v :: .ref L0.length :: st) G = _
  unfold oPutI
  dsimp only
  rw [if_pos (rep_at hG).1]
  exact h2 f' hf
theorem rg_getP {y : Nat} (hn : L0.length = n) (hq : q.getD k none = some y) (k' : RG d M os lv (.ref y :: st) (L0 ++ (c, l, q, f, j) :: R) s L' s') : RG d M (oGetP c k :: os) lv (.ref n :: st) (L0 ++ (c, l, q, f, j) :: R) s L' s' := by
  intro G hG
  subst hn
  obtain ⟨G', h1, f0, h2⟩ := k' _ hG
  refine ⟨G', h1, f0, fun f' hf => ?_⟩
  show oGetP c k (exO os _ _) _ _ lv (.ref L0.length :: st) G = _
  unfold oGetP
  dsimp only
  rw [if_pos (rep_at hG).1, (rep_at hG).2.2.1 k, hq]
  exact h2 f' hf
theorem rg_astI {v w : Int32} {i : Nat} (hv : w = nI i) (hi : i < l) (hl : l < 2 ^ 31) (hn : L0.length = n) (k' : RG d M os lv st (L0 ++ (13, l, q, upR f i v, j) :: R) s L' s') : RG d M (oAStI :: os) lv (.int v :: .int w :: .ref n :: st) (L0 ++ (13, l, q, f, j) :: R) s L' s' := by
  intro G hG
  subst hn
  subst hv
  obtain ⟨G', h1, f0, h2⟩ := k' _ (rep_I hG i v)
  refine ⟨G', h1, f0, fun f' hf => ?_⟩
  show oAStI (exO os _ _) _ _ lv (.int v :: .int (nI i) :: .ref L0.length :: st) G = _
  unfold oAStI
  dsimp only
  rw [if_pos ⟨(rep_at hG).1, by rw [(rep_at hG).2.1]; exact inb_nI hi hl⟩, nI_clamp (by omega)]
  exact h2 f' hf
theorem rg_astJ {v : Int64} {w : Int32} {i : Nat} (hv : w = nI i) (hi : i < l) (hl : l < 2 ^ 31) (hn : L0.length = n) (k' : RG d M os lv st (L0 ++ (14, l, q, f, upJ j i v) :: R) s L' s') : RG d M (oAStJ :: os) lv (.long v :: .int w :: .ref n :: st) (L0 ++ (14, l, q, f, j) :: R) s L' s' := by
  intro G hG
  subst hn
  subst hv
  obtain ⟨G', h1, f0, h2⟩ := k' _ (rep_J hG i v)
  refine ⟨G', h1, f0, fun f' hf => ?_⟩
  show oAStJ (exO os _ _) _ _ lv (.long v :: .int (nI i) :: .ref L0.length :: st) G = _
  unfold oAStJ
  dsimp only
  rw [if_pos ⟨(rep_at hG).1, by rw [(rep_at hG).2.1]; exact inb_nI hi hl⟩, nI_clamp (by omega)]
  exact h2 f' hf
theorem rg_astP {kd y i : Nat} {w : Int32} (hv : w = nI i) (hi : i < l) (hl : l < 2 ^ 31) (hn : L0.length = n) (hy : ((L0 ++ (kd, l, q, f, j) :: R).getD y clD).1 = c) (k' : RG d M os lv st (L0 ++ (kd, l, setR q i (some y), f, j) :: R) s L' s') : RG d M (oAStP kd c :: os) lv (.ref y :: .int w :: .ref n :: st) (L0 ++ (kd, l, q, f, j) :: R) s L' s' := by
  intro G hG
  subst hn
  subst hv
  obtain ⟨G', h1, f0, h2⟩ := k' _ (rep_P hG i (some y))
  refine ⟨G', h1, f0, fun f' hf => ?_⟩
  show oAStP kd c (exO os _ _) _ _ lv (.ref y :: .int (nI i) :: .ref L0.length :: st) G = _
  unfold oAStP
  dsimp only
  rw [if_pos ⟨(rep_at hG).1, by rw [(rep_at hG).2.1]; exact inb_nI hi hl, (hG.2.2 y).1.trans hy⟩, nI_clamp (by omega)]
  exact h2 f' hf
/-- a constructor is called on the newest cell -/
theorem rg_ctor {M' nn i s1 : Nat} {as rest : List Value} {T : List hCl} {y : hCl} (hi : (L0 ++ x :: R).length = i) (hs : st.drop nn = .ref i :: rest) (hA : (st.take nn).reverse = as) (hc : cats rest ≤ 8) (hM : M' < 286) (hl : (lArg (.ref i :: as)).length ≤ mlOf M') (hC : CM d M' (.ref i :: as) ((L0 ++ x :: R) ++ [mkC c 0]) s ((L0 ++ x :: R) ++ y :: T) s1) (k' : RG (d + 1) M os lv rest (L0 ++ x :: (R ++ y :: T)) s1 L' s') : RG (d + 1) M (oInvV M' c nn :: os) lv st (L0 ++ x :: (R ++ [mkC c 0])) s L' s' := by
  intro G hG
  have e : L0 ++ x :: (R ++ [mkC c 0]) = (L0 ++ x :: R) ++ [mkC c 0] := by rw [List.append_assoc]; rfl
  rw [e] at hG
  obtain ⟨G1, g1, f1, g2⟩ := hC G hG
  rw [List.append_assoc] at g1
  obtain ⟨G', h1, f0, h2⟩ := k' G1 g1
  refine ⟨G', h1, f0 + f1, fun f' hf => ?_⟩
  have hk : gk G i = c := by rw [← hi]; exact (rep_at hG).1
  show oInvV M' c nn (exO os _ _) _ _ lv st G = _
  unfold oInvV
  rw [hs]
  dsimp only
  rw [if_pos ⟨hk, hc⟩, hA]
  unfold clF
  dsimp only
  rw [if_pos ⟨hM, hl⟩, g2 f' (by omega)]
  exact h2 f' (by omega)
end RU
