/-! texts: both readers over one row -/
def faL (lg : Nat) : Nat := if lg = 0 then 251 else 249
def nfL (lg : Nat) : Nat := if lg = 0 then 7 else 38
/-- what a den rests on *)-/
def GD (lg : Nat) (den : Den) : Prop := (∀ f f', (∀ k, k < nfL lg → f k = f' k) → den f = den f') ∧ ∀ f v, (∀ k, k < nfL lg → f k ≠ BRK) → den f = some v → v ≠ BRK
theorem gd_num (lg : Nat) {m : Nat} (hm : m < 2 ^ 30) : GD lg (fun _ => some (nI m)) := ⟨fun _ _ _ => rfl, fun _ v _ h q => by
  injection h with h
  have : (0 : Int32) ≤ v := by rw [← h]; exact nI_pos' (by omega)
  rw [q] at this
  exact absurd this (by decide)⟩
theorem gd_fact {lg k : Nat} (hk : k < nfL lg) : GD lg (fun f => some (f k)) := ⟨fun f f' h => congrArg some (h k hk), fun f v h e => by
  injection e with e
  rw [← e]; exact h k hk⟩
theorem gd_bin {lg s : Nat} {d1 d2 : Den} (h1 : GD lg d1) (h2 : GD lg d2) : GD lg (binD s d1 d2) := by
  refine ⟨fun f f' h => ?_, fun f v h e => ?_⟩
  · unfold binD
    rw [h1.1 f f' h, h2.1 f f' h]
  · unfold binD at e
    cases q1 : d1 f with
    | none => rw [q1] at e; cases e
    | some l =>
      rw [q1] at e
      cases q2 : d2 f with
      | none => rw [q2] at e; cases e
      | some r => rw [q2] at e; exact jnF_b e
theorem t01_bin {s : Nat} (hs : 7 ≤ s ∧ s ≤ 9) (d1 d2 : Den) : t01 (binD s d1 d2) := fun f v e => by
  unfold binD at e
  cases q1 : d1 f with
  | none => rw [q1] at e; cases e
  | some l =>
    rw [q1] at e
    cases q2 : d2 f with
    | none => rw [q2] at e; cases e
    | some r =>
      rw [q2] at e
      have e : jnF s l r = some v := e
      have hh : s = 7 ∨ s = 8 ∨ s = 9 := by omega
      rcases hh with rfl | rfl | rfl
      · rw [jn7] at e; injection e with e; rw [← e]; split; exact Or.inl rfl; exact Or.inr rfl
      · rw [jn8] at e; injection e with e; rw [← e]; split; exact Or.inl rfl; exact Or.inr rfl
      · rw [jn9] at e; injection e with e; rw [← e]; split; exact Or.inr rfl; exact Or.inl rfl
theorem t01_not {d : Den} (h : t01 d) : t01 (notD d) := fun f v e => by
  unfold notD at e
  cases q : d f with
  | none => rw [q] at e; cases e
  | some x =>
    rw [q] at e
    injection e with e
    rw [← e]
    rcases h f x q with rfl | rfl
    · exact Or.inr rfl
    · exact Or.inl rfl
theorem t01_jmp {z : Int32} {d1 d2 : Den} (h1 : t01 d1) (h2 : t01 d2) : t01 (jmpD z d1 d2) := fun f v e => by
  unfold jmpD at e
  cases q : d1 f with
  | none => rw [q] at e; cases e
  | some x =>
    rw [q] at e
    have e : (if x = z then some x else d2 f) = some v := e
    by_cases w : x = z
    · rw [if_pos w] at e; injection e with e; rw [← e]; exact h1 f x q
    · rw [if_neg w] at e; exact h2 f v e
theorem b01 {v : Int32} (h : v = 0 ∨ v = 1) : v ≠ BRK := by rcases h with rfl | rfl <;> decide
theorem gd_not {lg : Nat} {d : Den} (h : GD lg d) (h0 : t01 d) : GD lg (notD d) :=
  ⟨fun f f' e => by unfold notD; rw [h.1 f f' e], fun f v _ e => b01 (t01_not h0 f v e)⟩
theorem gd_jmp {lg : Nat} {z : Int32} {d1 d2 : Den} (h1 : GD lg d1) (h2 : GD lg d2) : GD lg (jmpD z d1 d2) := by
  refine ⟨fun f f' e => by unfold jmpD; rw [h1.1 f f' e, h2.1 f f' e], fun f v hf e => ?_⟩
  unfold jmpD at e
  cases q : d1 f with
  | none => rw [q] at e; cases e
  | some x =>
    rw [q] at e
    have e : (if x = z then some x else d2 f) = some v := e
    by_cases w : x = z
    · rw [if_pos w] at e; injection e with e; rw [← e]; exact h1.2 f x hf q
    · rw [if_neg w] at e; exact h2.2 f v hf e
/-- the words the model knows -/
def hw (i : Nat) : Int64 := nL (hsh (wC i) (wN i))
def CoR (f : hG) : Prop := (∀ j, j < 7 → gJ f 382 j = hw (14 + j)) ∧ (∀ j, j < 7 → gJ f 383 j = hw ([18, 21, 22, 23, 24, 7, 16].getD j 0)) ∧ (∀ j, j < 2 → gJ f 384 j = hw j) ∧ (∀ j, j < 4 → gJ f 395 j = hw (6 + 2 * j)) ∧ ∀ j, j < 3 → gJ f 396 j = hw (7 + 2 * j)
theorem con_co {f : hG} (h : ConR f) : CoR f := by
  obtain ⟨-, h1, h2, h3, h4, h5⟩ := h
  have a1 : ∀ j, j < 7 → ([24, 25, 271592, 427481, 278194, 114052, 441828] : List Int64).getD j 0 = hw (14 + j) := by decide +kernel
  have a2 : ∀ j, j < 7 → ([278194, 146885, 404362868, 398548, 594980, 52, 271592] : List Int64).getD j 0 = hw ([18, 21, 22, 23, 24, 7, 16].getD j 0) := by decide +kernel
  have a3 : ∀ j, j < 2 → ([658552979, 8892563] : List Int64).getD j 0 = hw j := by decide +kernel
  have a4 : ∀ j, j < 4 → ([20456844, 18916965, 20459828, 525939] : List Int64).getD j 0 = hw (6 + 2 * j) := by decide +kernel
  have a5 : ∀ j, j < 3 → ([52, 655, 89] : List Int64).getD j 0 = hw (7 + 2 * j) := by decide +kernel
  exact ⟨fun j hj => (h1 j hj).trans (a1 j hj), fun j hj => (h2 j hj).trans (a2 j hj), fun j hj => (h3 j hj).trans (a3 j hj), fun j hj => (h4 j hj).trans (a4 j hj), fun j hj => (h5 j hj).trans (a5 j hj)⟩
theorem CoR.un {f f' : hG} (h : CoR f) (u : Un sPm f f') : CoR f' := by
  obtain ⟨h1, h2, h3, h4, h5⟩ := h
  exact ⟨fun j hj => (u.J (by rfl)).trans (h1 j hj), fun j hj => (u.J (by rfl)).trans (h2 j hj), fun j hj => (u.J (by rfl)).trans (h3 j hj), fun j hj => (u.J (by rfl)).trans (h4 j hj), fun j hj => (u.J (by rfl)).trans (h5 j hj)⟩
section JR
variable {B : Nat → Nat} {n t lg v1 st stt lo p pa dp sz : Nat} {tst : Bool} {g : hG}
/-- the model goes on, in step: code for den, some of it still on the pile -/
def MOk (B : Nat → Nat) (n lg v1 st stt lo p pa dp p' pa' : Nat) (tst : Bool) (den : Den) : Prop :=
  ∀ (K : hG → hO Unit) (L : Pi) (len : Nat) (f : hG), PM B n lg p pa dp L len f → CoR f → tb L < lo → (tst = true → ib L ≠ 32) →
    ∃ (s : Nat) (f' : hG) (pend : Pi) (len' : Nat), (1 ≤ s ∧ s ≤ 3 * (cnt (stB B) p' - cnt (stB B) p)) ∧ (∀ F, q_Mo_readExpression_12L (nI v1) K (F + s) (nI st) f = q_Mo_readExpression_12L (nI v1) K F (nI stt) f') ∧ PM B n lg p' pa' dp (pend ++ L) len' f' ∧ Un sPm f f' ∧ (∀ x, x ∈ pend → lo ≤ bd x.1 ∧ 20 ≤ x.1) ∧
      len < (sfF pend (gI f' 378, gI f' 379, len')).2.2 ∧ FrM lg (sfF pend (gI f' 378, gI f' 379, len')).1 (sfF pend (gI f' 378, gI f' 379, len')).2.1 len (sfF pend (gI f' 378, gI f' 379, len')).2.2 den ∧
      ∀ j, j < len → (sfF pend (gI f' 378, gI f' 379, len')).1 j = gI f 378 j ∧ (sfF pend (gI f' 378, gI f' 379, len')).2.1 j = gI f 379 j
/-- the model ends with a fault -/
def MNo (B : Nat → Nat) (n lg v1 st lo p pa dp q : Nat) (tst : Bool) : Prop :=
  ∀ (K : hG → hO Unit) (L : Pi) (len : Nat) (f : hG), PM B n lg p pa dp L len f → CoR f → tb L < lo → (tst = true → ib L ≠ 32) →
    ∃ (s : Nat) (f' : hG), (1 ≤ s ∧ s ≤ 3 * (cnt (stB B) q - cnt (stB B) p) + 3) ∧ (∀ F, q_Mo_readExpression_12L (nI v1) K (F + s) (nI st) f = K f') ∧ PF lg q f' ∧ Un sPm f f'
def JR (B : Nat → Nat) (n t lg v1 st stt lo p pa dp sz : Nat) (tst : Bool) (Q : Nat → Prop) (g : hG) (X : hO Int32) : Prop :=
  ∃ (b : Bool) (g' : hG) (p' sz' pa' : Nat), X = some (bI (b = true), g') ∧ Un (sRd t) g g' ∧ PC B n t lg p' sz' pa' g' ∧ cnt (stB B) p ≤ cnt (stB B) p' ∧ sz' + cnt (stB B) p ≤ sz + cnt (stB B) p' ∧ pa ≤ pa' ∧
    (b = true → cnt (stB B) p < cnt (stB B) p' ∧ Q (tkF B n p') ∧ (∀ j, j < sz → gI g' (t + 1) j = gI g (t + 1) j) ∧ ∃ (den : Den) (k : Nat), FrC (faL lg) (gI g' (t + 1)) sz sz' k den ∧ k + pa ≤ pa' ∧ (tst = true → t01 den) ∧ GD lg den ∧ MOk B n lg v1 st stt lo p pa dp p' pa' tst den) ∧
    (b = false → MNo B n lg v1 st lo p pa dp p' tst)
/-- one step of the model's loop -/
theorem lp_s (K : hG → hO Unit) (F : Nat) {f : hG} (h19 : gI f 367 19 = 0) (st : Nat) (hst : st < 4) : q_Mo_readExpression_12L (nI v1) K (F + 1) (nI st) f = (bnd (if st = 0 then q_Mo_readPlain f else if st = 1 then q_Mo_readPart f else if st = 3 then q_Mo_behindSum (nI v1) f else q_Mo_behindTest f) fun r g => q_Mo_readExpression_12L (nI v1) K F r g) := by
  rw [q_Mo_readExpression_12L_s]
  unfold q_Mo_readExpression_12
  have hs : st = 0 ∨ st = 1 ∨ st = 2 ∨ st = 3 := by omega
  rcases hs with rfl | rfl | rfl | rfl
  · rw [if_pos h19, if_neg (show ¬ nI 0 = 4 by decide), if_pos (show nI 0 = 0 from rfl), if_pos (show 0 = 0 from rfl)]
  · rw [if_pos h19, if_neg (show ¬ nI 1 = 4 by decide), if_neg (show ¬ nI 1 = 0 by decide), if_pos (show nI 1 = 1 from rfl), if_neg (show ¬ 1 = 0 by decide), if_pos (show 1 = 1 from rfl)]
  · rw [if_pos h19, if_neg (show ¬ nI 2 = 4 by decide), if_neg (show ¬ nI 2 = 0 by decide), if_neg (show ¬ nI 2 = 1 by decide), if_neg (show ¬ nI 2 = 3 by decide), if_neg (show ¬ 2 = 0 by decide), if_neg (show ¬ 2 = 1 by decide), if_neg (show ¬ 2 = 3 by decide)]
  · rw [if_pos h19, if_neg (show ¬ nI 3 = 4 by decide), if_neg (show ¬ nI 3 = 0 by decide), if_neg (show ¬ nI 3 = 1 by decide), if_pos (show nI 3 = 3 from rfl), if_neg (show ¬ 3 = 0 by decide), if_neg (show ¬ 3 = 1 by decide), if_pos (show 3 = 3 from rfl)]
theorem lp_f (K : hG → hO Unit) (F : Nat) {f : hG} (h19 : gI f 367 19 = 1) (x : Int32) : q_Mo_readExpression_12L (nI v1) K (F + 1) x f = K f := by
  rw [q_Mo_readExpression_12L_s]
  unfold q_Mo_readExpression_12
  rw [if_neg (by rw [h19]; decide)]
end JR
