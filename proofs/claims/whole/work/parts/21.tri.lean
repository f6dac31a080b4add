/-! the frozen shape: kinds, lengths, references of the 399 cells behind the two constructors -/
def K0 : List Nat := [11, 1, 2, 13, 13, 13, 13, 13, 13, 18, 9, 13, 13, 13, 13, 13, 13, 9, 13, 13, 13, 13, 13, 13, 9, 13, 13, 13, 13, 13, 13, 9, 13, 13, 13, 13, 13, 13, 9, 13, 13, 13, 13, 13, 13, 9, 13, 13, 13, 13, 13, 13, 16, 15, 4, 17, 13, 2, 13, 13,
  13, 13, 2, 13, 13, 13, 13, 2, 13, 13, 13, 13, 2, 13, 13, 13, 13, 2, 13, 13, 13, 13, 2, 13, 13, 13, 13, 2, 13, 13, 13, 13, 2, 13, 13, 13, 13, 2, 13, 13, 13, 13, 2, 13, 13, 13, 13, 2, 13, 13, 13, 13, 2, 13, 13, 13, 13, 2, 13, 13,
  13, 13, 2, 13, 13, 13, 13, 2, 13, 13, 13, 13, 2, 13, 13, 13, 13, 4, 17, 13, 2, 13, 13, 13, 13, 2, 13, 13, 13, 13, 2, 13, 13, 13, 13, 2, 13, 13, 13, 13, 2, 13, 13, 13, 13, 2, 13, 13, 13, 13, 2, 13, 13, 13, 13, 2, 13, 13, 13, 13,
  2, 13, 13, 13, 13, 2, 13, 13, 13, 13, 2, 13, 13, 13, 13, 2, 13, 13, 13, 13, 2, 13, 13, 13, 13, 2, 13, 13, 13, 13, 2, 13, 13, 13, 13, 2, 13, 13, 13, 13, 2, 13, 13, 13, 13, 2, 13, 13, 13, 13, 2, 13, 13, 13, 13, 8, 13, 13, 13, 5,
  9, 13, 13, 13, 13, 13, 13, 0, 13, 13, 6, 13, 13, 13, 7, 13, 13, 13, 13, 13, 10, 13, 14, 3, 13, 1, 2, 13, 13, 13, 13, 13, 13, 18, 9, 13, 13, 13, 13, 13, 13, 9, 13, 13, 13, 13, 13, 13, 9, 13, 13, 13, 13, 13, 13, 9, 13, 13, 13, 13,
  13, 13, 9, 13, 13, 13, 13, 13, 13, 9, 13, 13, 13, 13, 13, 13, 1, 2, 13, 13, 13, 13, 13, 13, 18, 9, 13, 13, 13, 13, 13, 13, 9, 13, 13, 13, 13, 13, 13, 9, 13, 13, 13, 13, 13, 13, 9, 13, 13, 13, 13, 13, 13, 9, 13, 13, 13, 13, 13, 13,
  9, 13, 13, 13, 13, 13, 13, 12, 13, 13, 13, 15, 13, 13, 13, 13, 13, 13, 13, 13, 13, 13, 14, 14, 14, 14, 14, 14, 13, 13, 13, 13, 15, 13, 14, 14, 14, 13, 13]
def L0 : List Nat := [0, 0, 0, 8, 8, 8, 25, 6, 6, 6, 0, 402, 12, 12, 12, 12, 12, 0, 402, 12, 12, 12, 12, 12, 0, 402, 12, 12, 12, 12, 12, 0, 402, 12, 12, 12, 12, 12, 0, 402, 12, 12, 12, 12, 12, 0, 402, 12, 12, 12, 12, 12, 2, 2, 0, 16, 16, 0, 8, 8,
  8, 25, 0, 8, 8, 8, 25, 0, 8, 8, 8, 25, 0, 8, 8, 8, 25, 0, 8, 8, 8, 25, 0, 8, 8, 8, 25, 0, 8, 8, 8, 25, 0, 8, 8, 8, 25, 0, 8, 8, 8, 25, 0, 8, 8, 8, 25, 0, 8, 8, 8, 25, 0, 8, 8, 8, 25, 0, 8, 8,
  8, 25, 0, 8, 8, 8, 25, 0, 8, 8, 8, 25, 0, 8, 8, 8, 25, 0, 16, 16, 0, 8, 8, 8, 25, 0, 8, 8, 8, 25, 0, 8, 8, 8, 25, 0, 8, 8, 8, 25, 0, 8, 8, 8, 25, 0, 8, 8, 8, 25, 0, 8, 8, 8, 25, 0, 8, 8, 8, 25,
  0, 8, 8, 8, 25, 0, 8, 8, 8, 25, 0, 8, 8, 8, 25, 0, 8, 8, 8, 25, 0, 8, 8, 8, 25, 0, 8, 8, 8, 25, 0, 8, 8, 8, 25, 0, 8, 8, 8, 25, 0, 8, 8, 8, 25, 0, 8, 8, 8, 25, 0, 8, 8, 8, 25, 0, 400, 401, 401, 0,
  0, 402, 12, 12, 12, 12, 12, 0, 50, 38, 0, 7, 25, 8, 0, 25, 25, 25, 8, 8, 0, 248, 20, 0, 7, 0, 0, 8, 8, 8, 25, 6, 6, 6, 0, 402, 12, 12, 12, 12, 12, 0, 402, 12, 12, 12, 12, 12, 0, 402, 12, 12, 12, 12, 12, 0, 402, 12, 12, 12,
  12, 12, 0, 402, 12, 12, 12, 12, 12, 0, 402, 12, 12, 12, 12, 12, 0, 0, 8, 8, 8, 25, 6, 6, 6, 0, 402, 12, 12, 12, 12, 12, 0, 402, 12, 12, 12, 12, 12, 0, 402, 12, 12, 12, 12, 12, 0, 402, 12, 12, 12, 12, 12, 0, 402, 12, 12, 12, 12, 12,
  0, 402, 12, 12, 12, 12, 12, 0, 7, 5468, 10936, 2, 936, 16, 832, 16, 400, 96, 400, 400, 400, 400, 7, 7, 2, 13, 13, 400, 25, 25, 8, 9, 64, 248, 21, 4, 3, 96, 52]
def P0 : List (List (Option Nat)) := [[some 1, some 2, some 52, some 53, some 54, some 137, some 220, some 225, some 230, none, some 235, some 239, some 240, some 247, some 249, some 250, some 254, some 260, some 262, some 263], [some 2, none, none, none, some 7, some 8, none, some 9], [some 3, some 4, some 5, some 6], [], [], [], [], [], [], [some 10, some 17, some 24, some 31, some 38, some 45], [some 11, none, none, some 12, some 13, some 14, some 15, some 16], [],
  [], [], [], [], [], [some 18, none, none, some 19, some 20, some 21, some 22, some 23], [], [], [], [], [], [],
  [some 25, none, none, some 26, some 27, some 28, some 29, some 30], [], [], [], [], [], [], [some 32, none, none, some 33, some 34, some 35, some 36, some 37], [], [], [], [],
  [], [], [some 39, none, none, some 40, some 41, some 42, some 43, some 44], [], [], [], [], [], [], [some 46, none, none, some 47, some 48, some 49, some 50, some 51], [], [],
  [], [], [], [], [some 265, some 316], [], [some 55, some 56], [some 57, some 62, some 67, some 72, some 77, some 82, some 87, some 92, some 97, some 102, some 107, some 112, some 117, some 122, some 127, some 132], [], [some 58, some 59, some 60, some 61], [], [],
  [], [], [some 63, some 64, some 65, some 66], [], [], [], [], [some 68, some 69, some 70, some 71], [], [], [], [],
  [some 73, some 74, some 75, some 76], [], [], [], [], [some 78, some 79, some 80, some 81], [], [], [], [], [some 83, some 84, some 85, some 86], [],
  [], [], [], [some 88, some 89, some 90, some 91], [], [], [], [], [some 93, some 94, some 95, some 96], [], [], [],
  [], [some 98, some 99, some 100, some 101], [], [], [], [], [some 103, some 104, some 105, some 106], [], [], [], [], [some 108, some 109, some 110, some 111],
  [], [], [], [], [some 113, some 114, some 115, some 116], [], [], [], [], [some 118, some 119, some 120, some 121], [], [],
  [], [], [some 123, some 124, some 125, some 126], [], [], [], [], [some 128, some 129, some 130, some 131], [], [], [], [],
  [some 133, some 134, some 135, some 136], [], [], [], [], [some 138, some 139], [some 140, some 145, some 150, some 155, some 160, some 165, some 170, some 175, some 180, some 185, some 190, some 195, some 200, some 205, some 210, some 215], [], [some 141, some 142, some 143, some 144], [], [], [],
  [], [some 146, some 147, some 148, some 149], [], [], [], [], [some 151, some 152, some 153, some 154], [], [], [], [], [some 156, some 157, some 158, some 159],
  [], [], [], [], [some 161, some 162, some 163, some 164], [], [], [], [], [some 166, some 167, some 168, some 169], [], [],
  [], [], [some 171, some 172, some 173, some 174], [], [], [], [], [some 176, some 177, some 178, some 179], [], [], [], [],
  [some 181, some 182, some 183, some 184], [], [], [], [], [some 186, some 187, some 188, some 189], [], [], [], [], [some 191, some 192, some 193, some 194], [],
  [], [], [], [some 196, some 197, some 198, some 199], [], [], [], [], [some 201, some 202, some 203, some 204], [], [], [],
  [], [some 206, some 207, some 208, some 209], [], [], [], [], [some 211, some 212, some 213, some 214], [], [], [], [], [some 216, some 217, some 218, some 219],
  [], [], [], [], [some 221, some 222, some 223, some 224], [], [], [], [], [some 226, some 227, some 228, some 229], [], [],
  [], [], [some 231, some 232, some 233, some 234], [], [], [], [], [some 236, none, some 237, some 238], [], [], [], [some 235],
  [some 241, none, none, some 242, some 243, some 244, some 245, some 246], [], [], [], [], [], [], [some 248], [], [], [some 247, some 251, some 252, some 253, some 1], [],
  [], [], [some 255, some 256, some 257, some 258, some 259], [], [], [], [], [], [some 261], [], [], [some 264],
  [], [some 266, none, none, none, some 271, some 272, none, some 273], [some 267, some 268, some 269, some 270], [], [], [], [], [], [], [some 274, some 281, some 288, some 295, some 302, some 309], [some 275, none, none, some 276, some 277, some 278, some 279, some 280], [],
  [], [], [], [], [], [some 282, none, none, some 283, some 284, some 285, some 286, some 287], [], [], [], [], [], [],
  [some 289, none, none, some 290, some 291, some 292, some 293, some 294], [], [], [], [], [], [], [some 296, none, none, some 297, some 298, some 299, some 300, some 301], [], [], [], [],
  [], [], [some 303, none, none, some 304, some 305, some 306, some 307, some 308], [], [], [], [], [], [], [some 310, none, none, some 311, some 312, some 313, some 314, some 315], [], [],
  [], [], [], [], [some 317, none, none, none, some 322, some 323, none, some 324], [some 318, some 319, some 320, some 321], [], [], [], [], [], [],
  [some 325, some 332, some 339, some 346, some 353, some 360], [some 326, none, none, some 327, some 328, some 329, some 330, some 331], [], [], [], [], [], [], [some 333, none, none, some 334, some 335, some 336, some 337, some 338], [], [], [],
  [], [], [], [some 340, none, none, some 341, some 342, some 343, some 344, some 345], [], [], [], [], [], [], [some 347, none, none, some 348, some 349, some 350, some 351, some 352], [],
  [], [], [], [], [], [some 354, none, none, some 355, some 356, some 357, some 358, some 359], [], [], [], [], [], [],
  [some 361, none, none, some 362, some 363, some 364, some 365, some 366], [], [], [], [], [], [], [none, none, some 368, some 369, some 370, some 371, some 372, some 373, none, some 374, some 375, none, some 376, none, none, none, none, none, none, none, none, none, some 377, none, some 378, some 379, none, some 380, some 381, none, none, some 382, some 383, some 384, none, some 385, some 386, some 387, none, none, none, some 388, some 389, some 390, some 391, some 392, some 393, some 394, some 395, some 396, some 397, none, none, none, none, none, some 398], [], [], [], [],
  [], [], [], [], [], [], [], [], [], [], [], [],
  [], [], [], [], [], [], [], [], [], [], [], [],
  [], [], []]
/-! SHALLOW FUNCTIONS: what a method does, as a function of numbers and of the heap; and that the plain machine answers so. -/
abbrev hO (α : Type) : Type := Option (α × hG)
def wr {α : Type} (g : hG) (k : hG → hO α) : hO α := k g
def gd {α : Type} (i : Int32) (n : Nat) (Y : hO α) : hO α := if inb i n then Y else none
def gz {α : Type} (y : Int32) (Y : hO α) : hO α := if y = 0 then none else Y
def gzL {α : Type} (y : Int64) (Y : hO α) : hO α := if y = 0 then none else Y
def gb {α : Type} (x : Int32) (Y : hO α) : hO α := if x = 0 ∨ x = 1 then Y else none
def bnd {α β : Type} (Y : hO α) (k : α → hG → hO β) : hO β := match Y with
  | some q => k q.1 q.2
  | none => none
def gp {α : Type} (f : Nat → Bool) (p : Option Nat) (Y : Nat → hO α) : hO α := match p with
  | some a => if f a = true then Y a else none
  | none => none
def wI (x : Int32) : Option Value := some (.int x)
def wJ (x : Int64) : Option Value := some (.long x)
def wU (_ : Unit) : Option Value := none
-- the frozen shape: kinds, lengths, references but three
def fzM (a k : Nat) : Bool := (a == 239 && k == 1) || (a == 250 && k == 5)
def Frz (G : hG) : Prop := gn G = 399 ∧ gs G = 34255 ∧ (∀ a, gk G a = K0.getD a 99) ∧ (∀ a, gl G a = L0.getD a 0) ∧ ∀ a k, fzM a k = false → gP G a k = (P0.getD a []).getD k none
def clF (f d : Nat) : Nat → List Value → hG → hR := fun M' av G => match d with
    | 0 => none
    | d' + 1 => if M' < 286 ∧ (lArg av).length ≤ mlOf M' then hrun f d' M' 0 (lvOf M' av) [] G else none
theorem hrun_eq (f d M i : Nat) (lv : List (Option Value)) (st : List Value) (G : hG) : hrun (f + 1) d M i lv st G = exO ((opsOf M).drop i) (fun k => hrun f d M k) (clF f d) lv st G := by
  rw [hrun]
  rfl
def Tri {α : Type} (w : α → Option Value) (d M : Nat) (os : List hOp) (lv : List (Option Value)) (st : List Value) (G : hG) (X : hO α) : Prop :=
  ∀ r G', X = some (r, G') → (∃ f0 : Nat, ∀ f, f0 ≤ f → exO os (fun k => hrun f d M k) (clF f d) lv st G = some (w r, G')) ∧ Frz G'
def TM {α : Type} (w : α → Option Value) (d M : Nat) (av : List Value) (G : hG) (X : hO α) : Prop :=
  ∀ r G', X = some (r, G') → (∃ f0 : Nat, ∀ f, f0 ≤ f → hrun f d M 0 (lvOf M av) [] G = some (w r, G')) ∧ Frz G'
section T
variable {α : Type} {w : α → Option Value} {d M : Nat} {os : List hOp} {lv lv' : List (Option Value)} {st : List Value} {G : hG} {X Y : hO α}
theorem Tri.next {o : hOp} {st' : List Value} {G1 : hG} (h : ∀ (nx : hN) (jp : Nat → hN) (cl : Nat → List Value → hG → hR), o nx jp cl lv st G = nx lv' st' G1) (k : Tri w d M os lv' st' G1 X) : Tri w d M (o :: os) lv st G X := by
  intro r G' hX
  obtain ⟨⟨f0, h0⟩, h1⟩ := k r G' hX
  exact ⟨⟨f0, fun f hf => by show o (exO os _ _) _ _ lv st G = _; rw [h]; exact h0 f hf⟩, h1⟩
theorem Tri.jump {o : hOp} {t : Nat} {st' : List Value} (h : ∀ (nx : hN) (jp : Nat → hN) (cl : Nat → List Value → hG → hR), o nx jp cl lv st G = jp t lv st' G) (k : Tri w d M ((opsOf M).drop t) lv st' G X) : Tri w d M (o :: os) lv st G X := by
  intro r G' hX
  obtain ⟨⟨f0, h0⟩, h1⟩ := k r G' hX
  refine ⟨⟨f0 + 1, fun f hf => ?_⟩, h1⟩
  show o (exO os _ _) _ _ lv st G = _
  rw [h]
  obtain ⟨f', rfl⟩ : ∃ f', f = f' + 1 := ⟨f - 1, by omega⟩
  rw [hrun_eq]
  -- the callees' fuel falls by one with the jump
  exact h0 f' (by omega)
theorem Tri.none_ : Tri w d M os lv st G none := fun r G' h => by cases h
theorem tr_if {c : Prop} [Decidable c] (h1 : c → Tri w d M os lv st G X) (h2 : ¬ c → Tri w d M os lv st G Y) : Tri w d M os lv st G (if c then X else Y) := by
  by_cases h : c
  · rw [if_pos h]; exact h1 h
  · rw [if_neg h]; exact h2 h
theorem tr_pushI {v : Int32} (k : Tri w d M os lv (.int v :: st) G X) : Tri w d M (oPushI v :: os) lv st G X := Tri.next (fun _ _ _ => rfl) k
theorem tr_pushL {v : Int64} (k : Tri w d M os lv (.long v :: st) G X) : Tri w d M (oPushL v :: os) lv st G X := Tri.next (fun _ _ _ => rfl) k
theorem tr_pushF (k : Tri w d M os lv (.float 0 :: st) G X) : Tri w d M (oPushF :: os) lv st G X := Tri.next (fun _ _ _ => rfl) k
theorem tr_pushR {v : Nat} (k : Tri w d M os lv (.ref v :: st) G X) : Tri w d M (oPushR v :: os) lv st G X := Tri.next (fun _ _ _ => rfl) k
theorem tr_ldI {i : Nat} {x : Int32} (h : lv[i]? = some (some (.int x))) (k : Tri w d M os lv (.int x :: st) G X) : Tri w d M (oLdI i :: os) lv st G X := Tri.next (fun _ _ _ => by unfold oLdI; rw [h]) k
theorem tr_ldL {i : Nat} {x : Int64} (h : lv[i]? = some (some (.long x))) (k : Tri w d M os lv (.long x :: st) G X) : Tri w d M (oLdL i :: os) lv st G X := Tri.next (fun _ _ _ => by unfold oLdL; rw [h]) k
theorem tr_ldA {i x : Nat} (h : lv[i]? = some (some (.ref x))) (k : Tri w d M os lv (.ref x :: st) G X) : Tri w d M (oLdA i :: os) lv st G X := Tri.next (fun _ _ _ => by unfold oLdA; rw [h]) k
theorem tr_stI {i : Nat} {x : Int32} (hi : i < lv.length) (hk : lKill lv i = lv) (hs : lv.set i (some (.int x)) = lv') (k : Tri w d M os lv' st G X) : Tri w d M (oStI i :: os) lv (.int x :: st) G X := Tri.next (fun _ _ _ => by unfold oStI lSt1; dsimp only; rw [if_pos hi, hk, hs]) k
theorem tr_stA {i x : Nat} (hi : i < lv.length) (hk : lKill lv i = lv) (hs : lv.set i (some (.ref x)) = lv') (k : Tri w d M os lv' st G X) : Tri w d M (oStA i :: os) lv (.ref x :: st) G X := Tri.next (fun _ _ _ => by unfold oStA lSt1; dsimp only; rw [if_pos hi, hk, hs]) k
theorem tr_stL {i : Nat} {x : Int64} (hi : i + 1 < lv.length) (hk : lKill lv i = lv) (hs : (lv.set i (some (.long x))).set (i + 1) none = lv') (k : Tri w d M os lv' st G X) : Tri w d M (oStL i :: os) lv (.long x :: st) G X := Tri.next (fun _ _ _ => by unfold oStL lSt2; dsimp only; rw [if_pos hi, hk, hs]) k
theorem tr_inc {i : Nat} {x n : Int32} (h : lv[i]? = some (some (.int x))) (hk : lKill lv i = lv) (hs : lv.set i (some (.int (x + n))) = lv') (k : Tri w d M os lv' st G X) : Tri w d M (oInc i n :: os) lv st G X := Tri.next (fun _ _ _ => by unfold oInc lSt1; rw [h]; dsimp only; rw [hk, hs]) k
theorem lKill_id {i : Nat} (h : isL lv[i]? = false) : lKill lv (i + 1) = lv := by
  unfold lKill
  dsimp only
  rw [h]
  rfl
theorem tr_bin {f : Int32 → Int32 → Int32} {x y v : Int32} (h : f x y = v) (k : Tri w d M os lv (.int v :: st) G X) : Tri w d M (oBin f :: os) lv (.int y :: .int x :: st) G X := Tri.next (fun _ _ _ => by subst h; rfl) k
theorem tr_lbin {f : Int64 → Int64 → Int64} {x y v : Int64} (h : f x y = v) (k : Tri w d M os lv (.long v :: st) G X) : Tri w d M (oLBin f :: os) lv (.long y :: .long x :: st) G X := Tri.next (fun _ _ _ => by subst h; rfl) k
theorem tr_dvd {f : Int32 → Int32 → Int32} {x y v : Int32} (h : f x y = v) (k : ¬ y = 0 → Tri w d M os lv (.int v :: st) G Y) : Tri w d M (oDvd f :: os) lv (.int y :: .int x :: st) G (gz y Y) := by
  unfold gz
  by_cases z : y = 0
  · rw [if_pos z]; exact Tri.none_
  · rw [if_neg z]; exact Tri.next (fun _ _ _ => by subst h; unfold oDvd; dsimp only; rw [if_neg z]) (k z)
theorem tr_ldvd {f : Int64 → Int64 → Int64} {x y v : Int64} (h : f x y = v) (k : ¬ y = 0 → Tri w d M os lv (.long v :: st) G Y) : Tri w d M (oLDvd f :: os) lv (.long y :: .long x :: st) G (gzL y Y) := by
  unfold gzL
  by_cases z : y = 0
  · rw [if_pos z]; exact Tri.none_
  · rw [if_neg z]; exact Tri.next (fun _ _ _ => by subst h; unfold oLDvd; dsimp only; rw [if_neg z]) (k z)
theorem tr_neg {x : Int32} (k : Tri w d M os lv (.int (-x) :: st) G X) : Tri w d M (oNeg :: os) lv (.int x :: st) G X := Tri.next (fun _ _ _ => rfl) k
theorem tr_i2l {x : Int32} (k : Tri w d M os lv (.long x.toInt64 :: st) G X) : Tri w d M (oI2L :: os) lv (.int x :: st) G X := Tri.next (fun _ _ _ => rfl) k
theorem tr_l2i {x : Int64} (k : Tri w d M os lv (.int x.toInt32 :: st) G X) : Tri w d M (oL2I :: os) lv (.long x :: st) G X := Tri.next (fun _ _ _ => rfl) k
theorem tr_i2c {x : Int32} (k : inb x 256 → Tri w d M os lv (.int x :: st) G Y) : Tri w d M (oI2C :: os) lv (.int x :: st) G (gd x 256 Y) := by
  unfold gd
  by_cases z : inb x 256
  · rw [if_pos z]; exact Tri.next (fun _ _ _ => by unfold oI2C; dsimp only; rw [if_pos z]) (k z)
  · rw [if_neg z]; exact Tri.none_
theorem tr_lcmp {x y : Int64} (k : Tri w d M os lv (.int (lg_cmp x y) :: st) G X) : Tri w d M (oLCmp :: os) lv (.long y :: .long x :: st) G X := Tri.next (fun _ _ _ => rfl) k
theorem tr_pop {x : Int32} (k : Tri w d M os lv st G X) : Tri w d M (oPop :: os) lv (.int x :: st) G X := Tri.next (fun _ _ _ => rfl) k
theorem tr_dupI {x : Int32} (k : Tri w d M os lv (.int x :: .int x :: st) G X) : Tri w d M (oDup :: os) lv (.int x :: st) G X := Tri.next (fun _ _ _ => rfl) k
theorem tr_dupA {x : Nat} (k : Tri w d M os lv (.ref x :: .ref x :: st) G X) : Tri w d M (oDup :: os) lv (.ref x :: st) G X := Tri.next (fun _ _ _ => rfl) k
theorem tr_dup2 {x : Int32} {y : Nat} (k : Tri w d M os lv (.int x :: .ref y :: .int x :: .ref y :: st) G X) : Tri w d M (oDup2 :: os) lv (.int x :: .ref y :: st) G X := Tri.next (fun _ _ _ => rfl) k
theorem tr_goto {t : Nat} (k : Tri w d M ((opsOf M).drop t) lv st G X) : Tri w d M (oGoto t :: os) lv st G X := Tri.jump (fun _ _ _ => rfl) k
/-- a branch over one goal: whither is told by the condition -/
theorem tr_ifc {c : Int32 → Int32 → Bool} {t : Nat} {x y : Int32} {p : Prop} (hp : (c x y = true) = p) (kt : p → Tri w d M ((opsOf M).drop t) lv st G X) (kf : ¬ p → Tri w d M os lv st G X) : Tri w d M (oIf c t :: os) lv (.int y :: .int x :: st) G X := by
  subst hp
  by_cases z : c x y = true
  · exact Tri.jump (fun _ _ _ => by unfold oIf; dsimp only; rw [if_pos z]) (kt z)
  · exact Tri.next (fun _ _ _ => by unfold oIf; dsimp only; rw [if_neg z]) (kf z)
theorem tr_if0c {c : Int32 → Int32 → Bool} {t : Nat} {x : Int32} {p : Prop} (hp : (c x 0 = true) = p) (kt : p → Tri w d M ((opsOf M).drop t) lv st G X) (kf : ¬ p → Tri w d M os lv st G X) : Tri w d M (oIf0 c t :: os) lv (.int x :: st) G X := by
  subst hp
  by_cases z : c x 0 = true
  · exact Tri.jump (fun _ _ _ => by unfold oIf0; dsimp only; rw [if_pos z]) (kt z)
  · exact Tri.next (fun _ _ _ => by unfold oIf0; dsimp only; rw [if_neg z]) (kf z)
theorem tr_ifx {c : Int32 → Int32 → Bool} {t : Nat} {x y : Int32} {p : Prop} [Decidable p] (hp : (c x y = true) = p) (kt : p → Tri w d M ((opsOf M).drop t) lv st G X) (kf : ¬ p → Tri w d M os lv st G Y) : Tri w d M (oIf c t :: os) lv (.int y :: .int x :: st) G (if p then X else Y) :=
  tr_ifc hp (fun h => by rw [if_pos h]; exact kt h) (fun h => by rw [if_neg h]; exact kf h)
theorem tr_if0x {c : Int32 → Int32 → Bool} {t : Nat} {x : Int32} {p : Prop} [Decidable p] (hp : (c x 0 = true) = p) (kt : p → Tri w d M ((opsOf M).drop t) lv st G X) (kf : ¬ p → Tri w d M os lv st G Y) : Tri w d M (oIf0 c t :: os) lv (.int x :: st) G (if p then X else Y) :=
  tr_if0c hp (fun h => by rw [if_pos h]; exact kt h) (fun h => by rw [if_neg h]; exact kf h)
theorem c_eq (x y : Int32) : (cEq x y = true) = (x = y) := by simp [cEq]
theorem c_ne (x y : Int32) : (cNe x y = true) = (¬ x = y) := by simp [cNe]
theorem c_lt (x y : Int32) : (cLt x y = true) = (x < y) := by simp [cLt]
theorem c_ge (x y : Int32) : (cGe x y = true) = (y ≤ x) := by simp [cGe]
theorem c_gt (x y : Int32) : (cGt x y = true) = (y < x) := by simp [cGt]
theorem c_le (x y : Int32) : (cLe x y = true) = (x ≤ y) := by simp [cLe]
theorem tr_sw0 {lo : Int} {df : Nat} {x : Int32} (k : Tri w d M ((opsOf M).drop df) lv st G X) : Tri w d M (oSw lo [] df :: os) lv (.int x :: st) G X := Tri.jump (t := df) (st' := st) (fun _ _ _ => by unfold oSw; dsimp only; split <;> simp) k
theorem tr_sw1 {lo : Int} {t df : Nat} {ts : List Nat} {x c : Int32} (hc : c.toInt = lo) (kt : x = c → Tri w d M ((opsOf M).drop t) lv st G X) (kf : ¬ x = c → Tri w d M (oSw (lo + 1) ts df :: os) lv (.int x :: st) G Y) : Tri w d M (oSw lo (t :: ts) df :: os) lv (.int x :: st) G (if x = c then X else Y) := by
  by_cases z : x = c
  · rw [if_pos z]
    refine Tri.jump (t := t) (st' := st) (fun _ _ _ => ?_) (kt z)
    subst z
    unfold oSw
    dsimp only
    rw [if_neg (by rw [hc, List.length_cons]; omega), hc, Int.sub_self]
    rfl
  · rw [if_neg z]
    have hz : x.toInt ≠ lo := fun q => z (Int32.toInt_inj.mp (q.trans hc.symm))
    intro r G' hX
    obtain ⟨⟨f0, h0⟩, h1⟩ := kf z r G' hX
    refine ⟨⟨f0, fun f hf => ?_⟩, h1⟩
    rw [← h0 f hf]
    show oSw lo (t :: ts) df _ _ _ _ _ _ = oSw (lo + 1) ts df _ _ _ _ _ _
    unfold oSw
    dsimp only
    by_cases q : x.toInt < lo ∨ lo + (t :: ts).length ≤ x.toInt
    · rw [if_pos q, if_pos (by rw [List.length_cons] at q; omega)]
    · rw [if_neg q, if_neg (by rw [List.length_cons] at q; omega)]
      have e : (x.toInt - lo).toNat = (x.toInt - (lo + 1)).toNat + 1 := by omega
      rw [e, List.getD_cons_succ]
theorem Tri.ret {r : α} {o : hOp} (h : ∀ (nx : hN) (jp : Nat → hN) (cl : Nat → List Value → hG → hR), o nx jp cl lv st G = some (w r, G)) (hG : Frz G) : Tri w d M (o :: os) lv st G (some (r, G)) := by
  intro r' G' hX
  cases hX
  exact ⟨⟨0, fun f _ => h _ _ _⟩, hG⟩
theorem tr_retI {x : Int32} (hG : Frz G) : Tri wI d M (oRetI :: os) lv [.int x] G (some (x, G)) := Tri.ret (fun _ _ _ => rfl) hG
theorem tr_retL {x : Int64} (hG : Frz G) : Tri wJ d M (oRetL :: os) lv [.long x] G (some (x, G)) := Tri.ret (fun _ _ _ => rfl) hG
theorem tr_retV (hG : Frz G) : Tri wU d M (oRetV :: os) lv [] G (some ((), G)) := Tri.ret (fun _ _ _ => rfl) hG
theorem tr_retZ {x : Int32} (hG : Frz G) : Tri wI d M (oRetZ :: os) lv [.int x] G (gb x (some (x, G))) := by
  unfold gb
  by_cases z : x = 0 ∨ x = 1
  · rw [if_pos z]; exact Tri.ret (fun _ _ _ => by unfold oRetZ; dsimp only; rw [if_pos z]; rfl) hG
  · rw [if_neg z]; exact Tri.none_
theorem tr_retB {x : Int32} (hG : Frz G) : Tri wI d M (oRetB :: os) lv [.int x] G (gd x 128 (some (x, G))) := by
  unfold gd
  by_cases z : inb x 128
  · rw [if_pos z]; exact Tri.ret (fun _ _ _ => by unfold oRetB; dsimp only; rw [if_pos z]; rfl) hG
  · rw [if_neg z]; exact Tri.none_
theorem tr_getI {a c k : Nat} (h : gk G a = c) (q : Tri w d M os lv (.int (gI G a k) :: st) G X) : Tri w d M (oGetI c k :: os) lv (.ref a :: st) G X := Tri.next (fun _ _ _ => by unfold oGetI; dsimp only; rw [if_pos h]) q
theorem tr_getJ {a c k : Nat} (h : gk G a = c) (q : Tri w d M os lv (.long (gJ G a k) :: st) G X) : Tri w d M (oGetJ c k :: os) lv (.ref a :: st) G X := Tri.next (fun _ _ _ => by unfold oGetJ; dsimp only; rw [if_pos h]) q
theorem tr_getP {a c k b : Nat} (h : gk G a = c) (h2 : gP G a k = some b) (q : Tri w d M os lv (.ref b :: st) G X) : Tri w d M (oGetP c k :: os) lv (.ref a :: st) G X := Tri.next (fun _ _ _ => by unfold oGetP; dsimp only; rw [if_pos h, h2]; rfl) q
theorem tr_getM {a c k : Nat} {f : Nat → Bool} {Z : Nat → hO α} (h : gk G a = c) (q : ∀ b, gP G a k = some b → f b = true → Tri w d M os lv (.ref b :: st) G (Z b)) : Tri w d M (oGetP c k :: os) lv (.ref a :: st) G (gp f (gP G a k) Z) := by
  cases hp : gP G a k with
  | none => exact Tri.none_
  | some b =>
    show Tri w d M _ lv _ G (if f b = true then Z b else none)
    by_cases z : f b = true
    · rw [if_pos z]; exact tr_getP h hp (q b hp z)
    · rw [if_neg z]; exact Tri.none_
theorem tr_putI {a c k : Nat} {x : Int32} {Z : hG → hO α} (hG : Frz G) (h : gk G a = c) (q : ∀ g, g = sI G a k x → Frz g → Tri w d M os lv st g (Z g)) : Tri w d M (oPutI c k :: os) lv (.int x :: .ref a :: st) G (wr (sI G a k x) Z) := Tri.next (fun _ _ _ => by unfold oPutI; dsimp only; rw [if_pos h]) (q _ rfl hG)
theorem tr_putZ {a c k : Nat} {x : Int32} {Z : hG → hO α} (hG : Frz G) (h : gk G a = c) (q : ∀ g, g = sI G a k x → Frz g → Tri w d M os lv st g (Z g)) : Tri w d M (oPutZ c k :: os) lv (.int x :: .ref a :: st) G (gb x (wr (sI G a k x) Z)) := by
  unfold gb
  by_cases z : x = 0 ∨ x = 1
  · rw [if_pos z]; exact Tri.next (fun _ _ _ => by unfold oPutZ; dsimp only; rw [if_pos ⟨h, z⟩]) (q _ rfl hG)
  · rw [if_neg z]; exact Tri.none_
theorem tr_putJ {a c k : Nat} {x : Int64} {Z : hG → hO α} (hG : Frz G) (h : gk G a = c) (q : ∀ g, g = sJ G a k x → Frz g → Tri w d M os lv st g (Z g)) : Tri w d M (oPutJ c k :: os) lv (.long x :: .ref a :: st) G (wr (sJ G a k x) Z) := Tri.next (fun _ _ _ => by unfold oPutJ; dsimp only; rw [if_pos h]) (q _ rfl hG)
theorem Frz.sP {a k b : Nat} (hG : Frz G) (h : fzM a k = true) : Frz (sP G a k (some b)) := by
  obtain ⟨h0, h9, h1, h2, h3⟩ := hG
  refine ⟨h0, h9, h1, h2, fun a' k' q => ?_⟩
  show u2 (gP G) a k (some b) a' k' = _
  by_cases e : a' = a
  · subst e
    by_cases e2 : k' = k
    · subst e2; rw [h] at q; cases q
    · rw [u2_off _ _ e2]; exact h3 _ _ q
  · rw [u2_ne _ _ e]; exact h3 _ _ q
theorem tr_putP {a c k x : Nat} {Z : hG → hO α} (hG : Frz G) (hm : fzM a k = true) (h : gk G a = c) (q : ∀ g, g = sP G a k (some x) → Frz g → Tri w d M os lv st g (Z g)) : Tri w d M (oPutP c k :: os) lv (.ref x :: .ref a :: st) G (wr (sP G a k (some x)) Z) := Tri.next (fun _ _ _ => by unfold oPutP; dsimp only; rw [if_pos h]) (q _ rfl (hG.sP hm))
theorem tr_aldI {kd a n : Nat} {i : Int32} (h : gk G a = kd) (hl : gl G a = n) (q : inb i n → Tri w d M os lv (.int (gI G a i.toNatClampNeg) :: st) G Y) : Tri w d M (oALdI kd :: os) lv (.int i :: .ref a :: st) G (gd i n Y) := by
  subst hl
  unfold gd
  by_cases z : inb i (gl G a)
  · rw [if_pos z]; exact Tri.next (fun _ _ _ => by unfold oALdI; dsimp only; rw [if_pos ⟨h, z⟩]) (q z)
  · rw [if_neg z]; exact Tri.none_
theorem tr_aldJ {a n : Nat} {i : Int32} (h : gk G a = 14) (hl : gl G a = n) (q : inb i n → Tri w d M os lv (.long (gJ G a i.toNatClampNeg) :: st) G Y) : Tri w d M (oALdJ :: os) lv (.int i :: .ref a :: st) G (gd i n Y) := by
  subst hl
  unfold gd
  by_cases z : inb i (gl G a)
  · rw [if_pos z]; exact Tri.next (fun _ _ _ => by unfold oALdJ; dsimp only; rw [if_pos ⟨h, z⟩]) (q z)
  · rw [if_neg z]; exact Tri.none_
theorem tr_aldP {kd a n : Nat} {i : Int32} {b : Nat} (h : gk G a = kd) (hl : gl G a = n) (hb : inb i n → gP G a i.toNatClampNeg = some b) (q : inb i n → Tri w d M os lv (.ref b :: st) G Y) : Tri w d M (oALdP kd :: os) lv (.int i :: .ref a :: st) G (gd i n Y) := by
  subst hl
  unfold gd
  by_cases z : inb i (gl G a)
  · rw [if_pos z]; exact Tri.next (fun _ _ _ => by unfold oALdP; dsimp only; rw [if_pos ⟨h, z⟩, hb z]; rfl) (q z)
  · rw [if_neg z]; exact Tri.none_
theorem tr_astI {a n : Nat} {i x : Int32} {Z : hG → hO α} (hG : Frz G) (h : gk G a = 13) (hl : gl G a = n) (q : inb i n → ∀ g, g = sI G a i.toNatClampNeg x → Frz g → Tri w d M os lv st g (Z g)) : Tri w d M (oAStI :: os) lv (.int x :: .int i :: .ref a :: st) G (gd i n (wr (sI G a i.toNatClampNeg x) Z)) := by
  subst hl
  unfold gd
  by_cases z : inb i (gl G a)
  · rw [if_pos z]; exact Tri.next (fun _ _ _ => by unfold oAStI; dsimp only; rw [if_pos ⟨h, z⟩]) (q z _ rfl hG)
  · rw [if_neg z]; exact Tri.none_
theorem tr_astZ {a n : Nat} {i x : Int32} {Z : hG → hO α} (hG : Frz G) (h : gk G a = 15) (hl : gl G a = n) (q : inb i n → ∀ g, g = sI G a i.toNatClampNeg x → Frz g → Tri w d M os lv st g (Z g)) : Tri w d M (oAStZ :: os) lv (.int x :: .int i :: .ref a :: st) G (gd i n (gb x (wr (sI G a i.toNatClampNeg x) Z))) := by
  subst hl
  unfold gd gb
  by_cases z : inb i (gl G a)
  · rw [if_pos z]
    by_cases y : x = 0 ∨ x = 1
    · rw [if_pos y]; exact Tri.next (fun _ _ _ => by unfold oAStZ; dsimp only; rw [if_pos ⟨h, z, y⟩]) (q z _ rfl hG)
    · rw [if_neg y]; exact Tri.none_
  · rw [if_neg z]; exact Tri.none_
theorem tr_astJ {a n : Nat} {i : Int32} {x : Int64} {Z : hG → hO α} (hG : Frz G) (h : gk G a = 14) (hl : gl G a = n) (q : inb i n → ∀ g, g = sJ G a i.toNatClampNeg x → Frz g → Tri w d M os lv st g (Z g)) : Tri w d M (oAStJ :: os) lv (.long x :: .int i :: .ref a :: st) G (gd i n (wr (sJ G a i.toNatClampNeg x) Z)) := by
  subst hl
  unfold gd
  by_cases z : inb i (gl G a)
  · rw [if_pos z]; exact Tri.next (fun _ _ _ => by unfold oAStJ; dsimp only; rw [if_pos ⟨h, z⟩]) (q z _ rfl hG)
  · rw [if_neg z]; exact Tri.none_
theorem tr_alen {a : Nat} (h : gk G a = 13) {v : Int32} (hv : Int32.ofNat (gl G a) = v) (q : Tri w d M os lv (.int v :: st) G X) : Tri w d M (oALen :: os) lv (.ref a :: st) G X := Tri.next (fun _ _ _ => by unfold oALen; dsimp only; rw [if_pos (by rw [h]; decide), hv]) q
theorem tr_max {x y : Int32} (hc : cats st ≤ 8) (q : Tri w d M os lv (.int (if x < y then y else x) :: st) G X) : Tri w d M (oMax :: os) lv (.int y :: .int x :: st) G X := Tri.next (fun _ _ _ => by unfold oMax; dsimp only; rw [if_pos hc]) q
theorem tr_min {x y : Int32} (hc : cats st ≤ 8) (q : Tri w d M os lv (.int (if y < x then y else x) :: st) G X) : Tri w d M (oMin :: os) lv (.int y :: .int x :: st) G X := Tri.next (fun _ _ _ => by unfold oMin; dsimp only; rw [if_pos hc]) q
/-- a piece copied: within both -/
def gc {α : Type} (sp dp n : Int32) (la lb : Nat) (Y : hO α) : hO α := if ¬ (sp < 0) ∧ ¬ (dp < 0) ∧ ¬ (n < 0) ∧ sp.toNatClampNeg + n.toNatClampNeg ≤ la ∧ dp.toNatClampNeg + n.toNatClampNeg ≤ lb then Y else none
def gne {α : Type} (a b : Nat) (Y : hO α) : hO α := if a = b then none else Y
theorem tr_cpy {a b la lb : Nat} {sp dp n : Int32} {Z : hG → hO α} (hG : Frz G) (ha : gk G a = 13) (hb : gk G b = 13) (hla : gl G a = la) (hlb : gl G b = lb) (hc : cats st ≤ 8) (q : ∀ g, g = sRow G b (va_cpy (gI G a) (gI G b) sp.toNatClampNeg dp.toNatClampNeg n.toNatClampNeg) → Frz g → Tri w d M os lv st g (Z g)) : Tri w d M (oCpy :: os) lv (.int n :: .int dp :: .ref b :: .int sp :: .ref a :: st) G (gne a b (gc sp dp n la lb (wr (sRow G b (va_cpy (gI G a) (gI G b) sp.toNatClampNeg dp.toNatClampNeg n.toNatClampNeg)) Z))) := by
  subst hla
  subst hlb
  unfold gc gne
  by_cases e : a = b
  · rw [if_pos e]; exact Tri.none_
  · rw [if_neg e]
    by_cases z : ¬ (sp < 0) ∧ ¬ (dp < 0) ∧ ¬ (n < 0) ∧ sp.toNatClampNeg + n.toNatClampNeg ≤ gl G a ∧ dp.toNatClampNeg + n.toNatClampNeg ≤ gl G b
    · rw [if_pos z]
      obtain ⟨z1, z2, z3, z4, z5⟩ := z
      exact Tri.next (fun _ _ _ => by unfold oCpy; dsimp only; rw [if_pos ⟨ha, hb, e, z1, z2, z3, z4, z5, hc⟩]) (q _ rfl hG)
    · rw [if_neg z]; exact Tri.none_
theorem tr_tcoder {a : Nat} (h : 100000 ≤ a ∧ a < 100025) (q : Tri w d M os lv (.int 0 :: st) G X) : Tri w d M (oTCoder :: os) lv (.ref a :: st) G X := Tri.next (fun _ _ _ => by unfold oTCoder; dsimp only; rw [if_pos h]) q
theorem tr_tval {a : Nat} (h : 100000 ≤ a ∧ a < 100025) (q : Tri w d M os lv (.ref (a + 100000) :: st) G X) : Tri w d M (oTVal :: os) lv (.ref a :: st) G X := Tri.next (fun _ _ _ => by unfold oTVal; dsimp only; rw [if_pos h]) q
theorem tr_tlen {a : Nat} (h : 200000 ≤ a ∧ a < 200025) (q : Tri w d M os lv (.int (Int32.ofNat (strL.getD (a - 200000) []).length) :: st) G X) : Tri w d M (oTLen :: os) lv (.ref a :: st) G X := Tri.next (fun _ _ _ => by unfold oTLen; dsimp only; rw [if_pos h]) q
theorem tr_tld {a : Nat} {i : Int32} (h : 200000 ≤ a ∧ a < 200025) (q : inb i (strL.getD (a - 200000) []).length → Tri w d M os lv (.int ((strL.getD (a - 200000) []).getD i.toNatClampNeg 0) :: st) G Y) : Tri w d M (oTLd :: os) lv (.int i :: .ref a :: st) G (gd i (strL.getD (a - 200000) []).length Y) := by
  unfold gd
  by_cases z : inb i (strL.getD (a - 200000) []).length
  · rw [if_pos z]; exact Tri.next (fun _ _ _ => by unfold oTLd; dsimp only; rw [if_pos ⟨h, z⟩]) (q z)
  · rw [if_neg z]; exact Tri.none_
end T
section TC
variable {α β : Type} {w : α → Option Value} {d M : Nat} {os : List hOp} {lv : List (Option Value)} {st : List Value} {G : hG}
def pushV (o : Option Value) (r : List Value) : List Value := match o with
  | some v => v :: r
  | none => r
theorem clF_eq {f d M' : Nat} {av : List Value} {r : Option (Option Value × hG)} (hM : M' < 286) (hl : (lArg av).length ≤ mlOf M') (h : hrun f d M' 0 (lvOf M' av) [] G = r) : clF f (d + 1) M' av G = r := by
  show (if M' < 286 ∧ (lArg av).length ≤ mlOf M' then hrun f d M' 0 (lvOf M' av) [] G else none) = r
  rw [if_pos ⟨hM, hl⟩]
  exact h
theorem tr_call {w' : β → Option Value} {M' : Nat} {av rest : List Value} {o : hOp} {Y : hO β} {Z : β → hG → hO α} (ho : ∀ (nx : hN) (jp : Nat → hN) (cl : Nat → List Value → hG → hR) v g, cl M' av G = some (v, g) → o nx jp cl lv st G = nx lv (pushV v rest) g) (hM : M' < 286) (hl : (lArg av).length ≤ mlOf M') (hY : TM w' d M' av G Y)
    (q : ∀ v g, Y = some (v, g) → Frz g → Tri w (d + 1) M os lv (pushV (w' v) rest) g (Z v g)) : Tri w (d + 1) M (o :: os) lv st G (bnd Y Z) := by
  intro r G' hX
  unfold bnd at hX
  cases hy : Y with
  | none => rw [hy] at hX; cases hX
  | some q0 =>
    obtain ⟨v, g⟩ := q0
    rw [hy] at hX
    obtain ⟨⟨f1, h1⟩, hF⟩ := hY v g hy
    obtain ⟨⟨f0, h0⟩, hG'⟩ := q v g hy hF r G' hX
    refine ⟨⟨f0 + f1, fun f hf => ?_⟩, hG'⟩
    show o (exO os _ _) _ _ lv st G = _
    rw [ho _ _ _ _ _ (clF_eq hM hl (h1 f (by omega)))]
    exact h0 f (by omega)
theorem tr_invV {w' : β → Option Value} {M' c n a : Nat} {rest As : List Value} {Y : hO β} {Z : β → hG → hO α} (hs : st.drop n = .ref a :: rest) (hA : (st.take n).reverse = As) (hk : gk G a = c) (hc : cats rest ≤ 8) (hM : M' < 286) (hl : (lArg (.ref a :: As)).length ≤ mlOf M') (hY : TM w' d M' (.ref a :: As) G Y)
    (q : ∀ v g, Y = some (v, g) → Frz g → Tri w (d + 1) M os lv (pushV (w' v) rest) g (Z v g)) : Tri w (d + 1) M (oInvV M' c n :: os) lv st G (bnd Y Z) :=
  tr_call (fun nx jp cl v g h => by
    unfold oInvV
    rw [hs]
    dsimp only
    rw [if_pos ⟨hk, hc⟩, hA, h]
    cases v <;> rfl) hM hl hY q
theorem tr_invS {w' : β → Option Value} {M' n : Nat} {rest As : List Value} {Y : hO β} {Z : β → hG → hO α} (hs : st.drop n = rest) (hA : (st.take n).reverse = As) (hn : n ≤ st.length) (hc : cats rest ≤ 8) (hM : M' < 286) (hl : (lArg As).length ≤ mlOf M') (hY : TM w' d M' As G Y)
    (q : ∀ v g, Y = some (v, g) → Frz g → Tri w (d + 1) M os lv (pushV (w' v) rest) g (Z v g)) : Tri w (d + 1) M (oInvS M' n :: os) lv st G (bnd Y Z) :=
  tr_call (fun nx jp cl v g h => by
    unfold oInvS
    rw [hs, if_pos ⟨hn, hc⟩, hA, h]
    cases v <;> rfl) hM hl hY q
theorem tr_invT {w' : β → Option Value} {M' n a : Nat} {rest As : List Value} {Y : hO β} {Z : β → hG → hO α} (hs : st.drop n = .ref a :: rest) (hA : (st.take n).reverse = As) (hk : 100000 ≤ a ∧ a < 100025) (hc : cats rest ≤ 8) (hM : M' < 286) (hl : (lArg (.ref a :: As)).length ≤ mlOf M') (hY : TM w' d M' (.ref a :: As) G Y)
    (q : ∀ v g, Y = some (v, g) → Frz g → Tri w (d + 1) M os lv (pushV (w' v) rest) g (Z v g)) : Tri w (d + 1) M (oInvT M' n :: os) lv st G (bnd Y Z) :=
  tr_call (fun nx jp cl v g h => by
    unfold oInvT
    rw [hs]
    dsimp only
    rw [if_pos ⟨hk, hc⟩, hA, h]
    cases v <;> rfl) hM hl hY q
theorem TM.of {X : hO α} {av : List Value} (h : Tri w d M ((opsOf M).drop 0) (lvOf M av) [] G X) : TM w d M av G X := by
  intro r G' hX
  obtain ⟨⟨f0, h0⟩, h1⟩ := h r G' hX
  refine ⟨⟨f0 + 1, fun f hf => ?_⟩, h1⟩
  obtain ⟨f', rfl⟩ : ∃ f', f = f' + 1 := ⟨f - 1, by omega⟩
  rw [hrun_eq]
  exact h0 f' (by omega)
end TC
