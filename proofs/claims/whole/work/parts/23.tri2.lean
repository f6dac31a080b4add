/-! shallow functions: words, and rows of the plain machine that name what follows a jump -/
abbrev shl (x y : Int32) : Int32 := x <<< (y &&& 31)
abbrev shr (x y : Int32) : Int32 := x >>> (y &&& 31)
abbrev ushr (x y : Int32) : Int32 := (x.toUInt32 >>> (y.toUInt32 &&& Int32.toUInt32 31)).toInt32
abbrev irem (x y : Int32) : Int32 := x - x / y * y
abbrev lrem (x y : Int64) : Int64 := x - x / y * y
abbrev imax (x y : Int32) : Int32 := if x < y then y else x
abbrev imin (x y : Int32) : Int32 := if y < x then y else x
/-- turns of a loop, more than any takes; depth of brackets -/
def FU : Nat := 1000000
def FR : Nat := 10
section T2
variable {α : Type} {w : α → Option Value} {d M : Nat} {os os' : List hOp} {lv lv' : List (Option Value)} {st : List Value} {G : hG} {X Y : hO α}
theorem tr_gotoE {t : Nat} (he : (opsOf M).drop t = os') (k : Tri w d M os' lv st G X) : Tri w d M (oGoto t :: os) lv st G X := tr_goto (by rw [he]; exact k)
theorem tr_ifj {c : Int32 → Int32 → Bool} {t : Nat} {x y : Int32} {p : Prop} [Decidable p] (he : (opsOf M).drop t = os') (hp : (c x y = true) = p) (kt : p → Tri w d M os' lv st G X) (kf : ¬ p → Tri w d M os lv st G Y) : Tri w d M (oIf c t :: os) lv (.int y :: .int x :: st) G (if p then X else Y) := tr_ifx hp (by rw [he]; exact kt) kf
theorem tr_if0j {c : Int32 → Int32 → Bool} {t : Nat} {x : Int32} {p : Prop} [Decidable p] (he : (opsOf M).drop t = os') (hp : (c x 0 = true) = p) (kt : p → Tri w d M os' lv st G X) (kf : ¬ p → Tri w d M os lv st G Y) : Tri w d M (oIf0 c t :: os) lv (.int x :: st) G (if p then X else Y) := tr_if0x hp (by rw [he]; exact kt) kf
theorem tr_ifn {c : Int32 → Int32 → Bool} {t : Nat} {x y : Int32} {p : Prop} [Decidable p] (he : (opsOf M).drop t = os') (hp : (c x y = true) = ¬ p) (kt : ¬ p → Tri w d M os' lv st G X) (kf : p → Tri w d M os lv st G Y) : Tri w d M (oIf c t :: os) lv (.int y :: .int x :: st) G (if p then Y else X) := tr_ifc hp (fun h => by rw [if_neg h, he]; exact kt h) (fun h => by rw [if_pos (Decidable.not_not.mp h)]; exact kf (Decidable.not_not.mp h))
theorem tr_if0n {c : Int32 → Int32 → Bool} {t : Nat} {x : Int32} {p : Prop} [Decidable p] (he : (opsOf M).drop t = os') (hp : (c x 0 = true) = ¬ p) (kt : ¬ p → Tri w d M os' lv st G X) (kf : p → Tri w d M os lv st G Y) : Tri w d M (oIf0 c t :: os) lv (.int x :: st) G (if p then Y else X) := tr_if0c hp (fun h => by rw [if_neg h, he]; exact kt h) (fun h => by rw [if_pos (Decidable.not_not.mp h)]; exact kf (Decidable.not_not.mp h))
theorem tr_ifcE {c : Int32 → Int32 → Bool} {t : Nat} {x y : Int32} {p : Prop} (he : (opsOf M).drop t = os') (hp : (c x y = true) = p) (kt : p → Tri w d M os' lv st G X) (kf : ¬ p → Tri w d M os lv st G X) : Tri w d M (oIf c t :: os) lv (.int y :: .int x :: st) G X := tr_ifc hp (by rw [he]; exact kt) kf
theorem tr_if0cE {c : Int32 → Int32 → Bool} {t : Nat} {x : Int32} {p : Prop} (he : (opsOf M).drop t = os') (hp : (c x 0 = true) = p) (kt : p → Tri w d M os' lv st G X) (kf : ¬ p → Tri w d M os lv st G X) : Tri w d M (oIf0 c t :: os) lv (.int x :: st) G X := tr_if0c hp (by rw [he]; exact kt) kf
theorem tr_sw1E {lo : Int} {t df : Nat} {ts : List Nat} {x c : Int32} (he : (opsOf M).drop t = os') (hc : c.toInt = lo) (kt : x = c → Tri w d M os' lv st G X) (kf : ¬ x = c → Tri w d M (oSw (lo + 1) ts df :: os) lv (.int x :: st) G Y) : Tri w d M (oSw lo (t :: ts) df :: os) lv (.int x :: st) G (if x = c then X else Y) := tr_sw1 hc (by rw [he]; exact kt) kf
theorem tr_sw0E {lo : Int} {df : Nat} {x : Int32} (he : (opsOf M).drop df = os') (k : Tri w d M os' lv st G X) : Tri w d M (oSw lo [] df :: os) lv (.int x :: st) G X := tr_sw0 (by rw [he]; exact k)
theorem tr_dvdl {f : Int32 → Int32 → Int32} {x y v : Int32} (z : ¬ y = 0) (h : f x y = v) (k : Tri w d M os lv (.int v :: st) G X) : Tri w d M (oDvd f :: os) lv (.int y :: .int x :: st) G X := Tri.next (fun _ _ _ => by subst h; unfold oDvd; dsimp only; rw [if_neg z]) k
theorem tr_ldvdl {f : Int64 → Int64 → Int64} {x y v : Int64} (z : ¬ y = 0) (h : f x y = v) (k : Tri w d M os lv (.long v :: st) G X) : Tri w d M (oLDvd f :: os) lv (.long y :: .long x :: st) G X := Tri.next (fun _ _ _ => by subst h; unfold oLDvd; dsimp only; rw [if_neg z]) k
theorem tr_putZl {a c k : Nat} {x : Int32} {Z : hG → hO α} (z : x = 0 ∨ x = 1) (hG : Frz G) (h : gk G a = c) (q : ∀ g, g = sI G a k x → Frz g → Tri w d M os lv st g (Z g)) : Tri w d M (oPutZ c k :: os) lv (.int x :: .ref a :: st) G (wr (sI G a k x) Z) := Tri.next (fun _ _ _ => by unfold oPutZ; dsimp only; rw [if_pos ⟨h, z⟩]) (q _ rfl hG)
theorem tr_astZl {a n : Nat} {i x : Int32} {Z : hG → hO α} (y : x = 0 ∨ x = 1) (hG : Frz G) (h : gk G a = 15) (hl : gl G a = n) (q : inb i n → ∀ g, g = sI G a i.toNatClampNeg x → Frz g → Tri w d M os lv st g (Z g)) : Tri w d M (oAStZ :: os) lv (.int x :: .int i :: .ref a :: st) G (gd i n (wr (sI G a i.toNatClampNeg x) Z)) := by
  subst hl
  unfold gd
  by_cases z : inb i (gl G a)
  · rw [if_pos z]; exact Tri.next (fun _ _ _ => by unfold oAStZ; dsimp only; rw [if_pos ⟨h, z, y⟩]) (q z _ rfl hG)
  · rw [if_neg z]; exact Tri.none_
theorem tr_retZl {x : Int32} (z : x = 0 ∨ x = 1) (hG : Frz G) : Tri wI d M (oRetZ :: os) lv [.int x] G (some (x, G)) := Tri.ret (fun _ _ _ => by unfold oRetZ; dsimp only; rw [if_pos z]; rfl) hG
theorem frz_sPs {a k b : Nat} (hG : Frz G) (h : gP G a k = some b) : Frz (sP G a k (some b)) := by
  obtain ⟨h0, h9, h1, h2, h3⟩ := hG
  refine ⟨h0, h9, h1, h2, fun a' k' q => ?_⟩
  show u2 (gP G) a k (some b) a' k' = _
  by_cases e : a' = a
  · subst e
    by_cases e2 : k' = k
    · subst e2
      rw [← h3 _ _ q, h]
      unfold u2 va_up
      rw [if_pos rfl, if_pos rfl]
    · rw [u2_off _ _ e2]; exact h3 _ _ q
  · rw [u2_ne _ _ e]; exact h3 _ _ q
theorem tr_putPs {a c k x : Nat} {Z : hG → hO α} (hG : Frz G) (hm : gP G a k = some x) (h : gk G a = c) (q : ∀ g, g = sP G a k (some x) → Frz g → Tri w d M os lv st g (Z g)) : Tri w d M (oPutP c k :: os) lv (.ref x :: .ref a :: st) G (wr (sP G a k (some x)) Z) := Tri.next (fun _ _ _ => by unfold oPutP; dsimp only; rw [if_pos h]) (q _ rfl (frz_sPs hG hm))
theorem TM.ofE {X : hO α} {av : List Value} (he : (opsOf M).drop 0 = os') (hl : lvOf M av = lv) (h : Tri w d M os' lv [] G X) : TM w d M av G X := TM.of (by rw [he, hl]; exact h)
end T2
theorem l_eq (x y : Int64) : (cEq (lg_cmp x y) 0 = true) = (x = y) := (c_eq _ _).trans (propext (lg_cmp_eq x y))
theorem l_ne (x y : Int64) : (cNe (lg_cmp x y) 0 = true) = (¬ x = y) := (c_ne _ _).trans (propext (not_congr (lg_cmp_eq x y)))
theorem l_lt (x y : Int64) : (cLt (lg_cmp x y) 0 = true) = (x < y) := (c_lt _ _).trans (propext (lg_cmp_lt x y))
theorem l_ge (x y : Int64) : (cGe (lg_cmp x y) 0 = true) = (y ≤ x) := (c_ge _ _).trans (propext (lg_cmp_ge x y))
theorem l_gt (x y : Int64) : (cGt (lg_cmp x y) 0 = true) = (y < x) := (c_gt _ _).trans (propext (lg_cmp_gt x y))
theorem l_le (x y : Int64) : (cLe (lg_cmp x y) 0 = true) = (x ≤ y) := (c_le _ _).trans (propext (lg_cmp_le x y))
section TC2
variable {α β : Type} {w : α → Option Value} {d M : Nat} {os : List hOp} {lv : List (Option Value)} {st : List Value} {G : hG}
theorem tr_invVI {M' c n a : Nat} {rest As : List Value} {Y : hO Int32} {Z : Int32 → hG → hO α} (hs : st.drop n = .ref a :: rest) (hA : (st.take n).reverse = As) (hk : gk G a = c) (hc : cats rest ≤ 8) (hM : M' < 286) (hl : (lArg (.ref a :: As)).length ≤ mlOf M') (hY : TM wI d M' (.ref a :: As) G Y) (q : ∀ (v : Int32) (g : hG), Y = some (v, g) → Frz g → Tri w (d + 1) M os lv (.int v :: rest) g (Z v g)) : Tri w (d + 1) M (oInvV M' c n :: os) lv st G (bnd Y Z) := tr_invV hs hA hk hc hM hl hY q
theorem tr_invTI {M' n a : Nat} {rest As : List Value} {Y : hO Int32} {Z : Int32 → hG → hO α} (hs : st.drop n = .ref a :: rest) (hA : (st.take n).reverse = As) (hk : 100000 ≤ a ∧ a < 100025) (hc : cats rest ≤ 8) (hM : M' < 286) (hl : (lArg (.ref a :: As)).length ≤ mlOf M') (hY : TM wI d M' (.ref a :: As) G Y) (q : ∀ (v : Int32) (g : hG), Y = some (v, g) → Frz g → Tri w (d + 1) M os lv (.int v :: rest) g (Z v g)) : Tri w (d + 1) M (oInvT M' n :: os) lv st G (bnd Y Z) := tr_invT hs hA hk hc hM hl hY q
theorem tr_invSI {M' n : Nat} {rest As : List Value} {Y : hO Int32} {Z : Int32 → hG → hO α} (hs : st.drop n = rest) (hA : (st.take n).reverse = As) (hn : n ≤ st.length) (hc : cats rest ≤ 8) (hM : M' < 286) (hl : (lArg As).length ≤ mlOf M') (hY : TM wI d M' As G Y) (q : ∀ (v : Int32) (g : hG), Y = some (v, g) → Frz g → Tri w (d + 1) M os lv (.int v :: rest) g (Z v g)) : Tri w (d + 1) M (oInvS M' n :: os) lv st G (bnd Y Z) := tr_invS hs hA hn hc hM hl hY q
theorem tr_invVJ {M' c n a : Nat} {rest As : List Value} {Y : hO Int64} {Z : Int64 → hG → hO α} (hs : st.drop n = .ref a :: rest) (hA : (st.take n).reverse = As) (hk : gk G a = c) (hc : cats rest ≤ 8) (hM : M' < 286) (hl : (lArg (.ref a :: As)).length ≤ mlOf M') (hY : TM wJ d M' (.ref a :: As) G Y) (q : ∀ (v : Int64) (g : hG), Y = some (v, g) → Frz g → Tri w (d + 1) M os lv (.long v :: rest) g (Z v g)) : Tri w (d + 1) M (oInvV M' c n :: os) lv st G (bnd Y Z) := tr_invV hs hA hk hc hM hl hY q
theorem tr_invTJ {M' n a : Nat} {rest As : List Value} {Y : hO Int64} {Z : Int64 → hG → hO α} (hs : st.drop n = .ref a :: rest) (hA : (st.take n).reverse = As) (hk : 100000 ≤ a ∧ a < 100025) (hc : cats rest ≤ 8) (hM : M' < 286) (hl : (lArg (.ref a :: As)).length ≤ mlOf M') (hY : TM wJ d M' (.ref a :: As) G Y) (q : ∀ (v : Int64) (g : hG), Y = some (v, g) → Frz g → Tri w (d + 1) M os lv (.long v :: rest) g (Z v g)) : Tri w (d + 1) M (oInvT M' n :: os) lv st G (bnd Y Z) := tr_invT hs hA hk hc hM hl hY q
theorem tr_invSJ {M' n : Nat} {rest As : List Value} {Y : hO Int64} {Z : Int64 → hG → hO α} (hs : st.drop n = rest) (hA : (st.take n).reverse = As) (hn : n ≤ st.length) (hc : cats rest ≤ 8) (hM : M' < 286) (hl : (lArg As).length ≤ mlOf M') (hY : TM wJ d M' As G Y) (q : ∀ (v : Int64) (g : hG), Y = some (v, g) → Frz g → Tri w (d + 1) M os lv (.long v :: rest) g (Z v g)) : Tri w (d + 1) M (oInvS M' n :: os) lv st G (bnd Y Z) := tr_invS hs hA hn hc hM hl hY q
theorem tr_invVU {M' c n a : Nat} {rest As : List Value} {Y : hO Unit} {Z : Unit → hG → hO α} (hs : st.drop n = .ref a :: rest) (hA : (st.take n).reverse = As) (hk : gk G a = c) (hc : cats rest ≤ 8) (hM : M' < 286) (hl : (lArg (.ref a :: As)).length ≤ mlOf M') (hY : TM wU d M' (.ref a :: As) G Y) (q : ∀ (v : Unit) (g : hG), Y = some (v, g) → Frz g → Tri w (d + 1) M os lv (rest) g (Z v g)) : Tri w (d + 1) M (oInvV M' c n :: os) lv st G (bnd Y Z) := tr_invV hs hA hk hc hM hl hY q
theorem tr_invTU {M' n a : Nat} {rest As : List Value} {Y : hO Unit} {Z : Unit → hG → hO α} (hs : st.drop n = .ref a :: rest) (hA : (st.take n).reverse = As) (hk : 100000 ≤ a ∧ a < 100025) (hc : cats rest ≤ 8) (hM : M' < 286) (hl : (lArg (.ref a :: As)).length ≤ mlOf M') (hY : TM wU d M' (.ref a :: As) G Y) (q : ∀ (v : Unit) (g : hG), Y = some (v, g) → Frz g → Tri w (d + 1) M os lv (rest) g (Z v g)) : Tri w (d + 1) M (oInvT M' n :: os) lv st G (bnd Y Z) := tr_invT hs hA hk hc hM hl hY q
theorem tr_invSU {M' n : Nat} {rest As : List Value} {Y : hO Unit} {Z : Unit → hG → hO α} (hs : st.drop n = rest) (hA : (st.take n).reverse = As) (hn : n ≤ st.length) (hc : cats rest ≤ 8) (hM : M' < 286) (hl : (lArg As).length ≤ mlOf M') (hY : TM wU d M' As G Y) (q : ∀ (v : Unit) (g : hG), Y = some (v, g) → Frz g → Tri w (d + 1) M os lv (rest) g (Z v g)) : Tri w (d + 1) M (oInvS M' n :: os) lv st G (bnd Y Z) := tr_invS hs hA hn hc hM hl hY q
end TC2
theorem fk_1 {G : hG} (h : Frz G) : gk G 1 = 1 := fz_k h 1 rfl
theorem fk_2 {G : hG} (h : Frz G) : gk G 2 = 2 := fz_k h 2 rfl
theorem fk_3 {G : hG} (h : Frz G) : gk G 3 = 13 := fz_k h 3 rfl
theorem fk_4 {G : hG} (h : Frz G) : gk G 4 = 13 := fz_k h 4 rfl
theorem fk_6 {G : hG} (h : Frz G) : gk G 6 = 13 := fz_k h 6 rfl
theorem fk_7 {G : hG} (h : Frz G) : gk G 7 = 13 := fz_k h 7 rfl
theorem fk_8 {G : hG} (h : Frz G) : gk G 8 = 13 := fz_k h 8 rfl
theorem fk_9 {G : hG} (h : Frz G) : gk G 9 = 18 := fz_k h 9 rfl
theorem fk_54 {G : hG} (h : Frz G) : gk G 54 = 4 := fz_k h 54 rfl
theorem fk_55 {G : hG} (h : Frz G) : gk G 55 = 17 := fz_k h 55 rfl
theorem fk_56 {G : hG} (h : Frz G) : gk G 56 = 13 := fz_k h 56 rfl
theorem fk_137 {G : hG} (h : Frz G) : gk G 137 = 4 := fz_k h 137 rfl
theorem fk_220 {G : hG} (h : Frz G) : gk G 220 = 2 := fz_k h 220 rfl
theorem fk_225 {G : hG} (h : Frz G) : gk G 225 = 2 := fz_k h 225 rfl
theorem fk_226 {G : hG} (h : Frz G) : gk G 226 = 13 := fz_k h 226 rfl
theorem fk_227 {G : hG} (h : Frz G) : gk G 227 = 13 := fz_k h 227 rfl
theorem fk_228 {G : hG} (h : Frz G) : gk G 228 = 13 := fz_k h 228 rfl
theorem fk_230 {G : hG} (h : Frz G) : gk G 230 = 2 := fz_k h 230 rfl
theorem fk_240 {G : hG} (h : Frz G) : gk G 240 = 9 := fz_k h 240 rfl
theorem fk_242 {G : hG} (h : Frz G) : gk G 242 = 13 := fz_k h 242 rfl
theorem fk_243 {G : hG} (h : Frz G) : gk G 243 = 13 := fz_k h 243 rfl
theorem fk_244 {G : hG} (h : Frz G) : gk G 244 = 13 := fz_k h 244 rfl
theorem fk_245 {G : hG} (h : Frz G) : gk G 245 = 13 := fz_k h 245 rfl
theorem fk_246 {G : hG} (h : Frz G) : gk G 246 = 13 := fz_k h 246 rfl
theorem fl_3 {G : hG} (h : Frz G) : gl G 3 = 8 := fz_l h 3 rfl
theorem fl_4 {G : hG} (h : Frz G) : gl G 4 = 8 := fz_l h 4 rfl
theorem fl_6 {G : hG} (h : Frz G) : gl G 6 = 25 := fz_l h 6 rfl
theorem fl_7 {G : hG} (h : Frz G) : gl G 7 = 6 := fz_l h 7 rfl
theorem fl_8 {G : hG} (h : Frz G) : gl G 8 = 6 := fz_l h 8 rfl
theorem fl_9 {G : hG} (h : Frz G) : gl G 9 = 6 := fz_l h 9 rfl
theorem fl_55 {G : hG} (h : Frz G) : gl G 55 = 16 := fz_l h 55 rfl
theorem fl_56 {G : hG} (h : Frz G) : gl G 56 = 16 := fz_l h 56 rfl
theorem fl_226 {G : hG} (h : Frz G) : gl G 226 = 8 := fz_l h 226 rfl
theorem fl_227 {G : hG} (h : Frz G) : gl G 227 = 8 := fz_l h 227 rfl
theorem fl_228 {G : hG} (h : Frz G) : gl G 228 = 8 := fz_l h 228 rfl
theorem fl_242 {G : hG} (h : Frz G) : gl G 242 = 12 := fz_l h 242 rfl
theorem fl_243 {G : hG} (h : Frz G) : gl G 243 = 12 := fz_l h 243 rfl
theorem fl_244 {G : hG} (h : Frz G) : gl G 244 = 12 := fz_l h 244 rfl
theorem fl_245 {G : hG} (h : Frz G) : gl G 245 = 12 := fz_l h 245 rfl
theorem fl_246 {G : hG} (h : Frz G) : gl G 246 = 12 := fz_l h 246 rfl
theorem fp_1_4 {G : hG} (h : Frz G) : gP G 1 4 = some 7 := fz_p h 1 4 rfl rfl
theorem fp_1_5 {G : hG} (h : Frz G) : gP G 1 5 = some 8 := fz_p h 1 5 rfl rfl
theorem fp_1_7 {G : hG} (h : Frz G) : gP G 1 7 = some 9 := fz_p h 1 7 rfl rfl
theorem fp_2_0 {G : hG} (h : Frz G) : gP G 2 0 = some 3 := fz_p h 2 0 rfl rfl
theorem fp_2_1 {G : hG} (h : Frz G) : gP G 2 1 = some 4 := fz_p h 2 1 rfl rfl
theorem fp_2_3 {G : hG} (h : Frz G) : gP G 2 3 = some 6 := fz_p h 2 3 rfl rfl
theorem fp_54_0 {G : hG} (h : Frz G) : gP G 54 0 = some 55 := fz_p h 54 0 rfl rfl
theorem fp_54_1 {G : hG} (h : Frz G) : gP G 54 1 = some 56 := fz_p h 54 1 rfl rfl
theorem fp_225_0 {G : hG} (h : Frz G) : gP G 225 0 = some 226 := fz_p h 225 0 rfl rfl
theorem fp_225_1 {G : hG} (h : Frz G) : gP G 225 1 = some 227 := fz_p h 225 1 rfl rfl
theorem fp_225_2 {G : hG} (h : Frz G) : gP G 225 2 = some 228 := fz_p h 225 2 rfl rfl
theorem fp_240_3 {G : hG} (h : Frz G) : gP G 240 3 = some 242 := fz_p h 240 3 rfl rfl
theorem fp_240_4 {G : hG} (h : Frz G) : gP G 240 4 = some 243 := fz_p h 240 4 rfl rfl
theorem fp_240_5 {G : hG} (h : Frz G) : gP G 240 5 = some 244 := fz_p h 240 5 rfl rfl
theorem fp_240_6 {G : hG} (h : Frz G) : gP G 240 6 = some 245 := fz_p h 240 6 rfl rfl
theorem fp_240_7 {G : hG} (h : Frz G) : gP G 240 7 = some 246 := fz_p h 240 7 rfl rfl
