/-! words and rows for the shallow functions: the heap read behind a change, loops, what stays unchanged -/
section BR
variable {α β : Type}
theorem bnd_s (v : α) (g : hG) (k : α → hG → hO β) : bnd (some (v, g)) k = k v g := rfl
theorem wr_e (g : hG) (k : hG → hO α) : wr g k = k g := rfl
theorem gd_p {i : Int32} {n : Nat} (h : inb i n) (Y : hO α) : gd i n Y = Y := if_pos h
theorem inb_nI {i n : Nat} (h : i < n) (hn : n < 2 ^ 31) : inb (nI i) n := ⟨nI_pos (by omega), by rw [nI_clamp (by omega)]; exact h⟩
theorem gd_nI {i n : Nat} (h : i < n) (hn : n < 2 ^ 31) (Y : hO α) : gd (nI i) n Y = Y := if_pos (inb_nI h hn)
theorem gd_L (k n : Nat) (h : k < n) (hn : n < 2 ^ 31) (Y : hO α) : gd (@OfNat.ofNat Int32 k _) n Y = Y := if_pos (inb_nI h hn)
theorem gb_0 (Y : hO α) : gb 0 Y = Y := if_pos (Or.inl rfl)
theorem gb_1 (Y : hO α) : gb 1 Y = Y := if_pos (Or.inr rfl)
theorem gne_p {a b : Nat} (h : a ≠ b) (Y : hO α) : gne a b Y = Y := if_neg h
theorem gp_p {f : Nat → Bool} {a : Nat} (h : f a = true) (Y : Nat → hO α) : gp f (some a) Y = Y a := if_pos h
end BR
theorem cl_L (k : Nat) (h : k < 2 ^ 31) : (@OfNat.ofNat Int32 k _).toNatClampNeg = k := nI_clamp h
theorem gI_sI (g : hG) (a k : Nat) (v : Int32) (b j : Nat) : gI (sI g a k v) b j = if b = a ∧ j = k then v else gI g b j := by
  show u2 (gI g) a k v b j = _
  by_cases h : b = a
  · subst h
    by_cases h2 : j = k
    · subst h2; rw [u2_self, if_pos ⟨rfl, rfl⟩]
    · rw [u2_off _ _ h2, if_neg (fun q => h2 q.2)]
  · rw [u2_ne _ _ h, if_neg (fun q => h q.1)]
theorem rd_a {g : hG} {a k : Nat} {v : Int32} {b j : Nat} (h : ¬ b = a) : gI (sI g a k v) b j = gI g b j := by rw [gI_sI, if_neg (fun q => h q.1)]
theorem rd_k {g : hG} {a k : Nat} {v : Int32} {b j : Nat} (h : ¬ j = k) : gI (sI g a k v) b j = gI g b j := by rw [gI_sI, if_neg (fun q => h q.2)]
theorem rd_s {g : hG} {a k : Nat} {v : Int32} : gI (sI g a k v) a k = v := by rw [gI_sI, if_pos ⟨rfl, rfl⟩]
theorem gJ_sJ (g : hG) (a k : Nat) (v : Int64) (b j : Nat) : gJ (sJ g a k v) b j = if b = a ∧ j = k then v else gJ g b j := by
  show u2 (gJ g) a k v b j = _
  by_cases h : b = a
  · subst h
    by_cases h2 : j = k
    · subst h2; rw [u2_self, if_pos ⟨rfl, rfl⟩]
    · rw [u2_off _ _ h2, if_neg (fun q => h2 q.2)]
  · rw [u2_ne _ _ h, if_neg (fun q => h q.1)]
theorem gP_sP (g : hG) (a k : Nat) (v : Option Nat) (b j : Nat) : gP (sP g a k v) b j = if b = a ∧ j = k then v else gP g b j := by
  show u2 (gP g) a k v b j = _
  by_cases h : b = a
  · subst h
    by_cases h2 : j = k
    · subst h2; rw [u2_self, if_pos ⟨rfl, rfl⟩]
    · rw [u2_off _ _ h2, if_neg (fun q => h2 q.2)]
  · rw [u2_ne _ _ h, if_neg (fun q => h q.1)]
theorem gI_sJ (g : hG) (a k : Nat) (v : Int64) : gI (sJ g a k v) = gI g := rfl
theorem gI_sP (g : hG) (a k : Nat) (v : Option Nat) : gI (sP g a k v) = gI g := rfl
theorem gJ_sI (g : hG) (a k : Nat) (v : Int32) : gJ (sI g a k v) = gJ g := rfl
theorem gJ_sP (g : hG) (a k : Nat) (v : Option Nat) : gJ (sP g a k v) = gJ g := rfl
theorem gP_sI (g : hG) (a k : Nat) (v : Int32) : gP (sI g a k v) = gP g := rfl
theorem gP_sJ (g : hG) (a k : Nat) (v : Int64) : gP (sJ g a k v) = gP g := rfl
theorem gJ_sRow (g : hG) (a : Nat) (f : Nat → Int32) : gJ (sRow g a f) = gJ g := rfl
theorem gP_sRow (g : hG) (a : Nat) (f : Nat → Int32) : gP (sRow g a f) = gP g := rfl
theorem gI_sRow (g : hG) (a : Nat) (f : Nat → Int32) (b : Nat) : gI (sRow g a f) b = if b = a then f else gI g b := rfl
/-! what may have changed -/
def Un (S : Nat → Nat → Bool) (g g' : hG) : Prop := ∀ a k, S a k = false → gI g' a k = gI g a k ∧ gJ g' a k = gJ g a k ∧ gP g' a k = gP g a k
section UN
variable {S S' : Nat → Nat → Bool} {g g' g2 : hG}
theorem Un.rf : Un S g g := fun _ _ _ => ⟨rfl, rfl, rfl⟩
theorem Un.tr (h : Un S g g') (h2 : Un S g' g2) : Un S g g2 := fun a k q => ⟨(h2 a k q).1.trans (h a k q).1, (h2 a k q).2.1.trans (h a k q).2.1, (h2 a k q).2.2.trans (h a k q).2.2⟩
theorem Un.mo (h : Un S g g') (hs : ∀ a k, S' a k = false → S a k = false) : Un S' g g' := fun a k q => h a k (hs a k q)
theorem Un.I (h : Un S g g') {a k : Nat} (q : S a k = false) : gI g' a k = gI g a k := (h a k q).1
theorem Un.J (h : Un S g g') {a k : Nat} (q : S a k = false) : gJ g' a k = gJ g a k := (h a k q).2.1
theorem Un.P (h : Un S g g') {a k : Nat} (q : S a k = false) : gP g' a k = gP g a k := (h a k q).2.2
theorem Un.sI (h : Un S g g') {a k : Nat} (q : S a k = true) (v : Int32) : Un S g (sI g' a k v) := fun b j z => by
  refine ⟨?_, (h b j z).2.1, (h b j z).2.2⟩
  rw [gI_sI, if_neg]
  · exact (h b j z).1
  · rintro ⟨rfl, rfl⟩; rw [q] at z; cases z
theorem Un.sJ (h : Un S g g') {a k : Nat} (q : S a k = true) (v : Int64) : Un S g (sJ g' a k v) := fun b j z => by
  refine ⟨(h b j z).1, ?_, (h b j z).2.2⟩
  rw [gJ_sJ, if_neg]
  · exact (h b j z).2.1
  · rintro ⟨rfl, rfl⟩; rw [q] at z; cases z
theorem Un.sP (h : Un S g g') {a k : Nat} (q : S a k = true) (v : Option Nat) : Un S g (sP g' a k v) := fun b j z => by
  refine ⟨(h b j z).1, (h b j z).2.1, ?_⟩
  rw [gP_sP, if_neg]
  · exact (h b j z).2.2
  · rintro ⟨rfl, rfl⟩; rw [q] at z; cases z
theorem Un.sRow (h : Un S g g') {a : Nat} (q : ∀ k, S a k = true) (f : Nat → Int32) : Un S g (sRow g' a f) := fun b j z => by
  refine ⟨?_, (h b j z).2.1, (h b j z).2.2⟩
  rw [gI_sRow, if_neg]
  · exact (h b j z).1
  · rintro rfl; rw [q] at z; cases z
end UN
/-- the same ints within sup -/
def Ag (sup : Nat → Nat → Bool) (g g' : hG) : Prop := ∀ a k, sup a k = true → gI g' a k = gI g a k
section AG
variable {sup S : Nat → Nat → Bool} {g g' g2 : hG}
theorem Ag.rf : Ag sup g g := fun _ _ _ => rfl
theorem Ag.tr (h : Ag sup g g') (h2 : Ag sup g' g2) : Ag sup g g2 := fun a k q => (h2 a k q).trans (h a k q)
theorem Ag.sI (h : Ag sup g g') {a k : Nat} (q : sup a k = false) (v : Int32) : Ag sup g (sI g' a k v) := fun b j z => by
  rw [gI_sI, if_neg]
  · exact h b j z
  · rintro ⟨rfl, rfl⟩; rw [q] at z; cases z
theorem Ag.sJ (h : Ag sup g g') (a k : Nat) (v : Int64) : Ag sup g (sJ g' a k v) := h
theorem Ag.sP (h : Ag sup g g') (a k : Nat) (v : Option Nat) : Ag sup g (sP g' a k v) := h
theorem Ag.sRow (h : Ag sup g g') {a : Nat} (q : ∀ k, sup a k = false) (f : Nat → Int32) : Ag sup g (sRow g' a f) := fun b j z => by
  rw [gI_sRow, if_neg]
  · exact h b j z
  · rintro rfl; rw [q] at z; cases z
theorem Un.ag (h : Un S g g') (d : ∀ a k, sup a k = true → S a k = false) : Ag sup g g' := fun a k q => h.I (d a k q)
theorem Ag.mo (h : Ag sup g g') {sup' : Nat → Nat → Bool} (d : ∀ a k, sup' a k = true → sup a k = true) : Ag sup' g g' := fun a k q => h a k (d a k q)
end AG
/-! loops over 0 .. N - 1 -/
def it {β : Type} (step : Nat → β → β) : Nat → Nat → β → β
  | _, 0, b => b
  | i, m + 1, b => it step (i + 1) m (step i b)
theorem for_loop {β γ : Type} (L : Nat → β → Nat → γ) (K : β → γ) (step : Nat → β → β) (N : Nat) (hs : ∀ n i b, i < N → L (n + 1) b i = L n (step i b) (i + 1)) (hz : ∀ n b, L (n + 1) b N = K b) : ∀ (m i : Nat) (b : β) (n : Nat), i + m = N → m < n → L n b i = K (it step i m b) := by
  intro m
  induction m with
  | zero =>
    intro i b n h1 h2
    obtain ⟨n, rfl⟩ : ∃ q, n = q + 1 := ⟨n - 1, by omega⟩
    obtain rfl : i = N := by omega
    exact hz n b
  | succ m ih =>
    intro i b n h1 h2
    obtain ⟨n, rfl⟩ : ∃ q, n = q + 1 := ⟨n - 1, by omega⟩
    rw [hs n i b (by omega), ih (i + 1) (step i b) n (by omega) (by omega)]
    rfl
theorem it_inv {β : Type} (step : Nat → β → β) (I : Nat → β → Prop) (N : Nat) (hs : ∀ i b, i < N → I i b → I (i + 1) (step i b)) : ∀ (m i : Nat) (b : β), i + m = N → I i b → I N (it step i m b) := by
  intro m
  induction m with
  | zero => intro i b h1 h2; obtain rfl : i = N := by omega
            exact h2
  | succ m ih => intro i b h1 h2; exact ih (i + 1) _ (by omega) (hs i b (by omega) h2)
theorem it_eq {β β' : Type} (step : Nat → β → β) (step' : Nat → β' → β') (R : Nat → β → β' → Prop) (N : Nat) (hs : ∀ i b b', i < N → R i b b' → R (i + 1) (step i b) (step' i b')) : ∀ (m i : Nat) (b : β) (b' : β'), i + m = N → R i b b' → R N (it step i m b) (it step' i m b') := by
  intro m
  induction m with
  | zero => intro i b b' h1 h2; obtain rfl : i = N := by omega
            exact h2
  | succ m ih => intro i b b' h1 h2; exact ih (i + 1) _ _ (by omega) (hs i b b' (by omega) h2)
theorem it_add {β : Type} (step : Nat → β → β) : ∀ (m i : Nat) (b : β), it step i (m + 1) b = step (i + m) (it step i m b) := by
  intro m
  induction m with
  | zero => intro i b; rfl
  | succ m ih => intro i b; show it step (i + 1) (m + 1) (step i b) = _; rw [ih]; show _ = step (i + (m + 1)) (it step (i + 1) m (step i b)); rw [Nat.add_right_comm, Nat.add_assoc]
theorem FU_lt {n : Nat} (h : n < 1000000) : n < FU := h
/-- tests over small numbers -/
theorem t_ge {a b : Nat} (h : a < b) (hb : b < 2 ^ 31) : ((nI b ≤ nI a) = False) := eq_false (nI_ge h hb)
theorem t_le {a b : Nat} (h : a ≤ b) (hb : b < 2 ^ 31) : ((nI a ≤ nI b) = True) := eq_true (nI_le h hb)

/-! a part of a row, written -/
def sSeg (g : hG) (a off n : Nat) (f : Nat → Int32) : hG := sRow g a (fun k => if off ≤ k ∧ k < off + n then f (k - off) else gI g a k)
theorem gI_sSeg (g : hG) (a off n : Nat) (f : Nat → Int32) (b j : Nat) : gI (sSeg g a off n f) b j = if b = a ∧ off ≤ j ∧ j < off + n then f (j - off) else gI g b j := by
  unfold sSeg
  rw [gI_sRow]
  by_cases h : b = a
  · subst h
    simp
  · simp [h]
theorem sSeg_0 (g : hG) (a off : Nat) (f : Nat → Int32) : sSeg g a off 0 f = g := by
  have e : (fun k => if off ≤ k ∧ k < off + 0 then f (k - off) else gI g a k) = gI g a := by
    funext k
    rw [if_neg (by omega)]
  unfold sSeg
  rw [e]
  have e2 : va_up (gI g) a (gI g a) = gI g := by
    funext b
    unfold va_up
    split
    · rename_i h; rw [h]
    · rfl
  unfold sRow
  rw [e2]
  rfl
theorem sSeg_s (g : hG) (a off i : Nat) (f : Nat → Int32) : sI (sSeg g a off i f) a (off + i) (f i) = sSeg g a off (i + 1) f := by
  have e : u2 (gI (sSeg g a off i f)) a (off + i) (f i) = gI (sSeg g a off (i + 1) f) := by
    funext b j
    have h1 : u2 (gI (sSeg g a off i f)) a (off + i) (f i) b j = gI (sI (sSeg g a off i f) a (off + i) (f i)) b j := rfl
    rw [h1, gI_sI, gI_sSeg, gI_sSeg]
    by_cases h : b = a
    · by_cases h2 : j = off + i
      · rw [if_pos ⟨h, h2⟩, if_pos ⟨h, by omega, by omega⟩, h2, Nat.add_sub_cancel_left]
      · rw [if_neg (fun q => h2 q.2)]
        by_cases h3 : off ≤ j ∧ j < off + i
        · rw [if_pos ⟨h, h3⟩, if_pos ⟨h, h3.1, by omega⟩]
        · rw [if_neg (fun q => h3 q.2), if_neg (fun q => h3 ⟨q.2.1, by omega⟩)]
    · rw [if_neg (fun q => h q.1), if_neg (fun q => h q.1), if_neg (fun q => h q.1)]
  show (_, _, _, _, u2 (gI (sSeg g a off i f)) a (off + i) (f i), _, _) = _
  rw [e]
  rfl
theorem copy_loop {γ : Type} (L : Nat → hG → Nat → γ) (K : hG → γ) (a off N : Nat) (f : Nat → Int32) (g : hG) (hs : ∀ n i, i < N → L (n + 1) (sSeg g a off i f) i = L n (sI (sSeg g a off i f) a (off + i) (f i)) (i + 1)) (hz : ∀ n, L (n + 1) (sSeg g a off N f) N = K (sSeg g a off N f)) (n : Nat) (hn : N < n) : L n g 0 = K (sSeg g a off N f) := by
  have key : ∀ (m i n : Nat), i + m = N → m < n → L n (sSeg g a off i f) i = K (sSeg g a off N f) := by
    intro m
    induction m with
    | zero =>
      intro i n h1 h2
      obtain ⟨n, rfl⟩ : ∃ q, n = q + 1 := ⟨n - 1, by omega⟩
      obtain rfl : i = N := by omega
      exact hz n
    | succ m ih =>
      intro i n h1 h2
      obtain ⟨n, rfl⟩ : ∃ q, n = q + 1 := ⟨n - 1, by omega⟩
      rw [hs n i (by omega), sSeg_s]
      exact ih (i + 1) n (by omega) (by omega)
  have := key N 0 n (by omega) hn
  rw [sSeg_0] at this
  exact this
theorem Un.seg {S : Nat → Nat → Bool} {g g' : hG} (h : Un S g g') {a off n : Nat} (q : ∀ i, i < n → S a (off + i) = true) (f : Nat → Int32) : Un S g (sSeg g' a off n f) := fun b j z => by
  refine ⟨?_, (h b j z).2.1, (h b j z).2.2⟩
  rw [gI_sSeg, if_neg]
  · exact (h b j z).1
  · rintro ⟨rfl, q1, q2⟩
    have := q (j - off) (by omega)
    rw [show off + (j - off) = j by omega] at this
    rw [this] at z
    cases z
theorem Ag.seg {sup : Nat → Nat → Bool} {g g' : hG} (h : Ag sup g g') {a off n : Nat} (q : ∀ i, i < n → sup a (off + i) = false) (f : Nat → Int32) : Ag sup g (sSeg g' a off n f) := fun b j z => by
  rw [gI_sSeg, if_neg]
  · exact h b j z
  · rintro ⟨rfl, q1, q2⟩
    have := q (j - off) (by omega)
    rw [show off + (j - off) = j by omega] at this
    rw [this] at z
    cases z
theorem cpy_seg (g : hG) (a b n : Nat) : sRow g b (va_cpy (gI g a) (gI g b) 0 0 n) = sSeg g b 0 n (gI g a) := by
  have e : va_cpy (gI g a) (gI g b) 0 0 n = fun k => if 0 ≤ k ∧ k < 0 + n then gI g a (k - 0) else gI g b k := by
    funext k
    by_cases h : k < n
    · rw [pk_cpy_in (by omega) (by omega), if_pos ⟨by omega, by omega⟩, Nat.zero_add]
    · rw [pk_cpy_out (by omega), if_neg (by omega)]
  rw [e]
  rfl
