/-! the law's steps: a call that answers, two answers held against each other, the row's next entry -/
section LW
variable {E : hE} {p : Program} {l : Launch} {e : Env} {s : State} {m : MethodId} {below : List Frame} {meth : Method} {c : Code} {b L : Nat} {xs : Nat → Int32} {lv : List (Nat × Value)} {pc : Nat} {st : List Value} {G : hG} {n : Nat} {i : Int32}
theorem lg_cI (C : LC E p s m meth c b L xs) {idx M k ci N a : Nat} {Cn : String} {T : u_T} {ty : Nat → FieldType} {v : Option Value} {G2 : hG} (w1 : Cond.methodLink R_law idx (ynOf M) ∈ gw) (w2 : Cond.instanceMethod (ynOf M) ∈ gw) (w3 : Cond.selects Cn (ynOf M) (ynOf M) ∈ gw) (w4 : Cond.initialized Cn ∈ gw) (w5 : Cond.code (ynOf M) (bcOf M) (mlOf M) (rtOf M) ∈ gw) (cf : hCF ci Cn T N ty)
    (hy0 : ((ynOf M).cls = Cn ∧ (ynOf M).cls ≠ "java/lang/invoke/MethodHandle" ∧ (ynOf M).cls ≠ "java/lang/invoke/VarHandle" ∧ (parseMethodDescriptor (ynOf M).desc).map (fun d => d.parameters.length) = some k) ∧ mlOf M ≤ 45) (hd : decode code pc = .ok (.invokevirtual idx, 3)) (As rest : List Value) (hst : st = (As.map (rv E)).reverse ++ .ref (hAd E a) :: rest) (hAs : As.length = k) (hk0 : K0.getD a 99 = ci) (hcat : (rest.map fun v => v.category).sum ≤ 8) (hM : M < 286) (hlen : (lArg (.ref a :: As)).length ≤ mlOf M) (hF : Frz G) (hF2 : Frz G2)
    (hr : ∃ f0, ∀ f, f0 ≤ f → hrun f 200 M 0 (lvOf M (.ref a :: As)) [] G = some (v, G2)) (kk : LG E p l e s m below meth c b lv (pc + 3) ((v.map (rv E)).toList ++ rest) G2) :
    LG E p l e s m below meth c b lv pc st G := by
  rw [hst]
  obtain ⟨f0, hr⟩ := hr
  exact lg_call C w1 w2 w3 w4 w5 cf hy0 hd hAs (by rw [hF.2.2.1 a]; exact hk0) hcat hM hlen ⟨f0, hr f0 (Nat.le_refl _)⟩ ⟨by rw [hF2.1]; omega, by rw [hF2.2.1]; omega⟩ kk
theorem lg_eq (C : LC E p s m meth c b L xs) {off : Int} {tgt : Nat} {x : Int32} (hd : decode code pc = .ok (.if_icmp .eq off, 3)) (ht : (pc : Int) + off = (tgt : Int)) (kk : LG E p l e s m below meth c b lv tgt st G) : LG E p l e s m below meth c b lv pc (.int x :: .int x :: st) G :=
  fun H locs ls hl hw hS => lv_icmp_eq C.1.1 C.1.2.1 hd ht (fun _ => kk H locs ls hl hw hS) (fun q => absurd rfl q)
theorem lg_eqJ (C : LC E p s m meth c b L xs) {off : Int} {tgt : Nat} {x : Int64} (hd0 : decode code pc = .ok (.lcmp, 1)) (hd : decode code (pc + 1) = .ok (.ifCond .eq off, 3)) (ht : ((pc + 1 : Nat) : Int) + off = (tgt : Int)) (kk : LG E p l e s m below meth c b lv tgt st G) : LG E p l e s m below meth c b lv pc (.long x :: .long x :: st) G := by
  intro H locs ls hl hw hS
  refine W.lcmp C.1.1 C.1.2.1 hd0 ?_
  have e0 : lg_cmp x x = 0 := by unfold lg_cmp; simp
  rw [e0]
  exact lv_if_eq C.1.1 C.1.2.1 hd ht (fun _ => kk H locs ls hl hw hS) (fun q => absurd rfl q)
/-- the row's next entry -/
theorem lg_next (C : LC E p s m meth c b L xs) (kk : LG E p l e s m below meth c b (lvI E b (nI (n + 6))) 18 [] G) : LG E p l e s m below meth c b (lvI E b (nI n)) 1256 [] G := by
  intro H locs ls hl hw hS
  refine lv_iinc (v := nI (n + 6)) (lv' := lvI E b (nI (n + 6))) C.1.1 C.1.2.1 d_law_1256 hl (k := 0) rfl (by rw [← nI_add]; rfl) (by decide) rfl (fun ls hl => ?_)
  exact lv_goto (tgt := 18) C.1.1 C.1.2.1 d_law_1259 (by decide) (kk H locs ls hl hw hS)
/-- the end: there is no entry left -/
theorem lg_done (C : LC E p s m meth c b L xs) (hG : gn G ≤ 600000 ∧ gs G ≤ 7302250) : LG E p l e s m below meth c b lv 1262 [] G := by
  intro H locs ls hl hw hS
  refine lv_iconst (v := 1) C.1.1 C.1.2.1 d_law_1262 (by decide) ?_
  refine va_forget (fun q hq => ?_) ?_
  · have h1 := hS.2.2 q hq
    have h2 : E.1 ≤ q.base := h1
    have h3 := C.2.2.1
    omega
  · refine W.widen (k := 600000) (n := 7302250) hG.1 hG.2 ?_
    exact lw_ret C.1.1 C.1.2.1 C.1.2.2.1 C.1.2.2.2.2.2.2.2.2.1 d_law_1263
/-- the row's end is looked for: an entry is left -/
theorem lg_head (C : LC E p s m meth c b L xs) (hG : gn G ≤ 600000 ∧ gs G ≤ 7302250) (hn : n ≤ L + 6)
    (kk : n + 6 ≤ L → LG E p l e s m below meth c b (lvI E b (nI n)) 33 [.int (xs n &&& 63)] G) : LG E p l e s m below meth c b (lvI E b (nI n)) 18 [] G := by
  intro H locs ls hl hw hS
  have hL := C.2.2.2
  have hX := C.1.2.2.2.2.2.2.1
  have hbl := C.1.2.2.2.2.2.2.2.1
  refine lv_iload_n C.1.1 C.1.2.1 d_law_18 rfl (lv_at hl 0 rfl) ?_
  refine lv_aload_n C.1.1 C.1.2.1 d_law_19 rfl (lv_at hl 3 rfl) ?_
  refine va_slen C.1.1 C.1.2.1 hX hbl (lg_bA C) hS d_law_20 ?_
  refine lv_bipush (v := 6) C.1.1 C.1.2.1 d_law_21 (by decide) ?_
  refine lv_isub C.1.1 C.1.2.1 d_law_23 ?_
  have eL : (Int32.ofNat L - 6).toInt = (L : Int) - 6 := by
    have h1 : (Int32.ofNat L).toInt = (L : Int) := Int32.toInt_ofNat_of_lt (by omega)
    rw [Int32.toInt_sub, h1]
    show Int.bmod ((L : Int) - 6) (2 ^ 32) = _
    rw [Int.bmod_eq_of_le (by omega) (by omega)]
  have eN : (nI n).toInt = (n : Int) := Int32.toInt_ofNat_of_lt (by omega)
  refine lv_icmp_gt (tgt := 1262) C.1.1 C.1.2.1 d_law_24 (by decide) (fun _ => ?_) (fun q => ?_)
  · exact lg_done C hG H locs ls hl hw hS
  · have hle : n + 6 ≤ L := by
      by_cases z : n + 6 ≤ L
      · exact z
      · refine absurd ?_ q
        refine Int32.lt_iff_toInt_lt.mpr ?_
        rw [eL, eN]
        omega
    refine lv_aload_n C.1.1 C.1.2.1 d_law_27 rfl (lv_at hl 3 rfl) ?_
    refine lv_iload_n C.1.1 C.1.2.1 d_law_28 rfl (lv_at hl 0 rfl) ?_
    refine va_sld C.1.1 C.1.2.1 hX hbl (lg_bA C) hS (vp_in_nI (show n < L by omega) (by omega)) d_law_29 ?_
    rw [nI_clamp (by omega)]
    refine lv_bipush (v := 63) C.1.1 C.1.2.1 d_law_30 (by decide) ?_
    refine lv_iand C.1.1 C.1.2.1 d_law_32 ?_
    exact kk hle H locs ls hl hw hS
end LW
