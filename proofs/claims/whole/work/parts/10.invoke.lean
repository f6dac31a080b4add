/-! calls: a method's contract out of the machine's answer -/
theorem hV.to {E : hE} {s U : State} (hvm : s.vm.Alike U.vm) (hR : ∀ (j : Nat) (q : Nat × String), strK[j]? = some q → vk_R "MercuryPost$Tape" q.1 q.2 (E.2.1 j) U)
    (hF : ∀ (j : Nat) (q : String × Nat × String × String × String × String), nwF[j]? = some q → va_Nw (.fieldLinkNest q.1 q.2.1 q.2.2.1 q.2.2.2.1 q.2.2.2.2.1 q.2.2.2.2.2) U) (hN : ∀ (j : Nat) (q : String × Nat × MethodName × String), nwM[j]? = some q → va_Nw (.methodLinkNest q.1 q.2.1 q.2.2.1 q.2.2.2) U)
    (hk : ∀ a : Nat, a < s.heap.size → ¬ hA E a → U.heap[a]? = s.heap[a]?) (h : hV E s) : hV E U := by
  obtain ⟨h1, h2, -, -, -, h6, h7, h8, h9, h10⟩ := h
  exact ⟨h1.moved hvm, (h2.moved hvm).kept hk, hR, hF, hN, (h6.moved hvm).kept hk, (h7.moved hvm).kept hk, h8.moved hvm, h9.moved hvm, h10.moved hvm⟩
theorem hV.warm {E : hE} {s U : State} (hW : s.WarmedH U.vm) (hk : ∀ a : Nat, a < s.heap.size → ¬ hA E a → U.heap[a]? = s.heap[a]?) (h : hV E s) : hV E U :=
  hV.to hW.alike (fun j q hq => (h.2.2.1 j q hq).warm hW) (fun j q hq => va_Nw.warmF hW (h.2.2.2.1 j q hq)) (fun j q hq => va_Nw.warmM hW (h.2.2.2.2.1 j q hq)) hk h
theorem hV.same {E : hE} {s U : State} (hvm : U.vm = s.vm) (hh : U.heap = s.heap) (h : hV E s) : hV E U :=
  hV.to (by rw [hvm]; exact Vm.Alike.refl _) (fun j q hq => (h.2.2.1 j q hq).same hvm) (fun j q hq => va_Nw.same rfl hvm.symm (h.2.2.2.1 j q hq)) (fun j q hq => va_Nw.same rfl hvm.symm (h.2.2.2.2.1 j q hq)) (fun a _ _ => by rw [hh]) h
theorem hPc.blind {E : hE} {av : List Value} {G : hG} : FrameBlind (hPc E av G) := fun a U g mk h => ⟨h.1, h.2.1, hV.same rfl rfl h.2.2⟩
theorem hPc.at {E : hE} {av : List Value} {G : hG} {s : State} {H : Heap} {locs : List Loc} (hw : hW E G H) (hS : va_S (hA E) s.heap H locs) (hV0 : hV E s) (U : State) (hU : U.heap = H) (hW0 : s.WarmedH U.vm) : hPc E av G (av.map (rv E)).toArray U :=
  ⟨rfl, by rw [hU]; exact hw, hV.warm hW0 (fun a h1 h2 => by rw [hU]; exact hS.2.1 a h1 h2) hV0⟩
section VX
variable {p : Program} {l : Launch} {e : Env} {R : Room} {s : State} {m : MethodId} {args : Array Value} {below : List Frame} {meth : Method} {c : Code} {H : Heap} {locs : List Loc} {cells slots : Nat} {Q : State → Prop}
variable {cc : ByteArray} {pc : Nat} {ls : Array Slot} {rest st0 : List Value}
theorem hx_call {E : hE} {G2 : hG} {v : Option Value} {mc ms : Nat} {a : Array Value} (hr : va_Run p l e R s m args below meth c H locs cells slots mc ms (F0 m pc ls st0) rest (hQ E G2 v a) (hA E)) (hS : va_S (hA E) s.heap H locs)
    (kk : ∀ (H1 : Heap) (locs1 : List Loc), hW E G2 H1 → va_S (hA E) s.heap H1 locs1 → W p l e R s m args below meth c H1 locs1 (cells + mc) (slots + ms) Q (F0 m (pc + 3) ls ((v.map (rv E)).toList ++ rest))) : W p l e R s m args below meth c H locs cells slots Q (F0 m pc ls st0) := by
  intro T hT X
  obtain ⟨v', st₀, t, T', L, h0, X', hL, e1, e2, ⟨hv, hw, hz, hk⟩, st⟩ := hr T hT X
  cases hv
  rw [h0] at hz hk
  obtain ⟨t2, a1, b1⟩ := kk T'.heap (locs ++ L) (by rw [e1]; exact hw)
    ⟨Nat.le_trans hS.1 (by rw [e1]; exact hz), fun q h1 h2 => by rw [e1, hk q (Nat.lt_of_lt_of_le h1 hS.1) h2]; exact hS.2.1 q h1 h2, fun q hq => by
      rcases List.mem_append.mp hq with h | h
      · exact hS.2.2 q h
      · exact hL q h⟩ T' rfl X'
  exact ⟨t2, st t2 a1, b1⟩
/-- a piece of a row of ints copied into another one -/
theorem hx_cpy {D : va_G} {cl : List vw_C} {A : Nat → Prop} {a : Nat} {tys : List (ClassId × FieldType)} {ws : va_W} {H0 : Heap} (hexec : p.tables.exec = Jvm.exec) (hb : c.code = cc) (hml : c.maxLocals = ls.size) {own : String} {index : Nat} (hown : s.vm.findClass own = some m.cls) (hlink : (Cond.methodLink own index arraycopyName).before args s = true) (hnat : (Cond.native arraycopyName).before args s = true) (hstat : (Cond.static arraycopyName).before args s = true) (hini : (Cond.initialized "java/lang/System").before args s = true)
    (hK : va_K D cl tys s) (hP : va_P D cl ws H) (hD : va_D A ws) (hS : va_S A H0 H locs) (q0 q1 t0 : Nat) {b0 : Nat} {c0 : ClassId} {n0 n1 : Nat} {f g : Nat → Int32} (ha0 : ws[q0]? = some (b0, .inl (c0, n0, .inl f))) (ha1 : ws[q1]? = some (a, .inl (c0, n1, .inl g))) (ht1 : tys[t0]? = some (c0, .int))
    {sp dp n : Int32} (h1 : ¬ sp < 0) (h2 : ¬ dp < 0) (h3 : ¬ n < 0) (h4 : sp.toNatClampNeg + n.toNatClampNeg ≤ n0) (h5 : dp.toNatClampNeg + n.toNatClampNeg ≤ n1)
    (hframes : 1 ≤ R.frames) (hlocals : (rest.map fun v => v.category).sum + (nativeFrameWords "java/lang/System" "arraycopy" 5 + 11) ≤ R.locals) (hdg : decode cc pc = .ok (.invokestatic index, 3))
    (kk : ∀ (H1 : Heap) (locs1 : List Loc), H1.size = H.size → va_P D cl (ws.set q1 (a, .inl (c0, n1, .inl (va_cpy f g sp.toNatClampNeg dp.toNatClampNeg n.toNatClampNeg)))) H1 → va_D A (ws.set q1 (a, .inl (c0, n1, .inl (va_cpy f g sp.toNatClampNeg dp.toNatClampNeg n.toNatClampNeg)))) → va_S A H0 H1 locs1 → W p l e R s m args below meth c H1 locs1 cells slots Q (F0 m (pc + 3) ls rest)) : W p l e R s m args below meth c H locs cells slots Q (F0 m pc ls (.int n :: .int dp :: .ref a :: .int sp :: .ref b0 :: rest)) := by
  have nn : ∀ z : Int32, ¬ z < 0 → z.toInt = (z.toNatClampNeg : Int) := by
    intro z hz
    have hz0 : (0 : Int) ≤ z.toInt := by
      have := Int32.not_lt.mp hz
      simpa using Int32.le_iff_toInt_le.mp this
    show z.toInt = ((z.toInt.toNat : Nat) : Int)
    omega
  intro T hT X
  have hc0 : H[b0]? = some (vp_cell c0 (n0, .inl f)) := hP q0 _ ha0
  have hc1 : H[a]? = some (vp_cell c0 (n1, .inl g)) := hP q1 _ ha1
  obtain ⟨-, k0, hk0, cm0, hkk0⟩ := (hK.2 t0 _ ht1).1 n0 (fun j => .int (f j))
  obtain ⟨-, k1, hk1, cm1, hkk1⟩ := (hK.2 t0 _ ht1).1 n1 (fun j => .int (g j))
  obtain ⟨vm', X', step⟩ := X.arraycopy hexec hown hlink hnat hstat hini (src := b0) (dst := a) (cs := vp_cell c0 (n0, .inl f)) (cd := vp_cell c0 (n1, .inl g)) (srcPos := sp) (destPos := dp) (n := n) (by rw [hT]; exact hc0) (by rw [hT]; exact hc1)
    (fun _ h => by cases h) (fun _ h => by cases h) (fun h => by cases h) (fun h => by cases h) hk0 hk1 hkk0 hkk1 (by simp [refKind]) h1 h2 h3
    (by rw [nn sp h1, nn n h3]; show ¬ _ > ((arrV c0 n0 (fun j => .int (f j))).slots.size : Int); rw [arrV_size]; omega)
    (by rw [nn dp h2, nn n h3]; show ¬ _ > ((arrV c0 n1 (fun j => .int (g j))).slots.size : Int); rw [arrV_size]; omega)
    (fun vm₁ _ i hi => by
      have e : (vp_cell c0 (n0, .inl f)).slots.getD (sp.toNatClampNeg + i) .null = .int (f (sp.toNatClampNeg + i)) := by
        rw [Array.getD_eq_getD_getElem?]
        show ((arrV c0 n0 (fun j => .int (f j))).slots[_]?).getD _ = _
        rw [arrV_read _ _ (by omega)]
        rfl
      refine ⟨?_, ?_⟩
      · rw [e]
        rfl
      · rw [e]
        exact trivial)
    (g := F0 m pc ls (.int n :: .int dp :: .ref a :: .int sp :: .ref b0 :: rest)) rfl (by rw [hml]) (rest := rest) rfl (by rw [hb]; exact hdg) hframes (by show 2 * 0 + _ + _ ≤ _; omega)
  have e1 : copied (vp_cell c0 (n0, .inl f)) (vp_cell c0 (n1, .inl g)) sp dp n = vp_cell c0 (n1, .inl (va_cpy f g sp.toNatClampNeg dp.toNatClampNeg n.toNatClampNeg)) := va_copied (fun z => .int z) c0 c0 f g h4
  rw [e1] at X' step
  have hl : a < H.size := (Array.getElem?_eq_some_iff.mp hc1).1
  have hheap : ((T.setVm vm').setCell a (vp_cell c0 (n1, .inl (va_cpy f g sp.toNatClampNeg dp.toNatClampNeg n.toNatClampNeg)))).heap = H.setIfInBounds a (vp_cell c0 (n1, .inl (va_cpy f g sp.toNatClampNeg dp.toNatClampNeg n.toNatClampNeg))) := by rw [← hT]; rfl
  have oq : ∀ q : Nat, q ≠ a → (H.setIfInBounds a (vp_cell c0 (n1, .inl (va_cpy f g sp.toNatClampNeg dp.toNatClampNeg n.toNatClampNeg))))[q]? = H[q]? := fun q hq => by simp [Array.getElem?_setIfInBounds, Ne.symm hq]
  obtain ⟨t, a1, b1⟩ := kk _ _ (by simp) (hP.set hD ha1 (show (H.setIfInBounds a _)[a]? = some _ by simp [Array.getElem?_setIfInBounds, hl]) oq) (hD.set ha1) ⟨by simp; exact hS.1, fun q g1 g2 => by
      rw [oq q (fun e => g2 (by rw [e]; exact hD.2 q1 _ ha1))]
      exact hS.2.1 q g1 g2, fun q hq => by
      rcases List.mem_append.mp hq with h | h
      · exact hS.2.2 q h
      · obtain ⟨z, -, hz⟩ := List.mem_map.mp h
        rw [← hz]
        exact hD.2 q1 _ ha1⟩ _ hheap X'
  exact ⟨t, step t a1, b1⟩
end VX
section OK
variable {own : String} {cc : ByteArray} {ml : Nat} {rt : Option FieldType} {mn : String} {pcs : List Nat} {pc : Nat}
theorem nfw : nativeFrameWords "java/lang/System" "arraycopy" 5 = 7 := by decide +kernel
theorem ok_cpy {idx : Nat} (hw1 : Cond.methodLink own idx arraycopyName ∈ gw) (hw2 : Cond.native arraycopyName ∈ gw) (hw3 : Cond.static arraycopyName ∈ gw) (hw4 : Cond.initialized "java/lang/System" ∈ gw) (hd : decode cc pc = .ok (.invokestatic idx, 3)) : ok1 own cc ml rt mn pcs pc 3 oCpy := by
  refine ⟨mo_oCpy, ?_⟩
  intro E d Gs G' r p l e s m args below meth c C0 nx jp cl lv st G hn hj hc h
  obtain ⟨hx, hb, hml, hr, hown, hts, hlk, hmn, hV, hbs⟩ := C0
  unfold oCpy at h
  split at h
  · rename_i n dp b sp a rs
    split at h
    · rename_i hk0
      obtain ⟨ka, kb, kab, z1, z2, z3, z4, z5, z6⟩ := hk0
      obtain ⟨h1, h2⟩ := hn _ _ _ h
      refine ⟨h1, fun H locs ls hl hw hS ha hb2 => ?_⟩
      obtain ⟨ga, ga2⟩ := hw.lt (a := a) (by omega)
      obtain ⟨gb, gb2⟩ := hw.lt (a := b) (by omega)
      show W p l e _ s m args below meth c H locs _ _ _ (F0 m pc ls (.int n :: .int dp :: .ref (hAd E b) :: .int sp :: .ref (hAd E a) :: rs.map (rv E)))
      rw [hAd_lo E ga2, hAd_lo E gb2]
      refine hx_cpy (rest := rs.map (rv E)) hx hb (by rw [hml]; exact hl.1.symm) hown (hts _ hw1) (hts _ hw2) (hts _ hw3) (hts _ hw4) hV.1 hw.1 hw.2.1 hS a b 0 (by rw [wL_get E G ga, wEnt_13 ka]) (by rw [wL_get E G gb, wEnt_13 kb]) rfl z1 z2 z3 z4 z5 (by show 1 ≤ d + 1; omega) (by rw [cats_map, nfw]; show _ + (7 + 11) ≤ 64 * (d + 1); omega) hd (fun H1 locs1 hz1 hP1 hD1 hS1 => ?_)
      exact h2 H1 locs1 ls hl (hw.same hz1 hP1 hD1 (wL_set rfl gb (by rw [wEnt_13 (show gk (sRow G b _) b = 13 from kb), show gI (sRow G b (va_cpy (gI G a) (gI G b) sp.toNatClampNeg dp.toNatClampNeg n.toNatClampNeg)) b = va_cpy (gI G a) (gI G b) sp.toNatClampNeg dp.toNatClampNeg n.toNatClampNeg from va_self _ _ _]; rfl) (fun b hb => wEnt_row hb)) rfl rfl) hS1 ha hb2
    · cases h
  · cases h
theorem gw_V {own : String} {idx : Nat} {C : String} {y : MethodName} {w0 : Cond} (h1 : Cond.methodLink own idx y ∈ gw) (h2 : Cond.instanceMethod y ∈ gw) (h3 : Cond.selects C y y ∈ gw) (h4 : Cond.initialized C ∈ gw) (h5 : w0 ∈ gw) : GoodIn gw (wsV own idx C y (w0 :: gw)) := by
  intro w hw
  have hw' : w ∈ [Cond.methodLink own idx y, .instanceMethod y, .selects C y y, .initialized C] ++ w0 :: gw := hw
  refine gw_in w ?_
  simp only [List.mem_append, List.mem_cons, List.not_mem_nil, or_false] at hw'
  rcases hw' with (rfl | rfl | rfl | rfl) | rfl | h
  · exact h1
  · exact h2
  · exact h3
  · exact h4
  · exact h5
  · exact h
theorem gw_S {own : String} {idx : Nat} {y : MethodName} {w0 : Cond} (h1 : Cond.methodLink own idx y ∈ gw) (h2 : Cond.static y ∈ gw) (h4 : Cond.initialized y.cls ∈ gw) (h5 : w0 ∈ gw) : GoodIn gw (va_wsS own idx y (w0 :: gw)) := by
  intro w hw
  have hw' : w ∈ [Cond.methodLink own idx y, .static y, .initialized y.cls] ++ w0 :: gw := hw
  refine gw_in w ?_
  simp only [List.mem_append, List.mem_cons, List.not_mem_nil, or_false] at hw'
  rcases hw' with (rfl | rfl | rfl) | rfl | h
  · exact h1
  · exact h2
  · exact h4
  · exact h5
  · exact h
theorem gw_W {w0 : Cond} (h5 : w0 ∈ gw) : GoodIn gw (w0 :: gw) := fun w hw => gw_in w (by rcases List.mem_cons.mp hw with rfl | h; exact h5; exact h)
theorem wsOf_v {M : Nat} (h : rtOf M = none) : wsOf M = Cond.code (ynOf M) (bcOf M) (mlOf M) none :: gw := by unfold wsOf; rw [h]
/-- what is asked of a callee -/
def cChk (y : MethodName) (n ml : Nat) : Prop := (y.cls ≠ "java/lang/invoke/MethodHandle" ∧ y.cls ≠ "java/lang/invoke/VarHandle" ∧ (parseMethodDescriptor y.desc).map (fun d => d.parameters.length) = some n) ∧ ml ≤ 45
theorem rm_ok {d' mc ms ml : Nat} (h : ml ≤ 45) {mc' ms' : Nat} : (hRoom d' mc ms).frames + 1 ≤ (hRoom (d' + 1) mc' ms').frames ∧ 8 + (ml + 11) + (hRoom d' mc ms).locals ≤ (hRoom (d' + 1) mc' ms').locals := by
  refine ⟨Nat.le_refl _, ?_⟩
  show 8 + (ml + 11) + 64 * (d' + 1) ≤ 64 * (d' + 1 + 1)
  omega
theorem st_split {E : hE} {st rs : List Value} {n a : Nat} (h : st.drop n = .ref a :: rs) : st.map (rv E) = ((st.take n).reverse.map (rv E)).reverse ++ .ref (hAd E a) :: rs.map (rv E) := by
  rw [List.map_reverse, List.reverse_reverse]
  conv => lhs; rw [← List.take_append_drop n st, h, List.map_append]
  rfl
theorem ok_invV {idx M' n mlv : Nat} {y : MethodName} {b : ByteArray} {rtv : Option FieldType} {ci N : Nat} {C : String} {T : u_T} {ty : Nat → FieldType} (hw1 : Cond.methodLink own idx y ∈ gw) (hw2 : Cond.instanceMethod y ∈ gw) (hw3 : Cond.selects C y y ∈ gw) (hw4 : Cond.initialized C ∈ gw) (hw5 : Cond.code y b mlv rtv ∈ gw) (cf : hCF ci C T N ty) (hM0 : (ynOf M', bcOf M', mlOf M', rtOf M') = (y, b, mlv, rtv)) (hy0 : (y.cls = C ∧ y.cls ≠ "java/lang/invoke/MethodHandle" ∧ y.cls ≠ "java/lang/invoke/VarHandle" ∧ (parseMethodDescriptor y.desc).map (fun d => d.parameters.length) = some n) ∧ mlv ≤ 45) (hd : decode cc pc = .ok (.invokevirtual idx, 3)) : ok1 own cc ml rt mn pcs pc 3 (oInvV M' ci n) := by
  refine ⟨mo_oInvV, ?_⟩
  intro E d Gs G' r p l e s m args below meth c C0 nx jp cl lv st G hn hj hc h
  obtain ⟨hx, hb, hml, hr, hown, hts, hlk, hmn, hV, hbs⟩ := C0
  obtain ⟨hy, h45⟩ := hy0
  cases hM0
  obtain ⟨c1, c2, c3, c4, c5, c6, c7⟩ := cf
  unfold oInvV at h
  split at h
  · rename_i a rs hdrop
    split at h
    · rename_i hk0
      obtain ⟨hk0, hcat⟩ := hk0
      split at h
      · rename_i v G2 hcl
        obtain ⟨d', rfl, hmo, hMet⟩ := hc _ _ _ _ _ hcl
        obtain ⟨h1, h2⟩ := hn _ _ _ h
        refine ⟨⟨by omega, by omega⟩, fun H locs ls hl hw hS ha hb2 => ?_⟩
        have hlt := hw.lt (a := a) (by omega)
        have hre := va_recv hV.1 hw.1 c2 (show (wL E G)[a]? = some (E.1 + a, .inr (ci, fL E G a (ftL ci))) by rw [wL_get E G hlt.1, wEnt_cls hk0 c1])
        rw [← hAd_lo E hlt.2] at hre
        have hnl : ((st.take n).reverse.map (rv E)).length = n := by rw [List.length_map, List.length_reverse, List.length_take]; have := congrArg List.length hdrop; rw [List.length_drop, List.length_cons] at this; omega
        rw [st_split (E := E) hdrop]
        have hrun := va_runV (C := C) (b := hAd E a) (p := p) (l := l) (e := e) (s := s) (m := m) (args := args) (below := below) (meth := meth) (c := c) (cells := gn G - gn Gs) (slots := gs G - gs Gs) (H := H) (locs := locs) (g := F0 m pc ls _) (rest := rs.map (rv E)) (As := (st.take n).reverse.map (rv E)) ⟨hx, hb, hml, hown, hts⟩ hMet (cwV n hts (gw_V hw1 hw2 hw3 hw4 hw5) rfl rfl rfl hy (rm_ok h45)) (⟨hPc.blind, hre, fun U hU hW0 => hPc.at hw hS hV U hU hW0⟩) rfl hnl hl.1 rfl (by show 2 * 0 + _ ≤ 8; rw [cats_map]; omega) hd (R := hRoom (d' + 1) (gn G' - gn Gs) (gs G' - gs Gs)) ⟨by show _ ≤ gn G' - gn Gs; omega, by show _ ≤ gs G' - gs Gs; omega⟩
        refine hx_call (E := E) (G2 := G2) (v := some v) hrun hS (fun H1 locs1 hw1 hS1 => ?_)
        have h3 := h2 H1 locs1 ls hl hw1 hS1 (by omega) (by omega)
        rw [show gn G2 - gn Gs = gn G - gn Gs + (gn G2 - gn G) by omega, show gs G2 - gs Gs = gs G - gs Gs + (gs G2 - gs G) by omega] at h3
        exact h3
      · rename_i G2 hcl
        obtain ⟨d', rfl, hmo, hMet⟩ := hc _ _ _ _ _ hcl
        obtain ⟨h1, h2⟩ := hn _ _ _ h
        refine ⟨⟨by omega, by omega⟩, fun H locs ls hl hw hS ha hb2 => ?_⟩
        have hlt := hw.lt (a := a) (by omega)
        have hre := va_recv hV.1 hw.1 c2 (show (wL E G)[a]? = some (E.1 + a, .inr (ci, fL E G a (ftL ci))) by rw [wL_get E G hlt.1, wEnt_cls hk0 c1])
        rw [← hAd_lo E hlt.2] at hre
        have hnl : ((st.take n).reverse.map (rv E)).length = n := by rw [List.length_map, List.length_reverse, List.length_take]; have := congrArg List.length hdrop; rw [List.length_drop, List.length_cons] at this; omega
        rw [st_split (E := E) hdrop]
        have hrun := va_runV (C := C) (b := hAd E a) (p := p) (l := l) (e := e) (s := s) (m := m) (args := args) (below := below) (meth := meth) (c := c) (cells := gn G - gn Gs) (slots := gs G - gs Gs) (H := H) (locs := locs) (g := F0 m pc ls _) (rest := rs.map (rv E)) (As := (st.take n).reverse.map (rv E)) ⟨hx, hb, hml, hown, hts⟩ hMet (cwV n hts (gw_V hw1 hw2 hw3 hw4 hw5) rfl rfl rfl hy (rm_ok h45)) (⟨hPc.blind, hre, fun U hU hW0 => hPc.at hw hS hV U hU hW0⟩) rfl hnl hl.1 rfl (by show 2 * 0 + _ ≤ 8; rw [cats_map]; omega) hd (R := hRoom (d' + 1) (gn G' - gn Gs) (gs G' - gs Gs)) ⟨by show _ ≤ gn G' - gn Gs; omega, by show _ ≤ gs G' - gs Gs; omega⟩
        refine hx_call (E := E) (G2 := G2) (v := none) hrun hS (fun H1 locs1 hw1 hS1 => ?_)
        have h3 := h2 H1 locs1 ls hl hw1 hS1 (by omega) (by omega)
        rw [show gn G2 - gn Gs = gn G - gn Gs + (gn G2 - gn G) by omega, show gs G2 - gs Gs = gs G - gs Gs + (gs G2 - gs G) by omega] at h3
        exact h3
      · cases h
    · cases h
  · cases h
theorem ok_invI {idx M' n mlv : Nat} {y : MethodName} {b : ByteArray} {ci N : Nat} {C : String} {T : u_T} {ty : Nat → FieldType} (hw1 : Cond.methodLink own idx y ∈ gw) (hw2 : Cond.instanceMethod y ∈ gw) (hw4 : Cond.initialized y.cls ∈ gw) (hw5 : Cond.code y b mlv none ∈ gw) (cf : hCF ci C T N ty) (hM0 : (ynOf M', bcOf M', mlOf M') = (y, b, mlv)) (hq0 : rtOf M' = none) (hin : y.name = "<init>") (hy0 : (y.cls ≠ "java/lang/invoke/MethodHandle" ∧ y.cls ≠ "java/lang/invoke/VarHandle" ∧ (parseMethodDescriptor y.desc).map (fun d => d.parameters.length) = some n) ∧ mlv ≤ 45) (hd : decode cc pc = .ok (.invokespecial idx, 3)) : ok1 own cc ml rt mn pcs pc 3 (oInvV M' ci n) := by
  refine ⟨mo_oInvV, ?_⟩
  intro E d Gs G' r p l e s m args below meth c C0 nx jp cl lv st G hn hj hc h
  obtain ⟨hx, hb, hml, hr, hown, hts, hlk, hmn, hV, hbs⟩ := C0
  obtain ⟨hy, h45⟩ := hy0
  cases hM0
  unfold oInvV at h
  split at h
  · rename_i a rs hdrop
    split at h
    · rename_i hk0
      obtain ⟨hk0, hcat⟩ := hk0
      split at h
      · rename_i v G2 hcl
        obtain ⟨d', rfl, hmo, hMet⟩ := hc _ _ _ _ _ hcl
        obtain ⟨h1, h2⟩ := hn _ _ _ h
        refine ⟨⟨by omega, by omega⟩, fun H locs ls hl hw hS ha hb2 => ?_⟩
        have hnl : ((st.take n).reverse.map (rv E)).length = n := by rw [List.length_map, List.length_reverse, List.length_take]; have := congrArg List.length hdrop; rw [List.length_drop, List.length_cons] at this; omega
        rw [st_split (E := E) hdrop]
        have hrun := va_runI (b := hAd E a) (p := p) (l := l) (e := e) (s := s) (m := m) (args := args) (below := below) (meth := meth) (c := c) (cells := gn G - gn Gs) (slots := gs G - gs Gs) (H := H) (locs := locs) (g := F0 m pc ls _) (rest := rs.map (rv E)) (As := (st.take n).reverse.map (rv E)) ⟨hx, hb, hml, hown, hts⟩ hMet (cwI n hts (gw_W (hq0.symm ▸ hw5)) (wsOf_v hq0) rfl rfl (hts _ hw4) (hts _ hw1) (hts _ hw2) hin hy (rm_ok h45)) (⟨hPc.blind, fun U hU hW0 => hPc.at hw hS hV U hU hW0⟩) rfl hnl hl.1 rfl (by show 2 * 0 + _ ≤ 8; rw [cats_map]; omega) hd (R := hRoom (d' + 1) (gn G' - gn Gs) (gs G' - gs Gs)) ⟨by show _ ≤ gn G' - gn Gs; omega, by show _ ≤ gs G' - gs Gs; omega⟩
        refine hx_call (E := E) (G2 := G2) (v := some v) hrun hS (fun H1 locs1 hw1 hS1 => ?_)
        have h3 := h2 H1 locs1 ls hl hw1 hS1 (by omega) (by omega)
        rw [show gn G2 - gn Gs = gn G - gn Gs + (gn G2 - gn G) by omega, show gs G2 - gs Gs = gs G - gs Gs + (gs G2 - gs G) by omega] at h3
        exact h3
      · rename_i G2 hcl
        obtain ⟨d', rfl, hmo, hMet⟩ := hc _ _ _ _ _ hcl
        obtain ⟨h1, h2⟩ := hn _ _ _ h
        refine ⟨⟨by omega, by omega⟩, fun H locs ls hl hw hS ha hb2 => ?_⟩
        have hnl : ((st.take n).reverse.map (rv E)).length = n := by rw [List.length_map, List.length_reverse, List.length_take]; have := congrArg List.length hdrop; rw [List.length_drop, List.length_cons] at this; omega
        rw [st_split (E := E) hdrop]
        have hrun := va_runI (b := hAd E a) (p := p) (l := l) (e := e) (s := s) (m := m) (args := args) (below := below) (meth := meth) (c := c) (cells := gn G - gn Gs) (slots := gs G - gs Gs) (H := H) (locs := locs) (g := F0 m pc ls _) (rest := rs.map (rv E)) (As := (st.take n).reverse.map (rv E)) ⟨hx, hb, hml, hown, hts⟩ hMet (cwI n hts (gw_W (hq0.symm ▸ hw5)) (wsOf_v hq0) rfl rfl (hts _ hw4) (hts _ hw1) (hts _ hw2) hin hy (rm_ok h45)) (⟨hPc.blind, fun U hU hW0 => hPc.at hw hS hV U hU hW0⟩) rfl hnl hl.1 rfl (by show 2 * 0 + _ ≤ 8; rw [cats_map]; omega) hd (R := hRoom (d' + 1) (gn G' - gn Gs) (gs G' - gs Gs)) ⟨by show _ ≤ gn G' - gn Gs; omega, by show _ ≤ gs G' - gs Gs; omega⟩
        refine hx_call (E := E) (G2 := G2) (v := none) hrun hS (fun H1 locs1 hw1 hS1 => ?_)
        have h3 := h2 H1 locs1 ls hl hw1 hS1 (by omega) (by omega)
        rw [show gn G2 - gn Gs = gn G - gn Gs + (gn G2 - gn G) by omega, show gs G2 - gs Gs = gs G - gs Gs + (gs G2 - gs G) by omega] at h3
        exact h3
      · cases h
    · cases h
  · cases h
theorem ok_invNI (j : Nat) {host : String} {idx M' n mlv : Nat} {y : MethodName} {b : ByteArray} {ci N : Nat} {C : String} {T : u_T} {ty : Nat → FieldType} (hw2 : Cond.instanceMethod y ∈ gw) (hw4 : Cond.initialized y.cls ∈ gw) (hw5 : Cond.code y b mlv none ∈ gw) (cf : hCF ci C T N ty) (hq : nwM[j]? = some (own, idx, y, host)) (hM0 : (ynOf M', bcOf M', mlOf M') = (y, b, mlv)) (hq0 : rtOf M' = none) (hin : y.name = "<init>") (hy0 : (y.cls ≠ "java/lang/invoke/MethodHandle" ∧ y.cls ≠ "java/lang/invoke/VarHandle" ∧ (parseMethodDescriptor y.desc).map (fun d => d.parameters.length) = some n) ∧ mlv ≤ 45) (hd : decode cc pc = .ok (.invokespecial idx, 3)) : ok1 own cc ml rt mn pcs pc 3 (oInvV M' ci n) := by
  refine ⟨mo_oInvV, ?_⟩
  intro E d Gs G' r p l e s m args below meth c C0 nx jp cl lv st G hn hj hc h
  obtain ⟨hx, hb, hml, hr, hown, hts, hlk, hmn, hV, hbs⟩ := C0
  obtain ⟨hy, h45⟩ := hy0
  cases hM0
  unfold oInvV at h
  split at h
  · rename_i a rs hdrop
    split at h
    · rename_i hk0
      obtain ⟨hk0, hcat⟩ := hk0
      split at h
      · rename_i v G2 hcl
        obtain ⟨d', rfl, hmo, hMet⟩ := hc _ _ _ _ _ hcl
        obtain ⟨h1, h2⟩ := hn _ _ _ h
        refine ⟨⟨by omega, by omega⟩, fun H locs ls hl hw hS ha hb2 => ?_⟩
        have hnl : ((st.take n).reverse.map (rv E)).length = n := by rw [List.length_map, List.length_reverse, List.length_take]; have := congrArg List.length hdrop; rw [List.length_drop, List.length_cons] at this; omega
        rw [st_split (E := E) hdrop]
        have hrun := va_runIN (host := host) (b := hAd E a) (p := p) (l := l) (e := e) (s := s) (m := m) (args := args) (below := below) (meth := meth) (c := c) (cells := gn G - gn Gs) (slots := gs G - gs Gs) (H := H) (locs := locs) (g := F0 m pc ls _) (rest := rs.map (rv E)) (As := (st.take n).reverse.map (rv E)) ⟨hx, hb, hml, hown, hts⟩ hMet (⟨va_cnB n hts (gw_W (hq0.symm ▸ hw5)) (wsOf_v hq0) rfl rfl (hV.2.2.2.2.1 j _ hq) (hts _ hw4) hy (rm_ok h45), hin, hts _ hw2⟩) (⟨hPc.blind, fun U hU hW0 => hPc.at hw hS hV U hU hW0⟩) rfl hnl hl.1 rfl (by show 2 * 0 + _ ≤ 8; rw [cats_map]; omega) hd (R := hRoom (d' + 1) (gn G' - gn Gs) (gs G' - gs Gs)) ⟨by show _ ≤ gn G' - gn Gs; omega, by show _ ≤ gs G' - gs Gs; omega⟩
        refine hx_call (E := E) (G2 := G2) (v := some v) hrun hS (fun H1 locs1 hw1 hS1 => ?_)
        have h3 := h2 H1 locs1 ls hl hw1 hS1 (by omega) (by omega)
        rw [show gn G2 - gn Gs = gn G - gn Gs + (gn G2 - gn G) by omega, show gs G2 - gs Gs = gs G - gs Gs + (gs G2 - gs G) by omega] at h3
        exact h3
      · rename_i G2 hcl
        obtain ⟨d', rfl, hmo, hMet⟩ := hc _ _ _ _ _ hcl
        obtain ⟨h1, h2⟩ := hn _ _ _ h
        refine ⟨⟨by omega, by omega⟩, fun H locs ls hl hw hS ha hb2 => ?_⟩
        have hnl : ((st.take n).reverse.map (rv E)).length = n := by rw [List.length_map, List.length_reverse, List.length_take]; have := congrArg List.length hdrop; rw [List.length_drop, List.length_cons] at this; omega
        rw [st_split (E := E) hdrop]
        have hrun := va_runIN (host := host) (b := hAd E a) (p := p) (l := l) (e := e) (s := s) (m := m) (args := args) (below := below) (meth := meth) (c := c) (cells := gn G - gn Gs) (slots := gs G - gs Gs) (H := H) (locs := locs) (g := F0 m pc ls _) (rest := rs.map (rv E)) (As := (st.take n).reverse.map (rv E)) ⟨hx, hb, hml, hown, hts⟩ hMet (⟨va_cnB n hts (gw_W (hq0.symm ▸ hw5)) (wsOf_v hq0) rfl rfl (hV.2.2.2.2.1 j _ hq) (hts _ hw4) hy (rm_ok h45), hin, hts _ hw2⟩) (⟨hPc.blind, fun U hU hW0 => hPc.at hw hS hV U hU hW0⟩) rfl hnl hl.1 rfl (by show 2 * 0 + _ ≤ 8; rw [cats_map]; omega) hd (R := hRoom (d' + 1) (gn G' - gn Gs) (gs G' - gs Gs)) ⟨by show _ ≤ gn G' - gn Gs; omega, by show _ ≤ gs G' - gs Gs; omega⟩
        refine hx_call (E := E) (G2 := G2) (v := none) hrun hS (fun H1 locs1 hw1 hS1 => ?_)
        have h3 := h2 H1 locs1 ls hl hw1 hS1 (by omega) (by omega)
        rw [show gn G2 - gn Gs = gn G - gn Gs + (gn G2 - gn G) by omega, show gs G2 - gs Gs = gs G - gs Gs + (gs G2 - gs G) by omega] at h3
        exact h3
      · cases h
    · cases h
  · cases h
theorem ok_invS {idx M' n mlv : Nat} {y : MethodName} {b : ByteArray} {rtv : Option FieldType} (hw1 : Cond.methodLink own idx y ∈ gw) (hw2 : Cond.static y ∈ gw) (hw4 : Cond.initialized y.cls ∈ gw) (hw5 : Cond.code y b mlv rtv ∈ gw) (hM0 : (ynOf M', bcOf M', mlOf M', rtOf M') = (y, b, mlv, rtv)) (hy0 : (y.cls ≠ "java/lang/invoke/MethodHandle" ∧ y.cls ≠ "java/lang/invoke/VarHandle" ∧ (parseMethodDescriptor y.desc).map (fun d => d.parameters.length) = some n) ∧ mlv ≤ 45) (hd : decode cc pc = .ok (.invokestatic idx, 3)) : ok1 own cc ml rt mn pcs pc 3 (oInvS M' n) := by
  refine ⟨mo_oInvS, ?_⟩
  intro E d Gs G' r p l e s m args below meth c C0 nx jp cl lv st G hn hj hc h
  obtain ⟨hx, hb, hml, hr, hown, hts, hlk, hmn, hV, hbs⟩ := C0
  obtain ⟨hy, h45⟩ := hy0
  cases hM0
  unfold oInvS at h
  split at h
  · rename_i hk0
    obtain ⟨hlen, hcat⟩ := hk0
    split at h
    · rename_i v G2 hcl
      obtain ⟨d', rfl, hmo, hMet⟩ := hc _ _ _ _ _ hcl
      obtain ⟨h1, h2⟩ := hn _ _ _ h
      refine ⟨⟨by omega, by omega⟩, fun H locs ls hl hw hS ha hb2 => ?_⟩
      have hnl : ((st.take n).reverse.map (rv E)).length = n := by rw [List.length_map, List.length_reverse, List.length_take]; omega
      rw [show st.map (rv E) = ((st.take n).reverse.map (rv E)).reverse ++ (st.drop n).map (rv E) by rw [List.map_reverse, List.reverse_reverse, ← List.map_append, List.take_append_drop]]
      have hrun := va_runS (p := p) (l := l) (e := e) (s := s) (m := m) (args := args) (below := below) (meth := meth) (c := c) (cells := gn G - gn Gs) (slots := gs G - gs Gs) (H := H) (locs := locs) (g := F0 m pc ls _) (rest := (st.drop n).map (rv E)) (As := (st.take n).reverse.map (rv E)) ⟨hx, hb, hml, hown, hts⟩ hMet (va_cwS n hts (gw_S hw1 hw2 hw4 hw5) rfl rfl rfl hy (rm_ok h45)) (⟨hPc.blind, fun U hU hW0 => hPc.at hw hS hV U hU hW0⟩) rfl hnl hl.1 rfl (by show 2 * 0 + _ ≤ 8; rw [cats_map]; omega) hd (R := hRoom (d' + 1) (gn G' - gn Gs) (gs G' - gs Gs)) ⟨by show _ ≤ gn G' - gn Gs; omega, by show _ ≤ gs G' - gs Gs; omega⟩
      refine hx_call (E := E) (G2 := G2) (v := some v) hrun hS (fun H1 locs1 hw1 hS1 => ?_)
      have h3 := h2 H1 locs1 ls hl hw1 hS1 (by omega) (by omega)
      rw [show gn G2 - gn Gs = gn G - gn Gs + (gn G2 - gn G) by omega, show gs G2 - gs Gs = gs G - gs Gs + (gs G2 - gs G) by omega] at h3
      exact h3
    · rename_i G2 hcl
      obtain ⟨d', rfl, hmo, hMet⟩ := hc _ _ _ _ _ hcl
      obtain ⟨h1, h2⟩ := hn _ _ _ h
      refine ⟨⟨by omega, by omega⟩, fun H locs ls hl hw hS ha hb2 => ?_⟩
      have hnl : ((st.take n).reverse.map (rv E)).length = n := by rw [List.length_map, List.length_reverse, List.length_take]; omega
      rw [show st.map (rv E) = ((st.take n).reverse.map (rv E)).reverse ++ (st.drop n).map (rv E) by rw [List.map_reverse, List.reverse_reverse, ← List.map_append, List.take_append_drop]]
      have hrun := va_runS (p := p) (l := l) (e := e) (s := s) (m := m) (args := args) (below := below) (meth := meth) (c := c) (cells := gn G - gn Gs) (slots := gs G - gs Gs) (H := H) (locs := locs) (g := F0 m pc ls _) (rest := (st.drop n).map (rv E)) (As := (st.take n).reverse.map (rv E)) ⟨hx, hb, hml, hown, hts⟩ hMet (va_cwS n hts (gw_S hw1 hw2 hw4 hw5) rfl rfl rfl hy (rm_ok h45)) (⟨hPc.blind, fun U hU hW0 => hPc.at hw hS hV U hU hW0⟩) rfl hnl hl.1 rfl (by show 2 * 0 + _ ≤ 8; rw [cats_map]; omega) hd (R := hRoom (d' + 1) (gn G' - gn Gs) (gs G' - gs Gs)) ⟨by show _ ≤ gn G' - gn Gs; omega, by show _ ≤ gs G' - gs Gs; omega⟩
      refine hx_call (E := E) (G2 := G2) (v := none) hrun hS (fun H1 locs1 hw1 hS1 => ?_)
      have h3 := h2 H1 locs1 ls hl hw1 hS1 (by omega) (by omega)
      rw [show gn G2 - gn Gs = gn G - gn Gs + (gn G2 - gn G) by omega, show gs G2 - gs Gs = gs G - gs Gs + (gs G2 - gs G) by omega] at h3
      exact h3
    · cases h
  · cases h
theorem ok_invNS (j : Nat) {host : String} {idx M' n mlv : Nat} {y : MethodName} {b : ByteArray} {rtv : Option FieldType} (hw2 : Cond.static y ∈ gw) (hw4 : Cond.initialized y.cls ∈ gw) (hw5 : Cond.code y b mlv rtv ∈ gw) (hq : nwM[j]? = some (own, idx, y, host)) (hM0 : (ynOf M', bcOf M', mlOf M', rtOf M') = (y, b, mlv, rtv)) (hy0 : (y.cls ≠ "java/lang/invoke/MethodHandle" ∧ y.cls ≠ "java/lang/invoke/VarHandle" ∧ (parseMethodDescriptor y.desc).map (fun d => d.parameters.length) = some n) ∧ mlv ≤ 45) (hd : decode cc pc = .ok (.invokestatic idx, 3)) : ok1 own cc ml rt mn pcs pc 3 (oInvS M' n) := by
  refine ⟨mo_oInvS, ?_⟩
  intro E d Gs G' r p l e s m args below meth c C0 nx jp cl lv st G hn hj hc h
  obtain ⟨hx, hb, hml, hr, hown, hts, hlk, hmn, hV, hbs⟩ := C0
  obtain ⟨hy, h45⟩ := hy0
  cases hM0
  unfold oInvS at h
  split at h
  · rename_i hk0
    obtain ⟨hlen, hcat⟩ := hk0
    split at h
    · rename_i v G2 hcl
      obtain ⟨d', rfl, hmo, hMet⟩ := hc _ _ _ _ _ hcl
      obtain ⟨h1, h2⟩ := hn _ _ _ h
      refine ⟨⟨by omega, by omega⟩, fun H locs ls hl hw hS ha hb2 => ?_⟩
      have hnl : ((st.take n).reverse.map (rv E)).length = n := by rw [List.length_map, List.length_reverse, List.length_take]; omega
      rw [show st.map (rv E) = ((st.take n).reverse.map (rv E)).reverse ++ (st.drop n).map (rv E) by rw [List.map_reverse, List.reverse_reverse, ← List.map_append, List.take_append_drop]]
      have hrun := va_runSN (host := host) (p := p) (l := l) (e := e) (s := s) (m := m) (args := args) (below := below) (meth := meth) (c := c) (cells := gn G - gn Gs) (slots := gs G - gs Gs) (H := H) (locs := locs) (g := F0 m pc ls _) (rest := (st.drop n).map (rv E)) (As := (st.take n).reverse.map (rv E)) ⟨hx, hb, hml, hown, hts⟩ hMet (⟨va_cnB n hts (gw_W hw5) rfl rfl rfl (hV.2.2.2.2.1 j _ hq) (hts _ hw4) hy (rm_ok h45), hts _ hw2, trivial⟩) (⟨hPc.blind, fun U hU hW0 => hPc.at hw hS hV U hU hW0⟩) rfl hnl hl.1 rfl (by show 2 * 0 + _ ≤ 8; rw [cats_map]; omega) hd (R := hRoom (d' + 1) (gn G' - gn Gs) (gs G' - gs Gs)) ⟨by show _ ≤ gn G' - gn Gs; omega, by show _ ≤ gs G' - gs Gs; omega⟩
      refine hx_call (E := E) (G2 := G2) (v := some v) hrun hS (fun H1 locs1 hw1 hS1 => ?_)
      have h3 := h2 H1 locs1 ls hl hw1 hS1 (by omega) (by omega)
      rw [show gn G2 - gn Gs = gn G - gn Gs + (gn G2 - gn G) by omega, show gs G2 - gs Gs = gs G - gs Gs + (gs G2 - gs G) by omega] at h3
      exact h3
    · rename_i G2 hcl
      obtain ⟨d', rfl, hmo, hMet⟩ := hc _ _ _ _ _ hcl
      obtain ⟨h1, h2⟩ := hn _ _ _ h
      refine ⟨⟨by omega, by omega⟩, fun H locs ls hl hw hS ha hb2 => ?_⟩
      have hnl : ((st.take n).reverse.map (rv E)).length = n := by rw [List.length_map, List.length_reverse, List.length_take]; omega
      rw [show st.map (rv E) = ((st.take n).reverse.map (rv E)).reverse ++ (st.drop n).map (rv E) by rw [List.map_reverse, List.reverse_reverse, ← List.map_append, List.take_append_drop]]
      have hrun := va_runSN (host := host) (p := p) (l := l) (e := e) (s := s) (m := m) (args := args) (below := below) (meth := meth) (c := c) (cells := gn G - gn Gs) (slots := gs G - gs Gs) (H := H) (locs := locs) (g := F0 m pc ls _) (rest := (st.drop n).map (rv E)) (As := (st.take n).reverse.map (rv E)) ⟨hx, hb, hml, hown, hts⟩ hMet (⟨va_cnB n hts (gw_W hw5) rfl rfl rfl (hV.2.2.2.2.1 j _ hq) (hts _ hw4) hy (rm_ok h45), hts _ hw2, trivial⟩) (⟨hPc.blind, fun U hU hW0 => hPc.at hw hS hV U hU hW0⟩) rfl hnl hl.1 rfl (by show 2 * 0 + _ ≤ 8; rw [cats_map]; omega) hd (R := hRoom (d' + 1) (gn G' - gn Gs) (gs G' - gs Gs)) ⟨by show _ ≤ gn G' - gn Gs; omega, by show _ ≤ gs G' - gs Gs; omega⟩
      refine hx_call (E := E) (G2 := G2) (v := none) hrun hS (fun H1 locs1 hw1 hS1 => ?_)
      have h3 := h2 H1 locs1 ls hl hw1 hS1 (by omega) (by omega)
      rw [show gn G2 - gn Gs = gn G - gn Gs + (gn G2 - gn G) by omega, show gs G2 - gs Gs = gs G - gs Gs + (gs G2 - gs G) by omega] at h3
      exact h3
    · cases h
  · cases h
theorem ok_invT {idx M' n mlv : Nat} {y : MethodName} {b : ByteArray} {rtv : Option FieldType} (hw1 : Cond.methodLink own idx y ∈ gw) (hw2 : Cond.instanceMethod y ∈ gw) (hw3 : Cond.selects "java/lang/String" y y ∈ gw) (hw4 : Cond.initialized "java/lang/String" ∈ gw) (hw5 : Cond.code y b mlv rtv ∈ gw) (hM0 : (ynOf M', bcOf M', mlOf M', rtOf M') = (y, b, mlv, rtv)) (hy0 : (y.cls = "java/lang/String" ∧ y.cls ≠ "java/lang/invoke/MethodHandle" ∧ y.cls ≠ "java/lang/invoke/VarHandle" ∧ (parseMethodDescriptor y.desc).map (fun d => d.parameters.length) = some n) ∧ mlv ≤ 45) (hd : decode cc pc = .ok (.invokevirtual idx, 3)) : ok1 own cc ml rt mn pcs pc 3 (oInvT M' n) := by
  refine ⟨mo_oInvT, ?_⟩
  intro E d Gs G' r p l e s m args below meth c C0 nx jp cl lv st G hn hj hc h
  obtain ⟨hx, hb, hml, hr, hown, hts, hlk, hmn, hV, hbs⟩ := C0
  obtain ⟨hy, h45⟩ := hy0
  cases hM0
  unfold oInvT at h
  split at h
  · rename_i a rs hdrop
    split at h
    · rename_i hk0
      obtain ⟨hk0, hcat⟩ := hk0
      split at h
      · rename_i v G2 hcl
        obtain ⟨d', rfl, hmo, hMet⟩ := hc _ _ _ _ _ hcl
        obtain ⟨h1, h2⟩ := hn _ _ _ h
        refine ⟨⟨by omega, by omega⟩, fun H locs ls hl hw hS ha hb2 => ?_⟩
        have hre := vk_recv hV.2.1 (k25 hk0) hS
        rw [← hAd_k E hk0.1 hk0.2] at hre
        have hnl : ((st.take n).reverse.map (rv E)).length = n := by rw [List.length_map, List.length_reverse, List.length_take]; have := congrArg List.length hdrop; rw [List.length_drop, List.length_cons] at this; omega
        rw [st_split (E := E) hdrop]
        have hrun := va_runV (C := "java/lang/String") (b := hAd E a) (p := p) (l := l) (e := e) (s := s) (m := m) (args := args) (below := below) (meth := meth) (c := c) (cells := gn G - gn Gs) (slots := gs G - gs Gs) (H := H) (locs := locs) (g := F0 m pc ls _) (rest := rs.map (rv E)) (As := (st.take n).reverse.map (rv E)) ⟨hx, hb, hml, hown, hts⟩ hMet (cwV n hts (gw_V hw1 hw2 hw3 hw4 hw5) rfl rfl rfl hy (rm_ok h45)) (⟨hPc.blind, hre, fun U hU hW0 => hPc.at hw hS hV U hU hW0⟩) rfl hnl hl.1 rfl (by show 2 * 0 + _ ≤ 8; rw [cats_map]; omega) hd (R := hRoom (d' + 1) (gn G' - gn Gs) (gs G' - gs Gs)) ⟨by show _ ≤ gn G' - gn Gs; omega, by show _ ≤ gs G' - gs Gs; omega⟩
        refine hx_call (E := E) (G2 := G2) (v := some v) hrun hS (fun H1 locs1 hw1 hS1 => ?_)
        have h3 := h2 H1 locs1 ls hl hw1 hS1 (by omega) (by omega)
        rw [show gn G2 - gn Gs = gn G - gn Gs + (gn G2 - gn G) by omega, show gs G2 - gs Gs = gs G - gs Gs + (gs G2 - gs G) by omega] at h3
        exact h3
      · rename_i G2 hcl
        obtain ⟨d', rfl, hmo, hMet⟩ := hc _ _ _ _ _ hcl
        obtain ⟨h1, h2⟩ := hn _ _ _ h
        refine ⟨⟨by omega, by omega⟩, fun H locs ls hl hw hS ha hb2 => ?_⟩
        have hre := vk_recv hV.2.1 (k25 hk0) hS
        rw [← hAd_k E hk0.1 hk0.2] at hre
        have hnl : ((st.take n).reverse.map (rv E)).length = n := by rw [List.length_map, List.length_reverse, List.length_take]; have := congrArg List.length hdrop; rw [List.length_drop, List.length_cons] at this; omega
        rw [st_split (E := E) hdrop]
        have hrun := va_runV (C := "java/lang/String") (b := hAd E a) (p := p) (l := l) (e := e) (s := s) (m := m) (args := args) (below := below) (meth := meth) (c := c) (cells := gn G - gn Gs) (slots := gs G - gs Gs) (H := H) (locs := locs) (g := F0 m pc ls _) (rest := rs.map (rv E)) (As := (st.take n).reverse.map (rv E)) ⟨hx, hb, hml, hown, hts⟩ hMet (cwV n hts (gw_V hw1 hw2 hw3 hw4 hw5) rfl rfl rfl hy (rm_ok h45)) (⟨hPc.blind, hre, fun U hU hW0 => hPc.at hw hS hV U hU hW0⟩) rfl hnl hl.1 rfl (by show 2 * 0 + _ ≤ 8; rw [cats_map]; omega) hd (R := hRoom (d' + 1) (gn G' - gn Gs) (gs G' - gs Gs)) ⟨by show _ ≤ gn G' - gn Gs; omega, by show _ ≤ gs G' - gs Gs; omega⟩
        refine hx_call (E := E) (G2 := G2) (v := none) hrun hS (fun H1 locs1 hw1 hS1 => ?_)
        have h3 := h2 H1 locs1 ls hl hw1 hS1 (by omega) (by omega)
        rw [show gn G2 - gn Gs = gn G - gn Gs + (gn G2 - gn G) by omega, show gs G2 - gs Gs = gs G - gs Gs + (gs G2 - gs G) by omega] at h3
        exact h3
      · cases h
    · cases h
  · cases h
end OK
