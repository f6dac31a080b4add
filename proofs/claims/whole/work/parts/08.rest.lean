/-! new cells, the JDK's own, Strings, answers, switches -/
theorem wL_push {E : hE} {G : hG} {kd len sl : Nat} : wL E (sNew G kd len sl) = wL E G ++ [(E.1 + gn G, wEnt E (sNew G kd len sl) (gn G))] := by
  unfold wL
  show List.map _ (List.range (gn G + 1)) = _
  rw [List.range_succ, List.map_append]
  congr 1
  apply List.map_congr_left
  intro b hb
  have hb' : b ≠ gn G := by have := List.mem_range.mp hb; omega
  have q : ∀ {α : Type} (f : Nat → α) (x : α), va_up f (gn G) x b = f b := fun f x => by unfold va_up; rw [if_neg hb']
  rw [wEnt_congr (G' := sNew G kd len sl) (G := G) (q _ _) (q _ _) (q _ _) (q _ _) (q _ _)]
theorem hW.new {E : hE} {G : hG} {H H1 : Heap} {kd len sl : Nat} (hw : hW E G H) (h9 : gn G < 90000) (z1 : H1.size = H.size + 1) (e1 : va_at E.2.2.2.2.1 vwCl (E.1 + gn G, wEnt E (sNew G kd len sl) (gn G)) H1) (o1 : ∀ q : Nat, q < H.size → H1[q]? = H[q]?) : hW E (sNew G kd len sl) H1 := by
  obtain ⟨hP, hD, h3, h4, h5⟩ := hw
  have hk : ∀ (k : Nat) (x : Nat × va_E), (wL E G)[k]? = some x → H1[x.1]? = H[x.1]? := fun k x hx => o1 x.1 ((hP k x hx).lt)
  refine ⟨?_, ?_, ?_, ?_, ?_⟩
  · rw [wL_push]
    refine (hP.kept hk).app (fun k x hx => ?_)
    have hz : k < 1 := (List.getElem?_eq_some_iff.mp hx).1
    rw [show k = 0 by omega] at hx
    cases hx
    exact e1
  · rw [wL_push]
    exact hD.push hP (by rw [h3]) (by show E.1 ≤ _; omega)
  · show H1.size = E.1 + (gn G + 1)
    omega
  · intro a ha
    have ha' : gn G + 1 ≤ a := ha
    show va_up (gk G) (gn G) kd a = 99
    unfold va_up
    rw [if_neg (by omega)]
    exact h4 a (by omega)
  · show gn G + 1 ≤ 90000
    omega
theorem va_Snew {A : Nat → Prop} {H0 H H1 : Heap} {locs : List Loc} (hS : va_S A H0 H locs) (z1 : H1.size = H.size + 1) (o1 : ∀ q : Nat, q < H.size → H1[q]? = H[q]?) : va_S A H0 H1 locs := ⟨Nat.le_trans hS.1 (by omega), fun x h1 h2 => (o1 x (Nat.lt_of_lt_of_le h1 hS.1)).trans (hS.2.1 x h1 h2), hS.2.2⟩
section OK
variable {own : String} {cc : ByteArray} {ml : Nat} {rt : Option FieldType} {mn : String} {pcs : List Nat} {pc : Nat}
theorem va_self {α : Type} (f : Nat → α) (a : Nat) (x : α) : va_up f a x a = x := by unfold va_up; rw [if_pos rfl]
theorem ok_new {idx ci N : Nat} {C : String} {T : u_T} {ty : Nat → FieldType} (hw1 : Cond.classLink own idx C ∈ gw) (hw2 : Cond.instantiable C N ∈ gw) (hw3 : Cond.initialized C ∈ gw) (cf : hCF ci C T N ty) (hd : decode cc pc = .ok (.new idx, 3)) : ok1 own cc ml rt mn pcs pc 3 (oNew ci N) := by
  refine ⟨mo_oNew, ?_⟩
  intro E d Gs G' r p l e s m args below meth c C0 nx jp cl lv st G hn hj hc h
  obtain ⟨hx, hb, hml, hr, hown, hts, hlk, hmn, hV, hbs⟩ := C0
  obtain ⟨c1, c2, c3, c4, c5, c6, c7⟩ := cf
  unfold oNew at h
  split at h
  · rename_i h9
    obtain ⟨h1, h2⟩ := hn _ _ _ h
    have h1' : gn G + 1 ≤ gn G' ∧ gs G + N ≤ gs G' := h1
    refine ⟨⟨by omega, by omega⟩, fun H locs ls hl hw hS ha hb2 => ?_⟩
    have hKn := hV.1.1 ci _ c2
    have e0 : gn (sNew G ci 0 N) - gn Gs = gn G - gn Gs + 1 := by show gn G + 1 - gn Gs = _; omega
    have e9 : gs (sNew G ci 0 N) - gs Gs = gs G - gs Gs + N := by show gs G + N - gs Gs = _; omega
    refine W.newcK hx hb hown (hts _ hw1) (hts _ hw2) (hts _ hw3) rfl hd (by show gn G - gn Gs + 1 ≤ gn G' - gn Gs; omega) (by show gs G - gs Gs + N ≤ gs G' - gs Gs; omega) hKn.2.1 rfl fun H1 kC hkC e1 z1 o1 => ?_
    have h3 := h2 H1 locs ls hl (hw.new h9 z1 ?_ o1) (va_Snew hS z1 o1) (by show gn Gs ≤ gn G + 1; omega) (by show gs Gs ≤ gs G + N; omega)
    · rw [e0, e9] at h3
      have hz : hAd E (gn G) = H.size := by rw [hAd_lo E (by omega), hw.2.2.1]
      rw [← hz]
      exact h3
    · have hk0 : gk (sNew G ci 0 N) (gn G) = ci := va_self _ _ _
      rw [wEnt_cls hk0 c1]
      refine ⟨_, c2, ?_⟩
      rw [show E.1 + gn G = H.size from hw.2.2.1.symm]
      refine (u_born ty hts c3 hKn hkC e1 c4).to (fun j hj => ?_)
      rw [c7 j hj]
      have hj2 : j < (ftL ci).length := by rw [c6]; exact hj
      have hg : (ftL ci)[j]? = some ((ftL ci).getD j 0) := by rw [List.getD_eq_getElem?_getD, List.getElem?_eq_getElem hj2]; rfl
      have hq2 : vp_V (fL E (sNew G ci 0 N) (gn G) (ftL ci)) j = fV E (sNew G ci 0 N) (gn G) j ((ftL ci).getD j 0) := by
        show (fL E (sNew G ci 0 N) (gn G) (ftL ci)).getD j .null = _
        rw [List.getD_eq_getElem?_getD, fL_get hg]
        rfl
      refine Eq.trans ?_ hq2.symm
      generalize (ftL ci).getD j 0 = t0
      unfold dfV fV
      rw [show gI (sNew G ci 0 N) (gn G) = fun _ => 0 from va_self _ _ _, show gJ (sNew G ci 0 N) (gn G) = fun _ => 0 from va_self _ _ _, show gP (sNew G ci 0 N) (gn G) = fun _ => none from va_self _ _ _]
      rfl
  · cases h
theorem ok_newA {kd t0 : Nat} {at0 : ArrayType} {ty : FieldType} (hw : Cond.arrayClass (newarray.typeOf at0) ∈ gw) (hty : newarray.typeOf at0 = ty) (hkd : kd = 13 ∨ kd = 14 ∨ kd = 15) (htt : ∀ E : hE, (tysA E)[t0]? = some (E.2.2.2.2.2 kd, ty)) (hra : ∀ (U : State) (cA : ClassId), va_RA U cA ty → U.vm.findClass ("[" ++ ty.toString) = some cA) (hby : componentBytes ty ≤ 8) (hdv : defaultValue ty = if kd = 14 then .long 0 else .int 0) (hd : decode cc pc = .ok (.newarray at0, 2)) : ok1 own cc ml rt mn pcs pc 2 (oNewA kd) := by
  refine ⟨mo_oNewA, ?_⟩
  intro E d Gs G' r p l e s m args below meth c C0 nx jp cl lv st G hn hj hc h
  obtain ⟨hx, hb, hml, hr, hown, hts, hlk, hmn, hV, hbs⟩ := C0
  unfold oNewA at h
  split at h
  · rename_i n rs
    split at h
    · rename_i h9
      obtain ⟨h9, hin⟩ := h9
      obtain ⟨h1, h2⟩ := hn _ _ _ h
      have h1' : gn G + 1 ≤ gn G' ∧ gs G + n.toNatClampNeg ≤ gs G' := h1
      refine ⟨⟨by omega, by omega⟩, fun H locs ls hl hw0 hS ha hb2 => ?_⟩
      have e0 : gn (sNew G kd n.toNatClampNeg n.toNatClampNeg) - gn Gs = gn G - gn Gs + 1 := by show gn G + 1 - gn Gs = _; omega
      have e9 : gs (sNew G kd n.toNatClampNeg n.toNatClampNeg) - gs Gs = gs G - gs Gs + n.toNatClampNeg := by show gs G + n.toNatClampNeg - gs Gs = _; omega
      have hbyt : n.toNatClampNeg * componentBytes (newarray.typeOf at0) ≤ 536870912 := by
        rw [hty]
        have := hin.2
        calc n.toNatClampNeg * componentBytes ty ≤ 100000 * 8 := Nat.mul_le_mul (by omega) hby
          _ ≤ 536870912 := by decide
      refine va_newaK hx hb (hts _ hw) rfl hd rfl hin.1 rfl hbyt (by show gn G - gn Gs + 1 ≤ gn G' - gn Gs; omega) (by show gs G - gs Gs + n.toNatClampNeg ≤ gs G' - gs Gs; omega) rfl fun H1 cA e1 z1 o1 hAr hNm => ?_
      have h3 := h2 H1 locs ls hl (hw0.new h9 z1 ?_ o1) (va_Snew hS z1 o1) (by show gn Gs ≤ gn G + 1; omega) (by show gs Gs ≤ gs G + _; omega)
      · rw [e0, e9] at h3
        have hz : hAd E (gn G) = H.size := by rw [hAd_lo E (by omega), hw0.2.2.1]
        rw [← hz]
        exact h3
      · have hk0 : gk (sNew G kd n.toNatClampNeg n.toNatClampNeg) (gn G) = kd := va_self _ _ _
        have hcA : cA = E.2.2.2.2.2 kd := by
          have := hra s _ (hV.1.2 t0 _ (htt E)).2
          rw [hty] at hNm
          exact Option.some.inj (hNm.symm.trans this)
        subst hcA
        have hl0 : gl (sNew G kd n.toNatClampNeg n.toNatClampNeg) (gn G) = n.toNatClampNeg := va_self _ _ _
        rw [hty, hdv] at e1
        rw [show H.size = E.1 + gn G from hw0.2.2.1] at e1
        rcases hkd with rfl | rfl | rfl
        · rw [wEnt_13 hk0]
          show H1[E.1 + gn G]? = some (vp_cell _ _)
          rw [e1, hl0, show gI (sNew G 13 n.toNatClampNeg n.toNatClampNeg) (gn G) = fun _ => 0 from va_self _ _ _]
          rfl
        · rw [wEnt_14 hk0]
          show H1[E.1 + gn G]? = some (vp_cell _ _)
          rw [e1, hl0, show gJ (sNew G 14 n.toNatClampNeg n.toNatClampNeg) (gn G) = fun _ => 0 from va_self _ _ _]
          rfl
        · rw [wEnt_15 hk0]
          show H1[E.1 + gn G]? = some (vp_cell _ _)
          rw [e1, hl0, show gI (sNew G 15 n.toNatClampNeg n.toNatClampNeg) (gn G) = fun _ => 0 from va_self _ _ _]
          rfl
    · cases h
  · cases h
theorem ok_newQ {kd idx : Nat} (hq : 16 ≤ kd ∧ kd ≤ 18) (hw1 : Cond.classLink own idx (clN kd) ∈ gw) (hd : decode cc pc = .ok (.anewarray idx, 3)) : ok1 own cc ml rt mn pcs pc 3 (oNewA kd) := by
  refine ⟨mo_oNewA, ?_⟩
  intro E d Gs G' r p l e s m args below meth c C0 nx jp cl lv st G hn hj hc h
  obtain ⟨hx, hb, hml, hr, hown, hts, hlk, hmn, hV, hbs⟩ := C0
  unfold oNewA at h
  split at h
  · rename_i n rs
    split at h
    · rename_i h9
      obtain ⟨h9, hin⟩ := h9
      obtain ⟨h1, h2⟩ := hn _ _ _ h
      have h1' : gn G + 1 ≤ gn G' ∧ gs G + n.toNatClampNeg ≤ gs G' := h1
      refine ⟨⟨by omega, by omega⟩, fun H locs ls hl hw0 hS ha hb2 => ?_⟩
      have e0 : gn (sNew G kd n.toNatClampNeg n.toNatClampNeg) - gn Gs = gn G - gn Gs + 1 := by show gn G + 1 - gn Gs = _; omega
      have e9 : gs (sNew G kd n.toNatClampNeg n.toNatClampNeg) - gs Gs = gs G - gs Gs + n.toNatClampNeg := by show gs G + n.toNatClampNeg - gs Gs = _; omega
      have hover : va_AO (clN kd) s := by
        obtain ⟨-, -, -, -, -, -, -, a1, a2, a3⟩ := hV
        have : kd = 16 ∨ kd = 17 ∨ kd = 18 := by omega
        rcases this with rfl | rfl | rfl
        · exact a1
        · exact a2
        · exact a3
      refine W.anew hx hb hown (hts _ hw1) (va_AO.use hover) rfl hd rfl hin.1 (by have := hin.2; omega) (by show gn G - gn Gs + 1 ≤ gn G' - gn Gs; omega) (by show gs G - gs Gs + n.toNatClampNeg ≤ gs G' - gs Gs; omega) fun cA kA comp f1 f2 f3 f4 => ?_
      generalize hH1 : H.push ({ cls := cA, slots := Array.replicate n.toNatClampNeg .null, vm := .none } : Cell) = H1
      have z1 : H1.size = H.size + 1 := by rw [← hH1, Array.size_push]
      have e1 : H1[H.size]? = some (arrV cA n.toNatClampNeg (fun _ => .null)) := by rw [← hH1, Array.getElem?_push_size, ← arrV_new]
      have o1 : ∀ q : Nat, q < H.size → H1[q]? = H[q]? := fun q hq => by rw [← hH1, Array.getElem?_push, if_neg (Nat.ne_of_lt hq)]
      have h3 := h2 H1 locs ls hl (hw0.new h9 z1 ?_ o1) (va_Snew hS z1 o1) (by show gn Gs ≤ gn G + 1; omega) (by show gs Gs ≤ gs G + _; omega)
      · rw [e0, e9] at h3
        have hz : hAd E (gn G) = H.size := by rw [hAd_lo E (by omega), hw0.2.2.1]
        rw [← hz]
        exact h3
      · have hk0 : gk (sNew G kd n.toNatClampNeg n.toNatClampNeg) (gn G) = kd := va_self _ _ _
        have hcA : cA = E.2.2.2.2.2 kd := by
          obtain ⟨kA', comp', -, -, -, k4⟩ := (hV.1.2 (kd - 13) _ (tys_q E hq.1 hq.2)).2
          exact Option.some.inj (f1.symm.trans k4)
        subst hcA
        have hl0 : gl (sNew G kd n.toNatClampNeg n.toNatClampNeg) (gn G) = n.toNatClampNeg := va_self _ _ _
        rw [show H.size = E.1 + gn G from hw0.2.2.1] at e1
        rw [wEnt_q hk0 hq.1 hq.2]
        show H1[E.1 + gn G]? = some (vp_cell _ _)
        rw [e1, hl0, show gP (sNew G kd n.toNatClampNeg n.toNatClampNeg) (gn G) = fun _ => none from va_self _ _ _]
        rfl
    · cases h
  · cases h
end OK
