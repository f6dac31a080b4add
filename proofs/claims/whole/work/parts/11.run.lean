/-! the machine's run and the methods' contracts -/
section OK
variable {own : String} {cc : ByteArray} {ml : Nat} {rt : Option FieldType} {mn : String} {pcs : List Nat} {pc : Nat}
theorem ok_ldc {idx : Nat} {v : Int32} (hw : Cond.constant own idx v ∈ gw) (hd : decode cc pc = .ok (.ldc idx, 2)) : ok1 own cc ml rt mn pcs pc 2 (oPushI v) := by
  refine ⟨mo_oPushI, ?_⟩
  intro E d Gs G' r p l e s m args below meth c C0 nx jp cl lv st G hn hj hc h
  obtain ⟨hx, hb, hml, hr, hown, hts, hlk, hmn, hV, hbs⟩ := C0
  obtain ⟨h1, h2⟩ := hn _ _ _ h
  exact ⟨h1, fun H locs ls hl hw2 hS ha hb2 => lv_ldc hx hb hown (hts _ hw) hd (h2 H locs ls hl hw2 hS ha hb2)⟩
theorem ok_ldc_w {idx : Nat} {v : Int32} (hw : Cond.constant own idx v ∈ gw) (hd : decode cc pc = .ok (.ldc_w idx, 3)) : ok1 own cc ml rt mn pcs pc 3 (oPushI v) := by
  refine ⟨mo_oPushI, ?_⟩
  intro E d Gs G' r p l e s m args below meth c C0 nx jp cl lv st G hn hj hc h
  obtain ⟨hx, hb, hml, hr, hown, hts, hlk, hmn, hV, hbs⟩ := C0
  obtain ⟨h1, h2⟩ := hn _ _ _ h
  exact ⟨h1, fun H locs ls hl hw2 hS ha hb2 => lv_ldcw hx hb hown (hts _ hw) hd (h2 H locs ls hl hw2 hS ha hb2)⟩
theorem ok_ldc2 {idx : Nat} {v : Int64} (hw : Cond.constantLong own idx v ∈ gw) (hd : decode cc pc = .ok (.ldc2_w idx, 3)) : ok1 own cc ml rt mn pcs pc 3 (oPushL v) := by
  refine ⟨mo_oPushL, ?_⟩
  intro E d Gs G' r p l e s m args below meth c C0 nx jp cl lv st G hn hj hc h
  obtain ⟨hx, hb, hml, hr, hown, hts, hlk, hmn, hV, hbs⟩ := C0
  obtain ⟨h1, h2⟩ := hn _ _ _ h
  exact ⟨h1, fun H locs ls hl hw2 hS ha hb2 => lv_ldc2 hx hb hown (hts _ hw) hd (h2 H locs ls hl hw2 hS ha hb2)⟩
end OK

def okL (own : String) (cc : ByteArray) (ml : Nat) (rt : Option FieldType) (mn : String) (pcs : List Nat) : List hOp → List Nat → Prop
  | [], _ => True
  | _ :: _, [] => False
  | o :: os, p :: ps => (∃ len, ok1 own cc ml rt mn pcs p len o ∧ (os = [] ∨ ps.head? = some (p + len))) ∧ okL own cc ml rt mn pcs os ps
theorem okL_cons {own : String} {cc : ByteArray} {ml : Nat} {rt : Option FieldType} {mn : String} {pcs : List Nat} {o : hOp} {os : List hOp} {p p' len : Nat} {ps : List Nat} (h : ok1 own cc ml rt mn pcs p len o) (e : p' = p + len) (k : okL own cc ml rt mn pcs os (p' :: ps)) : okL own cc ml rt mn pcs (o :: os) (p :: p' :: ps) := ⟨⟨len, h, Or.inr (by rw [e]; rfl)⟩, k⟩
theorem okL_one {own : String} {cc : ByteArray} {ml : Nat} {rt : Option FieldType} {mn : String} {pcs : List Nat} {o : hOp} {p len : Nat} (h : ok1 own cc ml rt mn pcs p len o) : okL own cc ml rt mn pcs [o] [p] := ⟨⟨len, h, Or.inl rfl⟩, trivial⟩
theorem okL_at {own : String} {cc : ByteArray} {ml : Nat} {rt : Option FieldType} {mn : String} {pcs : List Nat} : ∀ (ops : List hOp) (ps : List Nat), okL own cc ml rt mn pcs ops ps → ∀ (i : Nat) (o : hOp), ops[i]? = some o → ∃ len, ok1 own cc ml rt mn pcs (ps.getD i 0) len o ∧ ∀ o', ops[i + 1]? = some o' → ps.getD (i + 1) 0 = ps.getD i 0 + len
  | [], _, _, i, o, h => by simp at h
  | _ :: _, [], h, _, _, _ => h.elim
  | o :: os, p :: ps, h, i, o1, hi => by
    obtain ⟨⟨len, h1, h2⟩, h3⟩ := h
    cases i with
    | zero =>
      rw [List.getElem?_cons_zero] at hi
      cases hi
      refine ⟨len, h1, fun o' ho' => ?_⟩
      rw [List.getElem?_cons_succ] at ho'
      rcases h2 with rfl | h2
      · simp at ho'
      · cases ps with
        | nil => cases h2
        | cons p' ps =>
          cases h2
          rfl
    | succ i =>
      rw [List.getElem?_cons_succ] at hi
      obtain ⟨len', g1, g2⟩ := okL_at os ps h3 i o1 hi
      exact ⟨len', g1, fun o' ho' => g2 o' (by rw [List.getElem?_cons_succ] at ho'; exact ho')⟩
/-- a method's rows -/
def okP (M : Nat) : Prop := plainName (ynOf M).cls = true ∧ ∃ pcs : List Nat, pcs.getD 0 0 = 0 ∧ okL (ynOf M).cls (bcOf M) (mlOf M) (rtOf M) (ynOf M).name pcs (opsOf M) pcs
theorem lArg_sl (E : hE) : ∀ (av : List Value), (lArg av).length = (lg_sl (av.map (rv E))).length ∧ ∀ (i : Nat) (v : Value), (lArg av)[i]? = some (some v) → (lg_sl (av.map (rv E)))[i]? = some (.val (rv E v))
  | [] => ⟨rfl, fun i v h => by simp [lArg] at h⟩
  | a :: r => by
    obtain ⟨h1, h2⟩ := lArg_sl E r
    have two : ∀ w : Value, w.category = 2 → lArg (w :: r) = some w :: none :: lArg r → (lArg (w :: r)).length = (lg_sl ((w :: r).map (rv E))).length ∧ ∀ (i : Nat) (v : Value), (lArg (w :: r))[i]? = some (some v) → (lg_sl ((w :: r).map (rv E)))[i]? = some (.val (rv E v)) := by
      intro w hw e
      have e2 : lg_sl ((w :: r).map (rv E)) = .val (rv E w) :: .second :: lg_sl (r.map (rv E)) := by
        unfold lg_sl
        rw [List.map_cons, List.flatMap_cons, if_pos (by rw [rv_cat]; exact hw)]
        rfl
      rw [e, e2]
      refine ⟨by simp [h1], fun i v hi => ?_⟩
      match i with
      | 0 => cases hi; rfl
      | 1 => cases hi
      | i + 2 => exact h2 i v hi
    have one : ∀ w : Value, ¬ w.category = 2 → lArg (w :: r) = some w :: lArg r → (lArg (w :: r)).length = (lg_sl ((w :: r).map (rv E))).length ∧ ∀ (i : Nat) (v : Value), (lArg (w :: r))[i]? = some (some v) → (lg_sl ((w :: r).map (rv E)))[i]? = some (.val (rv E v)) := by
      intro w hw e
      have e2 : lg_sl ((w :: r).map (rv E)) = .val (rv E w) :: lg_sl (r.map (rv E)) := by
        unfold lg_sl
        rw [List.map_cons, List.flatMap_cons, if_neg (by rw [rv_cat]; exact hw)]
        rfl
      rw [e, e2]
      refine ⟨by simp [h1], fun i v hi => ?_⟩
      match i with
      | 0 => cases hi; rfl
      | i + 1 => exact h2 i v hi
    cases a <;> first | exact two _ rfl rfl | exact one _ (fun q => by simp [Value.category] at q) rfl
theorem lvR_entry (E : hE) {av : List Value} {n : Nat} (h : (lArg av).length ≤ n) : lvR E ((lg_sl (av.map (rv E)) ++ List.replicate (n - (lg_sl (av.map (rv E))).length) Slot.unset).toArray) n (lArg av ++ List.replicate (n - (lArg av).length) none) := by
  obtain ⟨h1, h2⟩ := lArg_sl E av
  have h0 := lv_entry (av.map (rv E)) (n := n) (by rw [← h1]; exact h)
  refine ⟨h0.1, h0.2.1, by rw [List.length_append, List.length_replicate]; omega, fun i v hi => ?_⟩
  by_cases hl : i < (lArg av).length
  · rw [List.getElem?_append_left hl] at hi
    have h3 := h2 i v hi
    rw [List.getElem?_toArray, List.getElem?_append_left (by rw [← h1]; exact hl)]
    exact h3
  · rw [List.getElem?_append_right (by omega)] at hi
    have := List.mem_of_getElem? hi
    have := (List.mem_replicate.mp this).2
    cases this
theorem cl_of {f d M' : Nat} {av : List Value} {G1 : hG} {v : Option Value} {G2 : hG} (hc : (match d with
    | 0 => none
    | d' + 1 => if M' < 286 ∧ (lArg av).length ≤ mlOf M' then hrun f d' M' 0 (lvOf M' av) [] G1 else none) = some (v, G2)) : ∃ d', d = d' + 1 ∧ M' < 286 ∧ (lArg av).length ≤ mlOf M' ∧ hrun f d' M' 0 (lvOf M' av) [] G1 = some (v, G2) := by
  cases d with
  | zero => cases hc
  | succ d' =>
    dsimp only at hc
    split at hc
    · rename_i hq
      exact ⟨d', rfl, hq.1, hq.2, hc⟩
    · cases hc
theorem run_mono (okAll : ∀ M, M < 286 → okP M) : ∀ (f d M i : Nat), M < 286 → ∀ (lv : List (Option Value)) (st : List Value) (G : hG) (r : Option Value) (G' : hG), hrun f d M i lv st G = some (r, G') → gn G ≤ gn G' ∧ gs G ≤ gs G' := by
  intro f
  induction f with
  | zero => intro d M i _ lv st G r G' h; cases h
  | succ f ih =>
    intro d M i hM286 lv st G r G' h
    obtain ⟨-, pcs, -, hok⟩ := okAll M hM286
    have main : ∀ (cl : Nat → List Value → hG → hR), (∀ M' av G1 v G2, cl M' av G1 = some (v, G2) → ∃ d', d = d' + 1 ∧ M' < 286 ∧ (lArg av).length ≤ mlOf M' ∧ hrun f d' M' 0 (lvOf M' av) [] G1 = some (v, G2)) → ∀ (os : List hOp) (i : Nat), os = (opsOf M).drop i → ∀ (lv : List (Option Value)) (st : List Value) (G : hG) (r : Option Value) (G' : hG), exO os (fun k => hrun f d M k) cl lv st G = some (r, G') → gn G ≤ gn G' ∧ gs G ≤ gs G' := by
      intro cl hcl os
      induction os with
      | nil => intro i _ lv st G r G' h; cases h
      | cons o os ihl =>
        intro i hos lv st G r G' h
        have hi : (opsOf M)[i]? = some o := by
          have := congrArg (fun z => z[0]?) hos
          simp only [List.getElem?_cons_zero, List.getElem?_drop, Nat.add_zero] at this
          exact this.symm
        have hos' : os = (opsOf M).drop (i + 1) := by
          have := congrArg List.tail hos
          rw [List.tail_cons, List.tail_drop] at this
          exact this
        obtain ⟨len, k1, k2⟩ := okL_at _ _ hok i o hi
        refine k1.1 _ _ _ (ihl (i + 1) hos') (fun k => ih d M k hM286) (fun M' av G v G' hc => ?_) lv st G r G' h
        obtain ⟨d', -, q1, -, q3⟩ := hcl _ _ _ _ _ hc
        exact ih d' M' 0 q1 _ _ _ _ _ q3
    rw [hrun] at h
    refine main _ (fun M' av G1 v G2 hc => ?_) _ i rfl lv st G r G' h
    exact cl_of hc
theorem run_sound (okAll : ∀ M, M < 286 → okP M) (E : hE) (l : Launch) : ∀ (f d M i : Nat), M < 286 → ∀ (pcs : List Nat), okL (ynOf M).cls (bcOf M) (mlOf M) (rtOf M) (ynOf M).name pcs (opsOf M) pcs → ∀ (Gs G' : hG) (r : Option Value) (p : Program) (e : Env) (s : State) (m : MethodId) (args : Array Value) (below : List Frame) (meth : Method) (c : Code), hC E (ynOf M).cls (bcOf M) (mlOf M) (rtOf M) (ynOf M).name p s m args meth c →
    ∀ (lv : List (Option Value)) (st : List Value) (G : hG), hrun f d M i lv st G = some (r, G') → hGo E (mlOf M) d Gs G' r p l e s m args below meth c (pcs.getD i 0) lv st G := by
  intro f
  induction f with
  | zero => intro d M i _ pcs _ Gs G' r p e s m args below meth c _ lv st G h; cases h
  | succ f ih =>
    intro d M i hM286 pcs hok Gs G' r p e s m args below meth c hC0 lv st G h
    have met : ∀ (d' M' : Nat) (av : List Value) (G1 : hG) (v : Option Value) (G2 : hG), M' < 286 → (lArg av).length ≤ mlOf M' → hrun f d' M' 0 (lvOf M' av) [] G1 = some (v, G2) → (gn G1 ≤ gn G2 ∧ gs G1 ≤ gs G2) ∧ hM E l d' M' av G1 v G2 := by
      intro d' M' av G1 v G2 hM' hlen hr'
      obtain ⟨hpl, pcs', hp0, hok'⟩ := okAll M' hM'
      have key : ∀ (p : Program) (e : Env) (s : State) (m : MethodId) (args : Array Value) (below : List Frame) (meth : Method) (c : Code), hC E (ynOf M').cls (bcOf M') (mlOf M') (rtOf M') (ynOf M').name p s m args meth c → hGo E (mlOf M') d' G1 G2 v p l e s m args below meth c (pcs'.getD 0 0) (lvOf M' av) [] G1 := fun p e s m args below meth c hC1 => ih d' M' 0 hM' pcs' hok' G1 G2 v p e s m args below meth c hC1 _ _ _ hr'
      refine ⟨?_, ?_⟩
      · exact run_mono okAll f d' M' 0 hM' _ _ _ _ _ hr'
      · unfold hM
        refine Met.ofW (cc := bcOf M') (maxL := mlOf M') (ret := rtOf M') hpl rfl ?_
        intro p e s m args below meth c s₁ B hml hv
        obtain ⟨rfl, hw, hV0⟩ := hv
        have hC1 : hC E (ynOf M').cls (bcOf M') (mlOf M') (rtOf M') (ynOf M').name p s m (av.map (rv E)).toArray meth c :=
          ⟨B.exec, B.bytes, hml, B.returns, findClass_of_methodNamed B.named, fun w hw => atoms_spec (ws := wsOf M') B.pre w (List.mem_cons_of_mem _ hw), B.notSynchronized, (name_of_methodNamed B.named B.method).1, hV0, by rw [hw.2.2.1]; omega⟩
        obtain ⟨-, k2⟩ := key p e s m _ below meth c hC1
        have k3 := k2 s.heap [] _ (lvR_entry E hlen) hw va_S.rf (Nat.le_refl _) (Nat.le_refl _)
        rw [Nat.sub_self, Nat.sub_self, hp0] at k3
        rw [lg_entry_eq]
        exact k3
    have main : ∀ (cl : Nat → List Value → hG → hR), (∀ M' av G1 v G2, cl M' av G1 = some (v, G2) → ∃ d', d = d' + 1 ∧ M' < 286 ∧ (lArg av).length ≤ mlOf M' ∧ hrun f d' M' 0 (lvOf M' av) [] G1 = some (v, G2)) → ∀ (os : List hOp) (i : Nat), os = (opsOf M).drop i → ∀ (lv : List (Option Value)) (st : List Value) (G : hG), exO os (fun k => hrun f d M k) cl lv st G = some (r, G') → hGo E (mlOf M) d Gs G' r p l e s m args below meth c (pcs.getD i 0) lv st G := by
      intro cl hcl os
      induction os with
      | nil => intro i _ lv st G h; cases h
      | cons o os ihl =>
        intro i hos lv st G h
        have hi : (opsOf M)[i]? = some o := by
          have := congrArg (fun z => z[0]?) hos
          simp only [List.getElem?_cons_zero, List.getElem?_drop, Nat.add_zero] at this
          exact this.symm
        have hos' : os = (opsOf M).drop (i + 1) := by
          have := congrArg List.tail hos
          rw [List.tail_cons, List.tail_drop] at this
          exact this
        obtain ⟨len, k1, k2⟩ := okL_at _ _ hok i o hi
        refine k1.2 E d Gs G' r p l e s m args below meth c hC0 _ _ _ lv st G (fun lv st G hn => ?_) (fun k lv st G hj => ih d M k hM286 pcs hok Gs G' r p e s m args below meth c hC0 lv st G hj) (fun M' av G1 v G2 hc => ?_) h
        · cases os with
          | nil => cases hn
          | cons o' os' =>
            have hi' : (opsOf M)[i + 1]? = some o' := by
              have := congrArg (fun z => z[0]?) hos'
              simp only [List.getElem?_cons_zero, List.getElem?_drop, Nat.add_zero] at this
              exact this.symm
            rw [← k2 o' hi']
            exact ihl (i + 1) hos' lv st G hn
        · obtain ⟨d', q0, q1, q2, q3⟩ := hcl _ _ _ _ _ hc
          obtain ⟨z1, z2⟩ := met d' M' av G1 v G2 q1 q2 q3
          exact ⟨d', q0, z1, z2⟩
    rw [hrun] at h
    refine main _ (fun M' av G1 v G2 hc => ?_) _ i rfl lv st G h
    exact cl_of hc
