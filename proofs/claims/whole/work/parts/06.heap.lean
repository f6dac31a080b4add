/-! the instructions that read and write the heap -/
theorem hAd_lo (E : hE) {a : Nat} (h : a < 100000) : hAd E a = E.1 + a := by
  unfold hAd
  rw [if_pos h]
theorem wL_get (E : hE) (G : hG) {a : Nat} (h : a < gn G) : (wL E G)[a]? = some (E.1 + a, wEnt E G a) := by
  unfold wL
  rw [List.getElem?_map, List.getElem?_range h]
  rfl
theorem hW.lt {E : hE} {G : hG} {H : Heap} (h : hW E G H) {a : Nat} (hk : gk G a ≠ 99) : a < gn G ∧ a < 100000 := by
  obtain ⟨-, -, -, h4, h5⟩ := h
  have : a < gn G := by
    rcases Nat.lt_or_ge a (gn G) with q | q
    · exact q
    · exact absurd (h4 a q) hk
  exact ⟨this, by omega⟩
theorem wL_set {E : hE} {G G' : hG} {a : Nat} {e : va_E} (hn : gn G' = gn G) (ha : a < gn G) (h1 : wEnt E G' a = e) (h2 : ∀ b, b ≠ a → wEnt E G' b = wEnt E G b) : (wL E G).set a (E.1 + a, e) = wL E G' := by
  have hl : a < (wL E G).length := by unfold wL; rw [List.length_map, List.length_range]; exact ha
  apply List.ext_getElem?
  intro i
  by_cases hi : i < gn G
  · rw [wL_get E G' (by rw [hn]; exact hi)]
    by_cases e1 : i = a
    · subst e1
      rw [List.getElem?_set_self hl, h1]
    · rw [List.getElem?_set_ne (Ne.symm e1), wL_get E G hi, h2 i e1]
  · rw [List.getElem?_eq_none (by rw [List.length_set]; unfold wL; rw [List.length_map, List.length_range]; omega), List.getElem?_eq_none (by unfold wL; rw [List.length_map, List.length_range]; omega)]
theorem fL_congr {E : hE} {G G' : hG} {b : Nat} {ts : List Nat} (h1 : gI G' b = gI G b) (h2 : gJ G' b = gJ G b) (h3 : gP G' b = gP G b) : fL E G' b ts = fL E G b ts := by
  unfold fL fV
  rw [h1, h2, h3]
theorem wEnt_congr {E : hE} {G G' : hG} {b : Nat} (h0 : gk G' b = gk G b) (h4 : gl G' b = gl G b) (h1 : gI G' b = gI G b) (h2 : gJ G' b = gJ G b) (h3 : gP G' b = gP G b) : wEnt E G' b = wEnt E G b := by
  unfold wEnt
  rw [h0, h4, h1, h2, h3, fL_congr h1 h2 h3]
theorem wEnt_cls {E : hE} {G : hG} {a c : Nat} (h : gk G a = c) (hc : c < 13) : wEnt E G a = .inr (c, fL E G a (ftL c)) := by
  unfold wEnt
  rw [h, if_neg (by omega), if_neg (by omega), if_neg (by omega), if_neg (by omega)]
theorem wEnt_13 {E : hE} {G : hG} {a : Nat} (h : gk G a = 13) : wEnt E G a = .inl (E.2.2.2.2.2 13, gl G a, .inl (gI G a)) := by
  unfold wEnt
  rw [if_pos h]
theorem wEnt_14 {E : hE} {G : hG} {a : Nat} (h : gk G a = 14) : wEnt E G a = .inl (E.2.2.2.2.2 14, gl G a, .inr (.inl (gJ G a))) := by
  unfold wEnt
  rw [if_neg (by omega), if_pos h]
theorem wEnt_15 {E : hE} {G : hG} {a : Nat} (h : gk G a = 15) : wEnt E G a = .inl (E.2.2.2.2.2 15, gl G a, .inl (gI G a)) := by
  unfold wEnt
  rw [if_neg (by omega), if_neg (by omega), if_pos h]
theorem wEnt_q {E : hE} {G : hG} {a k : Nat} (h : gk G a = k) (h1 : 16 ≤ k) (h2 : k ≤ 18) : wEnt E G a = .inl (E.2.2.2.2.2 k, gl G a, .inr (.inr (.inr (.inr (fun j => (gP G a j).map (hAd E)))))) := by
  unfold wEnt
  rw [if_neg (by omega), if_neg (by omega), if_neg (by omega), if_pos (by omega), h]
theorem fL_len (E : hE) (G : hG) (a : Nat) (ts : List Nat) : (fL E G a ts).length = ts.length := by
  unfold fL
  rw [List.length_mapIdx]
theorem fL_get {E : hE} {G : hG} {a k t : Nat} {ts : List Nat} (h : ts[k]? = some t) : (fL E G a ts)[k]? = some (fV E G a k t) := by
  unfold fL
  rw [List.getElem?_mapIdx, h]
  rfl
theorem fL_set {E : hE} {G G' : hG} {a k t : Nat} {ts : List Nat} {v : Value} (h : ts[k]? = some t) (h1 : fV E G' a k t = v) (h2 : ∀ j t, j ≠ k → fV E G' a j t = fV E G a j t) : (fL E G a ts).set k v = fL E G' a ts := by
  have hk : k < ts.length := (List.getElem?_eq_some_iff.mp h).1
  apply List.ext_getElem?
  intro i
  by_cases e : i = k
  · subst e
    rw [List.getElem?_set_self (by rw [fL_len]; exact hk), fL_get h, h1]
  · rw [List.getElem?_set_ne (Ne.symm e)]
    unfold fL
    rw [List.getElem?_mapIdx, List.getElem?_mapIdx]
    cases hq : ts[i]? with
    | none => rfl
    | some q => simp only [Option.map_some]; rw [h2 i q e]
theorem u2_ne {α : Type} (f : Nat → Nat → α) {a k b : Nat} (v : α) (h : b ≠ a) : u2 f a k v b = f b := by
  unfold u2 va_up
  rw [if_neg h]
theorem u2_at {α : Type} (f : Nat → Nat → α) (a k : Nat) (v : α) : u2 f a k v a = va_up (f a) k v := by
  unfold u2 va_up
  rw [if_pos rfl]
theorem u2_self {α : Type} (f : Nat → Nat → α) (a k : Nat) (v : α) : u2 f a k v a k = v := by
  rw [u2_at]
  unfold va_up
  rw [if_pos rfl]
theorem u2_off {α : Type} (f : Nat → Nat → α) {a k j : Nat} (v : α) (h : j ≠ k) : u2 f a k v a j = f a j := by
  rw [u2_at]
  unfold va_up
  rw [if_neg h]
theorem wEnt_sI {E : hE} {G : hG} {a k b : Nat} {v : Int32} (h : b ≠ a) : wEnt E (sI G a k v) b = wEnt E G b := wEnt_congr rfl rfl (u2_ne _ _ h) rfl rfl
theorem wEnt_sJ {E : hE} {G : hG} {a k b : Nat} {v : Int64} (h : b ≠ a) : wEnt E (sJ G a k v) b = wEnt E G b := wEnt_congr rfl rfl rfl (u2_ne _ _ h) rfl
theorem wEnt_sP {E : hE} {G : hG} {a k b : Nat} {v : Option Nat} (h : b ≠ a) : wEnt E (sP G a k v) b = wEnt E G b := wEnt_congr rfl rfl rfl rfl (u2_ne _ _ h)
def dfV (t : Nat) : Value := if t = 0 then .int 0 else if t = 1 then .long 0 else .null
/-- a class: its number, fields, types -/
def hCF (ci : Nat) (C : String) (T : u_T) (N : Nat) (ty : Nat → FieldType) : Prop := ci < 13 ∧ vwCl[ci]? = some (C, T, N) ∧ (∀ w ∈ u_ws C T N, w ∈ gw) ∧ (∀ k, k < N → parseFieldDescriptor (T k).2.2.1 = some (ty k)) ∧ (∀ a, a < N → ∀ b, b < N → a ≠ b → (T a).2.1 ≠ (T b).2.1) ∧ (ftL ci).length = N ∧ (∀ j, j < N → defaultValue (ty j) = dfV ((ftL ci).getD j 0))
section VX
variable {p : Program} {l : Launch} {e : Env} {R : Room} {s : State} {m : MethodId} {args : Array Value} {below : List Frame} {meth : Method} {c : Code} {H : Heap} {locs : List Loc} {cells slots : Nat} {Q : State → Prop}
variable {cc : ByteArray} {pc : Nat} {ls : Array Slot} {rest : List Value} {D : va_G} {cl : List vw_C} {A : Nat → Prop} {a : Nat} {tys : List (ClassId × FieldType)} {ws : va_W} {H0 : Heap}
/-- a field written: the heap keeps its size (a row of its own: the kit's rows don't say that) -/
theorem hx_put (hexec : p.tables.exec = Jvm.exec) (hb : c.code = cc) {own C : String} {T : u_T} {N ci index : Nat} (hts : ∀ w ∈ gw, w.before args s = true) (hin : ∀ w ∈ u_ws C T N, w ∈ gw) (ty0 : Nat → FieldType) (hty : ∀ k, k < N → parseFieldDescriptor (T k).2.2.1 = some (ty0 k)) (hnm : ∀ a, a < N → ∀ b, b < N → a ≠ b → (T a).2.1 ≠ (T b).2.1) (hown : s.vm.findClass own = some m.cls) (hK : va_K D cl tys s) (hP : va_P D cl ws H) (hD : va_D A ws) (hS0 : va_S A H0 H locs) (q0 : Nat) {fs : List Value} (he : ws[q0]? = some (a, .inr (ci, fs))) (hc : cl[ci]? = some (C, T, N)) (k : Nat) (hk : k < N) {ty : FieldType} {v : Value} (hd : parseFieldDescriptor (T k).2.2.1 = some ty) (hn : narrow ty v = v) (hfit : fits ty v = true) (hl : k < fs.length)
    (hdg : decode cc pc = .ok (.putfield index, 3))
    (hlink : ((T k).2.2.2 = false ∧ ((Cond.fieldLink own index (T k).1 (T k).2.1 (T k).2.2.1).before args s = true ∨ ∃ host, (Cond.fieldLinkNest own index (T k).1 (T k).2.1 (T k).2.2.1 host).before args s = true)) ∨ ((T k).2.2.2 = true ∧ (Cond.fieldLink own index (T k).1 (T k).2.1 (T k).2.2.1).before args s = true ∧ meth.name = "<init>" ∧ (T k).1 = own))
    (kk : ∀ (H1 : Heap) (locs1 : List Loc), H1.size = H.size → va_P D cl (ws.set q0 (a, .inr (ci, fs.set k v))) H1 → va_D A (ws.set q0 (a, .inr (ci, fs.set k v))) → va_S A H0 H1 locs1 → W p l e R s m args below meth c H1 locs1 cells slots Q (F0 m (pc + 3) ls rest)) : W p l e R s m args below meth c H locs cells slots Q (F0 m pc ls (v :: .ref a :: rest)) := by
  have hap := va_apart (own := own) hts hin ty0 hty hnm hK hc
  obtain ⟨r, h1, cell, q1, q2, q3, q4⟩ := hP q0 _ he
  have hr : r = (C, T, N) := Option.some.inj (h1.symm.trans hc)
  subst hr
  obtain ⟨hS, hfc, kC, hkC, hkind⟩ := hK.1 ci _ hc
  obtain ⟨cf, kf, fi, f, hi, hsl⟩ := hS k hk
  have hlay := hts _ (hin _ (u_in_lay hk))
  unfold u_lay at hlay
  have hst := (u_facts hfc hkC (u_lays hts hin hk) hi).1
  have fin : ∀ H' : Heap, H'[a]? = some (cell.setSlot f.slot v) → H'.size = H.size → (∀ q, q ≠ a → H'[q]? = H[q]?) → W p l e R s m args below meth c H' (locs ++ [⟨a, f.slot⟩]) cells slots Q (F0 m (pc + 3) ls rest) := by
    intro H' e1 e2 e3
    rw [hsl] at e1 ⊢
    exact kk H' _ e2 (hP.set hD he ⟨_, hc, t_OB.to (V := updV (vp_V fs) k v) ⟨_, e1, q2, q3, t_set q4 hap hk v⟩ (fun j _ => vp_updV_set hl v j)⟩ e3) (hD.set he) (hS0.put e2 e3 (hD.2 q0 _ he))
  rcases hlink with ⟨hf, hlink⟩ | ⟨hf, hlink, hin2, hdecl⟩
  · rw [if_neg (by rw [hf]; decide)] at hlay
    have h6 := u_store hfc hkC hkind hlay hi hd hn hfit
    rcases hlink with hlink | ⟨host, hlink⟩
    · exact W.putK hexec hb (f := f) ⟨hown, hlink, ⟨_, _, _, hi⟩, hst⟩ (by rw [q2]; exact h6) q1 q3 (by rw [hsl]; exact k2_hasslot (q4 k hk)) rfl rfl hdg fin
    · exact va_WputK hexec hb (f := f) hown hlink hi hst (by rw [q2]; exact h6) q1 q3 (by rw [hsl]; exact k2_hasslot (q4 k hk)) rfl rfl hdg fin
  · rw [if_pos hf] at hlay
    have hcf : m.cls = cf := by
      obtain ⟨_, _, c', _, _, _, -, -, hf', -, -, -, hown2, -⟩ := Cond.laysFinal_spec hlay
      have e1 : c' = cf := by have := hi.symm.trans hf'; simp at this; exact this.1.symm
      rw [hdecl] at hown2
      rw [← e1]; exact Option.some.inj (hown.symm.trans hown2)
    have h6 := u_fits hfc hkC hkind (Or.inr hlay) hi hd hn hfit
    exact W.putFinK hexec hb hown hlink hi hst hcf hin2 (by rw [q2]; exact h6) q1 q3 (by rw [hsl]; exact k2_hasslot (q4 k hk)) rfl rfl hdg fin
end VX
section OK
variable {own : String} {cc : ByteArray} {ml : Nat} {rt : Option FieldType} {mn : String} {pcs : List Nat} {pc : Nat}
theorem hW.same {E : hE} {G G' : hG} {H H1 : Heap} {ws : va_W} (hw : hW E G H) (hz : H1.size = H.size) (hP : va_P E.2.2.2.2.1 vwCl ws H1) (hD : va_D (hA E) ws) (he : ws = wL E G') (hn : gn G' = gn G) (hk : gk G' = gk G) : hW E G' H1 := by
  subst he
  obtain ⟨-, -, h3, h4, h5⟩ := hw
  exact ⟨hP, hD, by rw [hz, hn]; exact h3, by rw [hn, hk]; exact h4, by rw [hn]; exact h5⟩
def isRefT : FieldType → Bool
  | .object _ => true
  | .array _ => true
  | _ => false
theorem isRefT_n {t : FieldType} (h : isRefT t = true) (a : Nat) : narrow t (.ref a) = .ref a := by
  cases t <;> first | rfl | cases h
theorem isRefT_f {t : FieldType} (h : isRefT t = true) (a : Nat) : fits t (.ref a) = true := by
  cases t <;> first | rfl | cases h
theorem ok_getI {idx ci k : Nat} {C : String} {T : u_T} {N : Nat} {ty : Nat → FieldType} {n ds : String} {fin : Bool} (hw : Cond.fieldLink own idx C n ds ∈ gw) (cf : hCF ci C T N ty) (hT : T k = (C, n, ds, fin)) (ht : (ftL ci)[k]? = some 0) (hk : k < N) (hd : decode cc pc = .ok (.getfield idx, 3)) : ok1 own cc ml rt mn pcs pc 3 (oGetI ci k) := by
  refine ⟨mo_oGetI, ?_⟩
  intro E d Gs G' r p l e s m args below meth c C nx jp cl lv st G hn hj hc h
  obtain ⟨hx, hb, hml, hr, hown, hts, hlk, hmn, hV, hbs⟩ := C
  obtain ⟨c1, c2, c3, c4, c5, c6, c7⟩ := cf
  unfold oGetI at h
  split at h
  · rename_i a rs
    split at h
    · rename_i hk0
      obtain ⟨h1, h2⟩ := hn _ _ _ h
      refine ⟨h1, fun H locs ls hl hw2 hS ha hb2 => ?_⟩
      obtain ⟨g1, g2⟩ := hw2.lt (a := a) (by omega)
      show W p l e _ s m args below meth c H locs _ _ _ (F0 m pc ls (.ref (hAd E a) :: rs.map (rv E)))
      rw [hAd_lo E g2]
      exact va_get (v := .int (gI G a k)) (ref := C) hx hb hts c3 hown hV.1 hw2.1 a (by rw [wL_get E G g1, wEnt_cls hk0 c1]) c2 k hk (by rw [hT]; exact hts _ hw) (by rw [hT]; exact fun _ q => q) (fL_get ht) hd (h2 H locs ls hl hw2 hS ha hb2)
    · cases h
  · cases h
theorem ok_getNI (j : Nat) {idx ci k : Nat} {C : String} {T : u_T} {N : Nat} {ty : Nat → FieldType} {n ds host : String} {fin : Bool} (cf : hCF ci C T N ty) (hq : nwF[j]? = some (own, idx, C, n, ds, host)) (hT : T k = (C, n, ds, fin)) (ht : (ftL ci)[k]? = some 0) (hk : k < N) (hd : decode cc pc = .ok (.getfield idx, 3)) : ok1 own cc ml rt mn pcs pc 3 (oGetI ci k) := by
  refine ⟨mo_oGetI, ?_⟩
  intro E d Gs G' r p l e s m args below meth c C nx jp cl lv st G hn hj hc h
  obtain ⟨hx, hb, hml, hr, hown, hts, hlk, hmn, hV, hbs⟩ := C
  obtain ⟨c1, c2, c3, c4, c5, c6, c7⟩ := cf
  unfold oGetI at h
  split at h
  · rename_i a rs
    split at h
    · rename_i hk0
      obtain ⟨h1, h2⟩ := hn _ _ _ h
      refine ⟨h1, fun H locs ls hl hw2 hS ha hb2 => ?_⟩
      obtain ⟨g1, g2⟩ := hw2.lt (a := a) (by omega)
      show W p l e _ s m args below meth c H locs _ _ _ (F0 m pc ls (.ref (hAd E a) :: rs.map (rv E)))
      rw [hAd_lo E g2]
      exact va_getN (host := host) (v := .int (gI G a k)) (ref := C) hx hb hts c3 hown hV.1 hw2.1 a (by rw [wL_get E G g1, wEnt_cls hk0 c1]) c2 k hk (by rw [hT]; exact va_Nw.use rfl (hV.2.2.2.1 j _ hq)) (by rw [hT]; exact fun _ q => q) (fL_get ht) hd (h2 H locs ls hl hw2 hS ha hb2)
    · cases h
  · cases h
theorem ok_getJ {idx ci k : Nat} {C : String} {T : u_T} {N : Nat} {ty : Nat → FieldType} {n ds : String} {fin : Bool} (hw : Cond.fieldLink own idx C n ds ∈ gw) (cf : hCF ci C T N ty) (hT : T k = (C, n, ds, fin)) (ht : (ftL ci)[k]? = some 1) (hk : k < N) (hd : decode cc pc = .ok (.getfield idx, 3)) : ok1 own cc ml rt mn pcs pc 3 (oGetJ ci k) := by
  refine ⟨mo_oGetJ, ?_⟩
  intro E d Gs G' r p l e s m args below meth c C nx jp cl lv st G hn hj hc h
  obtain ⟨hx, hb, hml, hr, hown, hts, hlk, hmn, hV, hbs⟩ := C
  obtain ⟨c1, c2, c3, c4, c5, c6, c7⟩ := cf
  unfold oGetJ at h
  split at h
  · rename_i a rs
    split at h
    · rename_i hk0
      obtain ⟨h1, h2⟩ := hn _ _ _ h
      refine ⟨h1, fun H locs ls hl hw2 hS ha hb2 => ?_⟩
      obtain ⟨g1, g2⟩ := hw2.lt (a := a) (by omega)
      show W p l e _ s m args below meth c H locs _ _ _ (F0 m pc ls (.ref (hAd E a) :: rs.map (rv E)))
      rw [hAd_lo E g2]
      exact va_get (v := .long (gJ G a k)) (ref := C) hx hb hts c3 hown hV.1 hw2.1 a (by rw [wL_get E G g1, wEnt_cls hk0 c1]) c2 k hk (by rw [hT]; exact hts _ hw) (by rw [hT]; exact fun _ q => q) (fL_get ht) hd (h2 H locs ls hl hw2 hS ha hb2)
    · cases h
  · cases h
theorem ok_getNJ (j : Nat) {idx ci k : Nat} {C : String} {T : u_T} {N : Nat} {ty : Nat → FieldType} {n ds host : String} {fin : Bool} (cf : hCF ci C T N ty) (hq : nwF[j]? = some (own, idx, C, n, ds, host)) (hT : T k = (C, n, ds, fin)) (ht : (ftL ci)[k]? = some 1) (hk : k < N) (hd : decode cc pc = .ok (.getfield idx, 3)) : ok1 own cc ml rt mn pcs pc 3 (oGetJ ci k) := by
  refine ⟨mo_oGetJ, ?_⟩
  intro E d Gs G' r p l e s m args below meth c C nx jp cl lv st G hn hj hc h
  obtain ⟨hx, hb, hml, hr, hown, hts, hlk, hmn, hV, hbs⟩ := C
  obtain ⟨c1, c2, c3, c4, c5, c6, c7⟩ := cf
  unfold oGetJ at h
  split at h
  · rename_i a rs
    split at h
    · rename_i hk0
      obtain ⟨h1, h2⟩ := hn _ _ _ h
      refine ⟨h1, fun H locs ls hl hw2 hS ha hb2 => ?_⟩
      obtain ⟨g1, g2⟩ := hw2.lt (a := a) (by omega)
      show W p l e _ s m args below meth c H locs _ _ _ (F0 m pc ls (.ref (hAd E a) :: rs.map (rv E)))
      rw [hAd_lo E g2]
      exact va_getN (host := host) (v := .long (gJ G a k)) (ref := C) hx hb hts c3 hown hV.1 hw2.1 a (by rw [wL_get E G g1, wEnt_cls hk0 c1]) c2 k hk (by rw [hT]; exact va_Nw.use rfl (hV.2.2.2.1 j _ hq)) (by rw [hT]; exact fun _ q => q) (fL_get ht) hd (h2 H locs ls hl hw2 hS ha hb2)
    · cases h
  · cases h
theorem ok_getP {idx ci k : Nat} {C : String} {T : u_T} {N : Nat} {ty : Nat → FieldType} {n ds : String} {fin : Bool} (hw : Cond.fieldLink own idx C n ds ∈ gw) (cf : hCF ci C T N ty) (hT : T k = (C, n, ds, fin)) (ht : (ftL ci)[k]? = some 2) (hk : k < N) (hd : decode cc pc = .ok (.getfield idx, 3)) : ok1 own cc ml rt mn pcs pc 3 (oGetP ci k) := by
  refine ⟨mo_oGetP, ?_⟩
  intro E d Gs G' r p l e s m args below meth c C nx jp cl lv st G hn hj hc h
  obtain ⟨hx, hb, hml, hr, hown, hts, hlk, hmn, hV, hbs⟩ := C
  obtain ⟨c1, c2, c3, c4, c5, c6, c7⟩ := cf
  unfold oGetP at h
  split at h
  · rename_i a rs
    split at h
    · rename_i hk0
      obtain ⟨h1, h2⟩ := hn _ _ _ h
      refine ⟨h1, fun H locs ls hl hw2 hS ha hb2 => ?_⟩
      obtain ⟨g1, g2⟩ := hw2.lt (a := a) (by omega)
      show W p l e _ s m args below meth c H locs _ _ _ (F0 m pc ls (.ref (hAd E a) :: rs.map (rv E)))
      rw [hAd_lo E g2]
      exact va_get (v := rv E (toV (gP G a k))) (ref := C) hx hb hts c3 hown hV.1 hw2.1 a (by rw [wL_get E G g1, wEnt_cls hk0 c1]) c2 k hk (by rw [hT]; exact hts _ hw) (by rw [hT]; exact fun _ q => q) (fL_get ht) hd (h2 H locs ls hl hw2 hS ha hb2)
    · cases h
  · cases h
theorem ok_getNP (j : Nat) {idx ci k : Nat} {C : String} {T : u_T} {N : Nat} {ty : Nat → FieldType} {n ds host : String} {fin : Bool} (cf : hCF ci C T N ty) (hq : nwF[j]? = some (own, idx, C, n, ds, host)) (hT : T k = (C, n, ds, fin)) (ht : (ftL ci)[k]? = some 2) (hk : k < N) (hd : decode cc pc = .ok (.getfield idx, 3)) : ok1 own cc ml rt mn pcs pc 3 (oGetP ci k) := by
  refine ⟨mo_oGetP, ?_⟩
  intro E d Gs G' r p l e s m args below meth c C nx jp cl lv st G hn hj hc h
  obtain ⟨hx, hb, hml, hr, hown, hts, hlk, hmn, hV, hbs⟩ := C
  obtain ⟨c1, c2, c3, c4, c5, c6, c7⟩ := cf
  unfold oGetP at h
  split at h
  · rename_i a rs
    split at h
    · rename_i hk0
      obtain ⟨h1, h2⟩ := hn _ _ _ h
      refine ⟨h1, fun H locs ls hl hw2 hS ha hb2 => ?_⟩
      obtain ⟨g1, g2⟩ := hw2.lt (a := a) (by omega)
      show W p l e _ s m args below meth c H locs _ _ _ (F0 m pc ls (.ref (hAd E a) :: rs.map (rv E)))
      rw [hAd_lo E g2]
      exact va_getN (host := host) (v := rv E (toV (gP G a k))) (ref := C) hx hb hts c3 hown hV.1 hw2.1 a (by rw [wL_get E G g1, wEnt_cls hk0 c1]) c2 k hk (by rw [hT]; exact va_Nw.use rfl (hV.2.2.2.1 j _ hq)) (by rw [hT]; exact fun _ q => q) (fL_get ht) hd (h2 H locs ls hl hw2 hS ha hb2)
    · cases h
  · cases h
theorem ok_putI {idx ci k : Nat} {C : String} {T : u_T} {N : Nat} {ty : Nat → FieldType} {n ds : String} (hw : Cond.fieldLink own idx C n ds ∈ gw) (cf : hCF ci C T N ty) (hT : T k = (C, n, ds, false)) (ht : (ftL ci)[k]? = some 0) (hk : k < N) (hp : ty k = .int) (hd : decode cc pc = .ok (.putfield idx, 3)) : ok1 own cc ml rt mn pcs pc 3 (oPutI ci k) := by
  refine ⟨mo_oPutI, ?_⟩
  intro E d Gs G' r p l e s m args below meth c C nx jp cl lv st G hn hj hc h
  obtain ⟨hx, hb, hml, hr, hown, hts, hlk, hmn, hV, hbs⟩ := C
  obtain ⟨c1, c2, c3, c4, c5, c6, c7⟩ := cf
  unfold oPutI at h
  split at h
  · rename_i x a rs
    split at h
    · rename_i hk0
      obtain ⟨h1, h2⟩ := hn _ _ _ h
      refine ⟨h1, fun H locs ls hl hw2 hS ha hb2 => ?_⟩
      obtain ⟨g1, g2⟩ := hw2.lt (a := a) (by omega)
      show W p l e _ s m args below meth c H locs _ _ _ (F0 m pc ls (.int x :: .ref (hAd E a) :: rs.map (rv E)))
      rw [hAd_lo E g2]
      refine hx_put (ty := .int) (ci := ci) (fs := fL E G a (ftL ci)) hx hb hts c3 ty c4 c5 hown hV.1 hw2.1 hw2.2.1 hS a (by rw [wL_get E G g1, wEnt_cls hk0 c1]) c2 k hk (by first | exact c4 k hk | (rw [← hp]; exact c4 k hk)) rfl rfl (by rw [fL_len, c6]; exact hk) hd (Or.inl ⟨by rw [hT], Or.inl (by rw [hT]; exact hts _ hw)⟩) (fun H1 locs1 hz1 hP1 hD1 hS1 => ?_)
      exact h2 H1 locs1 ls hl (hw2.same hz1 hP1 hD1 (wL_set rfl g1 (by rw [wEnt_cls (show gk (sI G a k x) a = ci from hk0) c1, fL_set ht (by show (if (0 : Nat) = 0 then Value.int (gI (sI G a k x) a k) else _) = _; rw [if_pos rfl, show gI (sI G a k x) a k = x from u2_self _ _ _ _]) (fun j t hj => by unfold fV; rw [show gI (sI G a k x) a j = gI G a j from u2_off _ _ hj]; rfl)]) (fun b hb => wEnt_sI hb)) rfl rfl) hS1 ha hb2
    · cases h
  · cases h
theorem ok_putIF {idx ci k : Nat} {C : String} {T : u_T} {N : Nat} {ty : Nat → FieldType} {n ds : String} (hw : Cond.fieldLink own idx C n ds ∈ gw) (cf : hCF ci C T N ty) (hT : T k = (C, n, ds, true)) (ht : (ftL ci)[k]? = some 0) (hk : k < N) (hi : mn = "<init>") (ho : C = own) (hp : ty k = .int) (hd : decode cc pc = .ok (.putfield idx, 3)) : ok1 own cc ml rt mn pcs pc 3 (oPutI ci k) := by
  refine ⟨mo_oPutI, ?_⟩
  intro E d Gs G' r p l e s m args below meth c C nx jp cl lv st G hn hj hc h
  obtain ⟨hx, hb, hml, hr, hown, hts, hlk, hmn, hV, hbs⟩ := C
  obtain ⟨c1, c2, c3, c4, c5, c6, c7⟩ := cf
  unfold oPutI at h
  split at h
  · rename_i x a rs
    split at h
    · rename_i hk0
      obtain ⟨h1, h2⟩ := hn _ _ _ h
      refine ⟨h1, fun H locs ls hl hw2 hS ha hb2 => ?_⟩
      obtain ⟨g1, g2⟩ := hw2.lt (a := a) (by omega)
      show W p l e _ s m args below meth c H locs _ _ _ (F0 m pc ls (.int x :: .ref (hAd E a) :: rs.map (rv E)))
      rw [hAd_lo E g2]
      refine hx_put (ty := .int) (ci := ci) (fs := fL E G a (ftL ci)) hx hb hts c3 ty c4 c5 hown hV.1 hw2.1 hw2.2.1 hS a (by rw [wL_get E G g1, wEnt_cls hk0 c1]) c2 k hk (by first | exact c4 k hk | (rw [← hp]; exact c4 k hk)) rfl rfl (by rw [fL_len, c6]; exact hk) hd (Or.inr ⟨by rw [hT], by rw [hT]; exact hts _ hw, hmn.trans hi, by rw [hT]; exact ho⟩) (fun H1 locs1 hz1 hP1 hD1 hS1 => ?_)
      exact h2 H1 locs1 ls hl (hw2.same hz1 hP1 hD1 (wL_set rfl g1 (by rw [wEnt_cls (show gk (sI G a k x) a = ci from hk0) c1, fL_set ht (by show (if (0 : Nat) = 0 then Value.int (gI (sI G a k x) a k) else _) = _; rw [if_pos rfl, show gI (sI G a k x) a k = x from u2_self _ _ _ _]) (fun j t hj => by unfold fV; rw [show gI (sI G a k x) a j = gI G a j from u2_off _ _ hj]; rfl)]) (fun b hb => wEnt_sI hb)) rfl rfl) hS1 ha hb2
    · cases h
  · cases h
theorem ok_putNI (j : Nat) {idx ci k : Nat} {C : String} {T : u_T} {N : Nat} {ty : Nat → FieldType} {n ds host : String} (cf : hCF ci C T N ty) (hq : nwF[j]? = some (own, idx, C, n, ds, host)) (hT : T k = (C, n, ds, false)) (ht : (ftL ci)[k]? = some 0) (hk : k < N) (hp : ty k = .int) (hd : decode cc pc = .ok (.putfield idx, 3)) : ok1 own cc ml rt mn pcs pc 3 (oPutI ci k) := by
  refine ⟨mo_oPutI, ?_⟩
  intro E d Gs G' r p l e s m args below meth c C nx jp cl lv st G hn hj hc h
  obtain ⟨hx, hb, hml, hr, hown, hts, hlk, hmn, hV, hbs⟩ := C
  obtain ⟨c1, c2, c3, c4, c5, c6, c7⟩ := cf
  unfold oPutI at h
  split at h
  · rename_i x a rs
    split at h
    · rename_i hk0
      obtain ⟨h1, h2⟩ := hn _ _ _ h
      refine ⟨h1, fun H locs ls hl hw2 hS ha hb2 => ?_⟩
      obtain ⟨g1, g2⟩ := hw2.lt (a := a) (by omega)
      show W p l e _ s m args below meth c H locs _ _ _ (F0 m pc ls (.int x :: .ref (hAd E a) :: rs.map (rv E)))
      rw [hAd_lo E g2]
      refine hx_put (ty := .int) (ci := ci) (fs := fL E G a (ftL ci)) hx hb hts c3 ty c4 c5 hown hV.1 hw2.1 hw2.2.1 hS a (by rw [wL_get E G g1, wEnt_cls hk0 c1]) c2 k hk (by first | exact c4 k hk | (rw [← hp]; exact c4 k hk)) rfl rfl (by rw [fL_len, c6]; exact hk) hd (Or.inl ⟨by rw [hT], Or.inr ⟨host, by rw [hT]; exact va_Nw.use rfl (hV.2.2.2.1 j _ hq)⟩⟩) (fun H1 locs1 hz1 hP1 hD1 hS1 => ?_)
      exact h2 H1 locs1 ls hl (hw2.same hz1 hP1 hD1 (wL_set rfl g1 (by rw [wEnt_cls (show gk (sI G a k x) a = ci from hk0) c1, fL_set ht (by show (if (0 : Nat) = 0 then Value.int (gI (sI G a k x) a k) else _) = _; rw [if_pos rfl, show gI (sI G a k x) a k = x from u2_self _ _ _ _]) (fun j t hj => by unfold fV; rw [show gI (sI G a k x) a j = gI G a j from u2_off _ _ hj]; rfl)]) (fun b hb => wEnt_sI hb)) rfl rfl) hS1 ha hb2
    · cases h
  · cases h
theorem ok_putZ {idx ci k : Nat} {C : String} {T : u_T} {N : Nat} {ty : Nat → FieldType} {n ds : String} (hw : Cond.fieldLink own idx C n ds ∈ gw) (cf : hCF ci C T N ty) (hT : T k = (C, n, ds, false)) (ht : (ftL ci)[k]? = some 0) (hk : k < N) (hp : ty k = .boolean) (hd : decode cc pc = .ok (.putfield idx, 3)) : ok1 own cc ml rt mn pcs pc 3 (oPutZ ci k) := by
  refine ⟨mo_oPutZ, ?_⟩
  intro E d Gs G' r p l e s m args below meth c C nx jp cl lv st G hn hj hc h
  obtain ⟨hx, hb, hml, hr, hown, hts, hlk, hmn, hV, hbs⟩ := C
  obtain ⟨c1, c2, c3, c4, c5, c6, c7⟩ := cf
  unfold oPutZ at h
  split at h
  · rename_i x a rs
    split at h
    · rename_i hk1
      obtain ⟨hk0, hz⟩ := hk1
      obtain ⟨h1, h2⟩ := hn _ _ _ h
      refine ⟨h1, fun H locs ls hl hw2 hS ha hb2 => ?_⟩
      obtain ⟨g1, g2⟩ := hw2.lt (a := a) (by omega)
      show W p l e _ s m args below meth c H locs _ _ _ (F0 m pc ls (.int x :: .ref (hAd E a) :: rs.map (rv E)))
      rw [hAd_lo E g2]
      refine hx_put (ty := .boolean) (ci := ci) (fs := fL E G a (ftL ci)) hx hb hts c3 ty c4 c5 hown hV.1 hw2.1 hw2.2.1 hS a (by rw [wL_get E G g1, wEnt_cls hk0 c1]) c2 k hk (by first | exact c4 k hk | (rw [← hp]; exact c4 k hk)) (by rcases hz with rfl | rfl <;> rfl) (by rcases hz with rfl | rfl <;> rfl) (by rw [fL_len, c6]; exact hk) hd (Or.inl ⟨by rw [hT], Or.inl (by rw [hT]; exact hts _ hw)⟩) (fun H1 locs1 hz1 hP1 hD1 hS1 => ?_)
      exact h2 H1 locs1 ls hl (hw2.same hz1 hP1 hD1 (wL_set rfl g1 (by rw [wEnt_cls (show gk (sI G a k x) a = ci from hk0) c1, fL_set ht (by show (if (0 : Nat) = 0 then Value.int (gI (sI G a k x) a k) else _) = _; rw [if_pos rfl, show gI (sI G a k x) a k = x from u2_self _ _ _ _]) (fun j t hj => by unfold fV; rw [show gI (sI G a k x) a j = gI G a j from u2_off _ _ hj]; rfl)]) (fun b hb => wEnt_sI hb)) rfl rfl) hS1 ha hb2
    · cases h
  · cases h
theorem ok_putZF {idx ci k : Nat} {C : String} {T : u_T} {N : Nat} {ty : Nat → FieldType} {n ds : String} (hw : Cond.fieldLink own idx C n ds ∈ gw) (cf : hCF ci C T N ty) (hT : T k = (C, n, ds, true)) (ht : (ftL ci)[k]? = some 0) (hk : k < N) (hi : mn = "<init>") (ho : C = own) (hp : ty k = .boolean) (hd : decode cc pc = .ok (.putfield idx, 3)) : ok1 own cc ml rt mn pcs pc 3 (oPutZ ci k) := by
  refine ⟨mo_oPutZ, ?_⟩
  intro E d Gs G' r p l e s m args below meth c C nx jp cl lv st G hn hj hc h
  obtain ⟨hx, hb, hml, hr, hown, hts, hlk, hmn, hV, hbs⟩ := C
  obtain ⟨c1, c2, c3, c4, c5, c6, c7⟩ := cf
  unfold oPutZ at h
  split at h
  · rename_i x a rs
    split at h
    · rename_i hk1
      obtain ⟨hk0, hz⟩ := hk1
      obtain ⟨h1, h2⟩ := hn _ _ _ h
      refine ⟨h1, fun H locs ls hl hw2 hS ha hb2 => ?_⟩
      obtain ⟨g1, g2⟩ := hw2.lt (a := a) (by omega)
      show W p l e _ s m args below meth c H locs _ _ _ (F0 m pc ls (.int x :: .ref (hAd E a) :: rs.map (rv E)))
      rw [hAd_lo E g2]
      refine hx_put (ty := .boolean) (ci := ci) (fs := fL E G a (ftL ci)) hx hb hts c3 ty c4 c5 hown hV.1 hw2.1 hw2.2.1 hS a (by rw [wL_get E G g1, wEnt_cls hk0 c1]) c2 k hk (by first | exact c4 k hk | (rw [← hp]; exact c4 k hk)) (by rcases hz with rfl | rfl <;> rfl) (by rcases hz with rfl | rfl <;> rfl) (by rw [fL_len, c6]; exact hk) hd (Or.inr ⟨by rw [hT], by rw [hT]; exact hts _ hw, hmn.trans hi, by rw [hT]; exact ho⟩) (fun H1 locs1 hz1 hP1 hD1 hS1 => ?_)
      exact h2 H1 locs1 ls hl (hw2.same hz1 hP1 hD1 (wL_set rfl g1 (by rw [wEnt_cls (show gk (sI G a k x) a = ci from hk0) c1, fL_set ht (by show (if (0 : Nat) = 0 then Value.int (gI (sI G a k x) a k) else _) = _; rw [if_pos rfl, show gI (sI G a k x) a k = x from u2_self _ _ _ _]) (fun j t hj => by unfold fV; rw [show gI (sI G a k x) a j = gI G a j from u2_off _ _ hj]; rfl)]) (fun b hb => wEnt_sI hb)) rfl rfl) hS1 ha hb2
    · cases h
  · cases h
theorem ok_putNZ (j : Nat) {idx ci k : Nat} {C : String} {T : u_T} {N : Nat} {ty : Nat → FieldType} {n ds host : String} (cf : hCF ci C T N ty) (hq : nwF[j]? = some (own, idx, C, n, ds, host)) (hT : T k = (C, n, ds, false)) (ht : (ftL ci)[k]? = some 0) (hk : k < N) (hp : ty k = .boolean) (hd : decode cc pc = .ok (.putfield idx, 3)) : ok1 own cc ml rt mn pcs pc 3 (oPutZ ci k) := by
  refine ⟨mo_oPutZ, ?_⟩
  intro E d Gs G' r p l e s m args below meth c C nx jp cl lv st G hn hj hc h
  obtain ⟨hx, hb, hml, hr, hown, hts, hlk, hmn, hV, hbs⟩ := C
  obtain ⟨c1, c2, c3, c4, c5, c6, c7⟩ := cf
  unfold oPutZ at h
  split at h
  · rename_i x a rs
    split at h
    · rename_i hk1
      obtain ⟨hk0, hz⟩ := hk1
      obtain ⟨h1, h2⟩ := hn _ _ _ h
      refine ⟨h1, fun H locs ls hl hw2 hS ha hb2 => ?_⟩
      obtain ⟨g1, g2⟩ := hw2.lt (a := a) (by omega)
      show W p l e _ s m args below meth c H locs _ _ _ (F0 m pc ls (.int x :: .ref (hAd E a) :: rs.map (rv E)))
      rw [hAd_lo E g2]
      refine hx_put (ty := .boolean) (ci := ci) (fs := fL E G a (ftL ci)) hx hb hts c3 ty c4 c5 hown hV.1 hw2.1 hw2.2.1 hS a (by rw [wL_get E G g1, wEnt_cls hk0 c1]) c2 k hk (by first | exact c4 k hk | (rw [← hp]; exact c4 k hk)) (by rcases hz with rfl | rfl <;> rfl) (by rcases hz with rfl | rfl <;> rfl) (by rw [fL_len, c6]; exact hk) hd (Or.inl ⟨by rw [hT], Or.inr ⟨host, by rw [hT]; exact va_Nw.use rfl (hV.2.2.2.1 j _ hq)⟩⟩) (fun H1 locs1 hz1 hP1 hD1 hS1 => ?_)
      exact h2 H1 locs1 ls hl (hw2.same hz1 hP1 hD1 (wL_set rfl g1 (by rw [wEnt_cls (show gk (sI G a k x) a = ci from hk0) c1, fL_set ht (by show (if (0 : Nat) = 0 then Value.int (gI (sI G a k x) a k) else _) = _; rw [if_pos rfl, show gI (sI G a k x) a k = x from u2_self _ _ _ _]) (fun j t hj => by unfold fV; rw [show gI (sI G a k x) a j = gI G a j from u2_off _ _ hj]; rfl)]) (fun b hb => wEnt_sI hb)) rfl rfl) hS1 ha hb2
    · cases h
  · cases h
theorem ok_putJ {idx ci k : Nat} {C : String} {T : u_T} {N : Nat} {ty : Nat → FieldType} {n ds : String} (hw : Cond.fieldLink own idx C n ds ∈ gw) (cf : hCF ci C T N ty) (hT : T k = (C, n, ds, false)) (ht : (ftL ci)[k]? = some 1) (hk : k < N) (hp : ty k = .long) (hd : decode cc pc = .ok (.putfield idx, 3)) : ok1 own cc ml rt mn pcs pc 3 (oPutJ ci k) := by
  refine ⟨mo_oPutJ, ?_⟩
  intro E d Gs G' r p l e s m args below meth c C nx jp cl lv st G hn hj hc h
  obtain ⟨hx, hb, hml, hr, hown, hts, hlk, hmn, hV, hbs⟩ := C
  obtain ⟨c1, c2, c3, c4, c5, c6, c7⟩ := cf
  unfold oPutJ at h
  split at h
  · rename_i x a rs
    split at h
    · rename_i hk0
      obtain ⟨h1, h2⟩ := hn _ _ _ h
      refine ⟨h1, fun H locs ls hl hw2 hS ha hb2 => ?_⟩
      obtain ⟨g1, g2⟩ := hw2.lt (a := a) (by omega)
      show W p l e _ s m args below meth c H locs _ _ _ (F0 m pc ls (.long x :: .ref (hAd E a) :: rs.map (rv E)))
      rw [hAd_lo E g2]
      refine hx_put (ty := .long) (ci := ci) (fs := fL E G a (ftL ci)) hx hb hts c3 ty c4 c5 hown hV.1 hw2.1 hw2.2.1 hS a (by rw [wL_get E G g1, wEnt_cls hk0 c1]) c2 k hk (by first | exact c4 k hk | (rw [← hp]; exact c4 k hk)) rfl rfl (by rw [fL_len, c6]; exact hk) hd (Or.inl ⟨by rw [hT], Or.inl (by rw [hT]; exact hts _ hw)⟩) (fun H1 locs1 hz1 hP1 hD1 hS1 => ?_)
      exact h2 H1 locs1 ls hl (hw2.same hz1 hP1 hD1 (wL_set rfl g1 (by rw [wEnt_cls (show gk (sJ G a k x) a = ci from hk0) c1, fL_set ht (by show (if (1 : Nat) = 0 then _ else if (1 : Nat) = 1 then Value.long (gJ (sJ G a k x) a k) else _) = _; rw [if_neg (by decide), if_pos rfl, show gJ (sJ G a k x) a k = x from u2_self _ _ _ _]) (fun j t hj => by unfold fV; rw [show gJ (sJ G a k x) a j = gJ G a j from u2_off _ _ hj]; rfl)]) (fun b hb => wEnt_sJ hb)) rfl rfl) hS1 ha hb2
    · cases h
  · cases h
theorem ok_putJF {idx ci k : Nat} {C : String} {T : u_T} {N : Nat} {ty : Nat → FieldType} {n ds : String} (hw : Cond.fieldLink own idx C n ds ∈ gw) (cf : hCF ci C T N ty) (hT : T k = (C, n, ds, true)) (ht : (ftL ci)[k]? = some 1) (hk : k < N) (hi : mn = "<init>") (ho : C = own) (hp : ty k = .long) (hd : decode cc pc = .ok (.putfield idx, 3)) : ok1 own cc ml rt mn pcs pc 3 (oPutJ ci k) := by
  refine ⟨mo_oPutJ, ?_⟩
  intro E d Gs G' r p l e s m args below meth c C nx jp cl lv st G hn hj hc h
  obtain ⟨hx, hb, hml, hr, hown, hts, hlk, hmn, hV, hbs⟩ := C
  obtain ⟨c1, c2, c3, c4, c5, c6, c7⟩ := cf
  unfold oPutJ at h
  split at h
  · rename_i x a rs
    split at h
    · rename_i hk0
      obtain ⟨h1, h2⟩ := hn _ _ _ h
      refine ⟨h1, fun H locs ls hl hw2 hS ha hb2 => ?_⟩
      obtain ⟨g1, g2⟩ := hw2.lt (a := a) (by omega)
      show W p l e _ s m args below meth c H locs _ _ _ (F0 m pc ls (.long x :: .ref (hAd E a) :: rs.map (rv E)))
      rw [hAd_lo E g2]
      refine hx_put (ty := .long) (ci := ci) (fs := fL E G a (ftL ci)) hx hb hts c3 ty c4 c5 hown hV.1 hw2.1 hw2.2.1 hS a (by rw [wL_get E G g1, wEnt_cls hk0 c1]) c2 k hk (by first | exact c4 k hk | (rw [← hp]; exact c4 k hk)) rfl rfl (by rw [fL_len, c6]; exact hk) hd (Or.inr ⟨by rw [hT], by rw [hT]; exact hts _ hw, hmn.trans hi, by rw [hT]; exact ho⟩) (fun H1 locs1 hz1 hP1 hD1 hS1 => ?_)
      exact h2 H1 locs1 ls hl (hw2.same hz1 hP1 hD1 (wL_set rfl g1 (by rw [wEnt_cls (show gk (sJ G a k x) a = ci from hk0) c1, fL_set ht (by show (if (1 : Nat) = 0 then _ else if (1 : Nat) = 1 then Value.long (gJ (sJ G a k x) a k) else _) = _; rw [if_neg (by decide), if_pos rfl, show gJ (sJ G a k x) a k = x from u2_self _ _ _ _]) (fun j t hj => by unfold fV; rw [show gJ (sJ G a k x) a j = gJ G a j from u2_off _ _ hj]; rfl)]) (fun b hb => wEnt_sJ hb)) rfl rfl) hS1 ha hb2
    · cases h
  · cases h
theorem ok_putNJ (j : Nat) {idx ci k : Nat} {C : String} {T : u_T} {N : Nat} {ty : Nat → FieldType} {n ds host : String} (cf : hCF ci C T N ty) (hq : nwF[j]? = some (own, idx, C, n, ds, host)) (hT : T k = (C, n, ds, false)) (ht : (ftL ci)[k]? = some 1) (hk : k < N) (hp : ty k = .long) (hd : decode cc pc = .ok (.putfield idx, 3)) : ok1 own cc ml rt mn pcs pc 3 (oPutJ ci k) := by
  refine ⟨mo_oPutJ, ?_⟩
  intro E d Gs G' r p l e s m args below meth c C nx jp cl lv st G hn hj hc h
  obtain ⟨hx, hb, hml, hr, hown, hts, hlk, hmn, hV, hbs⟩ := C
  obtain ⟨c1, c2, c3, c4, c5, c6, c7⟩ := cf
  unfold oPutJ at h
  split at h
  · rename_i x a rs
    split at h
    · rename_i hk0
      obtain ⟨h1, h2⟩ := hn _ _ _ h
      refine ⟨h1, fun H locs ls hl hw2 hS ha hb2 => ?_⟩
      obtain ⟨g1, g2⟩ := hw2.lt (a := a) (by omega)
      show W p l e _ s m args below meth c H locs _ _ _ (F0 m pc ls (.long x :: .ref (hAd E a) :: rs.map (rv E)))
      rw [hAd_lo E g2]
      refine hx_put (ty := .long) (ci := ci) (fs := fL E G a (ftL ci)) hx hb hts c3 ty c4 c5 hown hV.1 hw2.1 hw2.2.1 hS a (by rw [wL_get E G g1, wEnt_cls hk0 c1]) c2 k hk (by first | exact c4 k hk | (rw [← hp]; exact c4 k hk)) rfl rfl (by rw [fL_len, c6]; exact hk) hd (Or.inl ⟨by rw [hT], Or.inr ⟨host, by rw [hT]; exact va_Nw.use rfl (hV.2.2.2.1 j _ hq)⟩⟩) (fun H1 locs1 hz1 hP1 hD1 hS1 => ?_)
      exact h2 H1 locs1 ls hl (hw2.same hz1 hP1 hD1 (wL_set rfl g1 (by rw [wEnt_cls (show gk (sJ G a k x) a = ci from hk0) c1, fL_set ht (by show (if (1 : Nat) = 0 then _ else if (1 : Nat) = 1 then Value.long (gJ (sJ G a k x) a k) else _) = _; rw [if_neg (by decide), if_pos rfl, show gJ (sJ G a k x) a k = x from u2_self _ _ _ _]) (fun j t hj => by unfold fV; rw [show gJ (sJ G a k x) a j = gJ G a j from u2_off _ _ hj]; rfl)]) (fun b hb => wEnt_sJ hb)) rfl rfl) hS1 ha hb2
    · cases h
  · cases h
theorem ok_putP {idx ci k : Nat} {C : String} {T : u_T} {N : Nat} {ty : Nat → FieldType} {n ds : String} (hw : Cond.fieldLink own idx C n ds ∈ gw) (cf : hCF ci C T N ty) (hT : T k = (C, n, ds, false)) (ht : (ftL ci)[k]? = some 2) (hk : k < N) (hp : isRefT (ty k) = true) (hd : decode cc pc = .ok (.putfield idx, 3)) : ok1 own cc ml rt mn pcs pc 3 (oPutP ci k) := by
  refine ⟨mo_oPutP, ?_⟩
  intro E d Gs G' r p l e s m args below meth c C nx jp cl lv st G hn hj hc h
  obtain ⟨hx, hb, hml, hr, hown, hts, hlk, hmn, hV, hbs⟩ := C
  obtain ⟨c1, c2, c3, c4, c5, c6, c7⟩ := cf
  unfold oPutP at h
  split at h
  · rename_i x a rs
    split at h
    · rename_i hk0
      obtain ⟨h1, h2⟩ := hn _ _ _ h
      refine ⟨h1, fun H locs ls hl hw2 hS ha hb2 => ?_⟩
      obtain ⟨g1, g2⟩ := hw2.lt (a := a) (by omega)
      show W p l e _ s m args below meth c H locs _ _ _ (F0 m pc ls (.ref (hAd E x) :: .ref (hAd E a) :: rs.map (rv E)))
      rw [hAd_lo E g2]
      refine hx_put (ty := ty k) (ci := ci) (fs := fL E G a (ftL ci)) hx hb hts c3 ty c4 c5 hown hV.1 hw2.1 hw2.2.1 hS a (by rw [wL_get E G g1, wEnt_cls hk0 c1]) c2 k hk (by first | exact c4 k hk | (rw [← hp]; exact c4 k hk)) (isRefT_n hp _) (isRefT_f hp _) (by rw [fL_len, c6]; exact hk) hd (Or.inl ⟨by rw [hT], Or.inl (by rw [hT]; exact hts _ hw)⟩) (fun H1 locs1 hz1 hP1 hD1 hS1 => ?_)
      exact h2 H1 locs1 ls hl (hw2.same hz1 hP1 hD1 (wL_set rfl g1 (by rw [wEnt_cls (show gk (sP G a k (some x)) a = ci from hk0) c1, fL_set ht (by show (if (2 : Nat) = 0 then _ else if (2 : Nat) = 1 then _ else rv E (toV (gP (sP G a k (some x)) a k))) = _; rw [if_neg (by decide), if_neg (by decide), show gP (sP G a k (some x)) a k = some x from u2_self _ _ _ _]; rfl) (fun j t hj => by unfold fV; rw [show gP (sP G a k (some x)) a j = gP G a j from u2_off _ _ hj]; rfl)]) (fun b hb => wEnt_sP hb)) rfl rfl) hS1 ha hb2
    · cases h
  · cases h
theorem ok_putPF {idx ci k : Nat} {C : String} {T : u_T} {N : Nat} {ty : Nat → FieldType} {n ds : String} (hw : Cond.fieldLink own idx C n ds ∈ gw) (cf : hCF ci C T N ty) (hT : T k = (C, n, ds, true)) (ht : (ftL ci)[k]? = some 2) (hk : k < N) (hi : mn = "<init>") (ho : C = own) (hp : isRefT (ty k) = true) (hd : decode cc pc = .ok (.putfield idx, 3)) : ok1 own cc ml rt mn pcs pc 3 (oPutP ci k) := by
  refine ⟨mo_oPutP, ?_⟩
  intro E d Gs G' r p l e s m args below meth c C nx jp cl lv st G hn hj hc h
  obtain ⟨hx, hb, hml, hr, hown, hts, hlk, hmn, hV, hbs⟩ := C
  obtain ⟨c1, c2, c3, c4, c5, c6, c7⟩ := cf
  unfold oPutP at h
  split at h
  · rename_i x a rs
    split at h
    · rename_i hk0
      obtain ⟨h1, h2⟩ := hn _ _ _ h
      refine ⟨h1, fun H locs ls hl hw2 hS ha hb2 => ?_⟩
      obtain ⟨g1, g2⟩ := hw2.lt (a := a) (by omega)
      show W p l e _ s m args below meth c H locs _ _ _ (F0 m pc ls (.ref (hAd E x) :: .ref (hAd E a) :: rs.map (rv E)))
      rw [hAd_lo E g2]
      refine hx_put (ty := ty k) (ci := ci) (fs := fL E G a (ftL ci)) hx hb hts c3 ty c4 c5 hown hV.1 hw2.1 hw2.2.1 hS a (by rw [wL_get E G g1, wEnt_cls hk0 c1]) c2 k hk (by first | exact c4 k hk | (rw [← hp]; exact c4 k hk)) (isRefT_n hp _) (isRefT_f hp _) (by rw [fL_len, c6]; exact hk) hd (Or.inr ⟨by rw [hT], by rw [hT]; exact hts _ hw, hmn.trans hi, by rw [hT]; exact ho⟩) (fun H1 locs1 hz1 hP1 hD1 hS1 => ?_)
      exact h2 H1 locs1 ls hl (hw2.same hz1 hP1 hD1 (wL_set rfl g1 (by rw [wEnt_cls (show gk (sP G a k (some x)) a = ci from hk0) c1, fL_set ht (by show (if (2 : Nat) = 0 then _ else if (2 : Nat) = 1 then _ else rv E (toV (gP (sP G a k (some x)) a k))) = _; rw [if_neg (by decide), if_neg (by decide), show gP (sP G a k (some x)) a k = some x from u2_self _ _ _ _]; rfl) (fun j t hj => by unfold fV; rw [show gP (sP G a k (some x)) a j = gP G a j from u2_off _ _ hj]; rfl)]) (fun b hb => wEnt_sP hb)) rfl rfl) hS1 ha hb2
    · cases h
  · cases h
theorem ok_putNP (j : Nat) {idx ci k : Nat} {C : String} {T : u_T} {N : Nat} {ty : Nat → FieldType} {n ds host : String} (cf : hCF ci C T N ty) (hq : nwF[j]? = some (own, idx, C, n, ds, host)) (hT : T k = (C, n, ds, false)) (ht : (ftL ci)[k]? = some 2) (hk : k < N) (hp : isRefT (ty k) = true) (hd : decode cc pc = .ok (.putfield idx, 3)) : ok1 own cc ml rt mn pcs pc 3 (oPutP ci k) := by
  refine ⟨mo_oPutP, ?_⟩
  intro E d Gs G' r p l e s m args below meth c C nx jp cl lv st G hn hj hc h
  obtain ⟨hx, hb, hml, hr, hown, hts, hlk, hmn, hV, hbs⟩ := C
  obtain ⟨c1, c2, c3, c4, c5, c6, c7⟩ := cf
  unfold oPutP at h
  split at h
  · rename_i x a rs
    split at h
    · rename_i hk0
      obtain ⟨h1, h2⟩ := hn _ _ _ h
      refine ⟨h1, fun H locs ls hl hw2 hS ha hb2 => ?_⟩
      obtain ⟨g1, g2⟩ := hw2.lt (a := a) (by omega)
      show W p l e _ s m args below meth c H locs _ _ _ (F0 m pc ls (.ref (hAd E x) :: .ref (hAd E a) :: rs.map (rv E)))
      rw [hAd_lo E g2]
      refine hx_put (ty := ty k) (ci := ci) (fs := fL E G a (ftL ci)) hx hb hts c3 ty c4 c5 hown hV.1 hw2.1 hw2.2.1 hS a (by rw [wL_get E G g1, wEnt_cls hk0 c1]) c2 k hk (by first | exact c4 k hk | (rw [← hp]; exact c4 k hk)) (isRefT_n hp _) (isRefT_f hp _) (by rw [fL_len, c6]; exact hk) hd (Or.inl ⟨by rw [hT], Or.inr ⟨host, by rw [hT]; exact va_Nw.use rfl (hV.2.2.2.1 j _ hq)⟩⟩) (fun H1 locs1 hz1 hP1 hD1 hS1 => ?_)
      exact h2 H1 locs1 ls hl (hw2.same hz1 hP1 hD1 (wL_set rfl g1 (by rw [wEnt_cls (show gk (sP G a k (some x)) a = ci from hk0) c1, fL_set ht (by show (if (2 : Nat) = 0 then _ else if (2 : Nat) = 1 then _ else rv E (toV (gP (sP G a k (some x)) a k))) = _; rw [if_neg (by decide), if_neg (by decide), show gP (sP G a k (some x)) a k = some x from u2_self _ _ _ _]; rfl) (fun j t hj => by unfold fV; rw [show gP (sP G a k (some x)) a j = gP G a j from u2_off _ _ hj]; rfl)]) (fun b hb => wEnt_sP hb)) rfl rfl) hS1 ha hb2
    · cases h
  · cases h
end OK
