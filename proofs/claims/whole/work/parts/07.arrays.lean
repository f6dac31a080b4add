/-! arrays, new cells, the JDK's own, Strings, answers, calls -/
section OK
variable {own : String} {cc : ByteArray} {ml : Nat} {rt : Option FieldType} {mn : String} {pcs : List Nat} {pc : Nat}
theorem inb_in {i : Int32} {n : Nat} (h : inb i n) : vp_in i n := fun q => q.elim (fun z => h.1 z) (fun z => absurd h.2 (by omega))
theorem rv_toV (E : hE) (o : Option Nat) : rv E (toV o) = va_rf (o.map (hAd E)) := by cases o <;> rfl
theorem cats_map (E : hE) (r : List Value) : ((r.map (rv E)).map fun v => v.category).sum = cats r := by
  induction r with
  | nil => rfl
  | cons a r ih =>
    show (rv E a).category + ((r.map (rv E)).map fun v => v.category).sum = a.category + cats r
    rw [ih, rv_cat]
theorem ok_iaload (hd : decode cc pc = .ok (.iaload, 1)) : ok1 own cc ml rt mn pcs pc 1 (oALdI 13) := by
  refine ⟨mo_oALdI, ?_⟩
  intro E d Gs G' r p l e s m args below meth c C nx jp cl lv st G hn hj hc h
  obtain ⟨hx, hb, hml, hr, hown, hts, hlk, hmn, hV, hbs⟩ := C
  unfold oALdI at h
  split at h
  · rename_i i a rs
    split at h
    · rename_i hk0
      obtain ⟨hk0, hin⟩ := hk0
      obtain ⟨h1, h2⟩ := hn _ _ _ h
      refine ⟨h1, fun H locs ls hl hw2 hS ha hb2 => ?_⟩
      obtain ⟨g1, g2⟩ := hw2.lt (a := a) (by omega)
      show W p l e _ s m args below meth c H locs _ _ _ (F0 m pc ls (.int i :: .ref (hAd E a) :: rs.map (rv E)))
      rw [hAd_lo E g2]
      exact va_iald hx hb hV.1 hw2.1 a 0 (by rw [wL_get E G g1, wEnt_13 hk0]) rfl (inb_in hin) hd (h2 H locs ls hl hw2 hS ha hb2)
    · cases h
  · cases h
theorem ok_baload (hd : decode cc pc = .ok (.baload, 1)) : ok1 own cc ml rt mn pcs pc 1 (oALdI 15) := by
  refine ⟨mo_oALdI, ?_⟩
  intro E d Gs G' r p l e s m args below meth c C nx jp cl lv st G hn hj hc h
  obtain ⟨hx, hb, hml, hr, hown, hts, hlk, hmn, hV, hbs⟩ := C
  unfold oALdI at h
  split at h
  · rename_i i a rs
    split at h
    · rename_i hk0
      obtain ⟨hk0, hin⟩ := hk0
      obtain ⟨h1, h2⟩ := hn _ _ _ h
      refine ⟨h1, fun H locs ls hl hw2 hS ha hb2 => ?_⟩
      obtain ⟨g1, g2⟩ := hw2.lt (a := a) (by omega)
      show W p l e _ s m args below meth c H locs _ _ _ (F0 m pc ls (.int i :: .ref (hAd E a) :: rs.map (rv E)))
      rw [hAd_lo E g2]
      exact va_zald hx hb hV.1 hw2.1 a 2 (by rw [wL_get E G g1, wEnt_15 hk0]) rfl (inb_in hin) hd (h2 H locs ls hl hw2 hS ha hb2)
    · cases h
  · cases h
theorem ok_laload (hd : decode cc pc = .ok (.laload, 1)) : ok1 own cc ml rt mn pcs pc 1 oALdJ := by
  refine ⟨mo_oALdJ, ?_⟩
  intro E d Gs G' r p l e s m args below meth c C nx jp cl lv st G hn hj hc h
  obtain ⟨hx, hb, hml, hr, hown, hts, hlk, hmn, hV, hbs⟩ := C
  unfold oALdJ at h
  split at h
  · rename_i i a rs
    split at h
    · rename_i hk0
      obtain ⟨hk0, hin⟩ := hk0
      obtain ⟨h1, h2⟩ := hn _ _ _ h
      refine ⟨h1, fun H locs ls hl hw2 hS ha hb2 => ?_⟩
      obtain ⟨g1, g2⟩ := hw2.lt (a := a) (by omega)
      show W p l e _ s m args below meth c H locs _ _ _ (F0 m pc ls (.int i :: .ref (hAd E a) :: rs.map (rv E)))
      rw [hAd_lo E g2]
      exact va_lald hx hb hV.1 hw2.1 a 1 (by rw [wL_get E G g1, wEnt_14 hk0]) rfl (inb_in hin) hd (h2 H locs ls hl hw2 hS ha hb2)
    · cases h
  · cases h
def clN (k : Nat) : String := if k = 16 then "MercuryPost$Kept" else if k = 17 then "MercuryPost$Moment" else "MercuryPost$Text"
theorem tys_q (E : hE) {k : Nat} (h1 : 16 ≤ k) (h2 : k ≤ 18) : (tysA E)[k - 13]? = some (E.2.2.2.2.2 k, .object (clN k)) := by
  have : k = 16 ∨ k = 17 ∨ k = 18 := by omega
  rcases this with rfl | rfl | rfl <;> rfl
theorem ok_aaload {kd : Nat} (hq : 16 ≤ kd ∧ kd ≤ 18) (hd : decode cc pc = .ok (.aaload, 1)) : ok1 own cc ml rt mn pcs pc 1 (oALdP kd) := by
  refine ⟨mo_oALdP, ?_⟩
  intro E d Gs G' r p l e s m args below meth c C nx jp cl lv st G hn hj hc h
  obtain ⟨hx, hb, hml, hr, hown, hts, hlk, hmn, hV, hbs⟩ := C
  unfold oALdP at h
  split at h
  · rename_i i a rs
    split at h
    · rename_i hk0
      obtain ⟨hk0, hin⟩ := hk0
      obtain ⟨h1, h2⟩ := hn _ _ _ h
      refine ⟨h1, fun H locs ls hl hw2 hS ha hb2 => ?_⟩
      obtain ⟨g1, g2⟩ := hw2.lt (a := a) (by omega)
      show W p l e _ s m args below meth c H locs _ _ _ (F0 m pc ls (.int i :: .ref (hAd E a) :: rs.map (rv E)))
      rw [hAd_lo E g2]
      have h3 := h2 H locs ls hl hw2 hS ha hb2
      rw [List.map_cons, rv_toV] at h3
      exact va_aldq hx hb hV.1 hw2.1 a (kd - 13) (by rw [wL_get E G g1, wEnt_q hk0 hq.1 hq.2]) (tys_q E hq.1 hq.2) (inb_in hin) hd h3
    · cases h
  · cases h
theorem wEnt_row {E : hE} {G : hG} {a b : Nat} {f : Nat → Int32} (h : b ≠ a) : wEnt E (sRow G a f) b = wEnt E G b := wEnt_congr rfl rfl (by show va_up (gI G) a f b = gI G b; unfold va_up; rw [if_neg h]) rfl rfl
theorem ok_iastore (hd : decode cc pc = .ok (.iastore, 1)) : ok1 own cc ml rt mn pcs pc 1 oAStI := by
  refine ⟨mo_oAStI, ?_⟩
  intro E d Gs G' r p l e s m args below meth c C nx jp cl lv st G hn hj hc h
  obtain ⟨hx, hb, hml, hr, hown, hts, hlk, hmn, hV, hbs⟩ := C
  unfold oAStI at h
  split at h
  · rename_i x i a rs
    split at h
    · rename_i hk0
      obtain ⟨hk0, hin⟩ := hk0
      obtain ⟨h1, h2⟩ := hn _ _ _ h
      refine ⟨h1, fun H locs ls hl hw2 hS ha hb2 => ?_⟩
      obtain ⟨g1, g2⟩ := hw2.lt (a := a) (by omega)
      show W p l e _ s m args below meth c H locs _ _ _ (F0 m pc ls (.int x :: .int i :: .ref (hAd E a) :: rs.map (rv E)))
      rw [hAd_lo E g2]
      have he : (wL E G)[a]? = some (E.1 + a, .inl (E.2.2.2.2.2 13, gl G a, .inl (gI G a))) := by rw [wL_get E G g1, wEnt_13 hk0]
      refine W.iast hx hb (hw2.1 a _ he) ((hV.1.2 0 _ rfl).1 (gl G a) (fun j => .int (gI G a j))) (fun q => by cases q) (by show ¬ (i < 0 ∨ (arrV _ _ _).slots.size ≤ _); rw [arrV_size]; exact inb_in hin) rfl rfl hd fun H1 e1 z1 oq => ?_
      refine h2 H1 _ ls hl (hw2.same z1 (hw2.1.set hw2.2.1 he (e := .inl (E.2.2.2.2.2 13, gl G a, .inl (va_up (gI G a) i.toNatClampNeg x))) ?_ oq) (hw2.2.1.set he) (wL_set rfl g1 (by rw [wEnt_13 (show gk (sI G a i.toNatClampNeg x) a = 13 from hk0)]; rw [show gI (sI G a i.toNatClampNeg x) a = va_up (gI G a) i.toNatClampNeg x from u2_at _ _ _ _]; rfl) (fun b hb => wEnt_sI hb)) rfl rfl) (hS.put z1 oq (hw2.2.1.2 a _ he)) ha hb2
      show H1[E.1 + a]? = some (vp_cell _ _)
      rw [e1]
      rw [vp_cell_i, vp_cell_i, arrV_store]
      congr 2
      funext q
      by_cases hq : q = i.toNatClampNeg
      · subst hq
        simp [updV, va_up]
      · simp [updV, va_up, hq]
    · cases h
  · cases h
theorem ok_lastore (hd : decode cc pc = .ok (.lastore, 1)) : ok1 own cc ml rt mn pcs pc 1 oAStJ := by
  refine ⟨mo_oAStJ, ?_⟩
  intro E d Gs G' r p l e s m args below meth c C nx jp cl lv st G hn hj hc h
  obtain ⟨hx, hb, hml, hr, hown, hts, hlk, hmn, hV, hbs⟩ := C
  unfold oAStJ at h
  split at h
  · rename_i x i a rs
    split at h
    · rename_i hk0
      obtain ⟨hk0, hin⟩ := hk0
      obtain ⟨h1, h2⟩ := hn _ _ _ h
      refine ⟨h1, fun H locs ls hl hw2 hS ha hb2 => ?_⟩
      obtain ⟨g1, g2⟩ := hw2.lt (a := a) (by omega)
      show W p l e _ s m args below meth c H locs _ _ _ (F0 m pc ls (.long x :: .int i :: .ref (hAd E a) :: rs.map (rv E)))
      rw [hAd_lo E g2]
      have he : (wL E G)[a]? = some (E.1 + a, .inl (E.2.2.2.2.2 14, gl G a, .inr (.inl (gJ G a)))) := by rw [wL_get E G g1, wEnt_14 hk0]
      refine W.last hx hb (hw2.1 a _ he) ((hV.1.2 1 _ rfl).1 (gl G a) (fun j => .long (gJ G a j))) (fun q => by cases q) (by show ¬ (i < 0 ∨ (arrV _ _ _).slots.size ≤ _); rw [arrV_size]; exact inb_in hin) rfl rfl hd fun H1 e1 z1 oq => ?_
      refine h2 H1 _ ls hl (hw2.same z1 (hw2.1.set hw2.2.1 he (e := .inl (E.2.2.2.2.2 14, gl G a, .inr (.inl (va_up (gJ G a) i.toNatClampNeg x)))) ?_ oq) (hw2.2.1.set he) (wL_set rfl g1 (by rw [wEnt_14 (show gk (sJ G a i.toNatClampNeg x) a = 14 from hk0)]; rw [show gJ (sJ G a i.toNatClampNeg x) a = va_up (gJ G a) i.toNatClampNeg x from u2_at _ _ _ _]; rfl) (fun b hb => wEnt_sJ hb)) rfl rfl) (hS.put z1 oq (hw2.2.1.2 a _ he)) ha hb2
      show H1[E.1 + a]? = some (vp_cell _ _)
      rw [e1]
      rw [vp_cell_l, vp_cell_l, arrV_store]
      congr 2
      funext q
      by_cases hq : q = i.toNatClampNeg
      · subst hq
        simp [updV, va_up]
      · simp [updV, va_up, hq]
    · cases h
  · cases h
theorem ok_bastore (hd : decode cc pc = .ok (.bastore, 1)) : ok1 own cc ml rt mn pcs pc 1 oAStZ := by
  refine ⟨mo_oAStZ, ?_⟩
  intro E d Gs G' r p l e s m args below meth c C nx jp cl lv st G hn hj hc h
  obtain ⟨hx, hb, hml, hr, hown, hts, hlk, hmn, hV, hbs⟩ := C
  unfold oAStZ at h
  split at h
  · rename_i x i a rs
    split at h
    · rename_i hk0
      obtain ⟨hk0, hin, hz⟩ := hk0
      obtain ⟨h1, h2⟩ := hn _ _ _ h
      refine ⟨h1, fun H locs ls hl hw2 hS ha hb2 => ?_⟩
      obtain ⟨g1, g2⟩ := hw2.lt (a := a) (by omega)
      show W p l e _ s m args below meth c H locs _ _ _ (F0 m pc ls (.int x :: .int i :: .ref (hAd E a) :: rs.map (rv E)))
      rw [hAd_lo E g2]
      have hnx : narrow .boolean (.int x) = .int x := by rcases hz with rfl | rfl <;> rfl
      have he : (wL E G)[a]? = some (E.1 + a, .inl (E.2.2.2.2.2 15, gl G a, .inl (gI G a))) := by rw [wL_get E G g1, wEnt_15 hk0]
      refine W.zast hx hb (hw2.1 a _ he) ((hV.1.2 2 _ rfl).1 (gl G a) (fun j => .int (gI G a j))) (fun q => by cases q) (by show ¬ (i < 0 ∨ (arrV _ _ _).slots.size ≤ _); rw [arrV_size]; exact inb_in hin) rfl rfl hd fun H1 e1 z1 oq => ?_
      refine h2 H1 _ ls hl (hw2.same z1 (hw2.1.set hw2.2.1 he (e := .inl (E.2.2.2.2.2 15, gl G a, .inl (va_up (gI G a) i.toNatClampNeg x))) ?_ oq) (hw2.2.1.set he) (wL_set rfl g1 (by rw [wEnt_15 (show gk (sI G a i.toNatClampNeg x) a = 15 from hk0)]; rw [show gI (sI G a i.toNatClampNeg x) a = va_up (gI G a) i.toNatClampNeg x from u2_at _ _ _ _]; rfl) (fun b hb => wEnt_sI hb)) rfl rfl) (hS.put z1 oq (hw2.2.1.2 a _ he)) ha hb2
      show H1[E.1 + a]? = some (vp_cell _ _)
      rw [e1, hnx]
      rw [vp_cell_i, vp_cell_i, arrV_store]
      congr 2
      funext q
      by_cases hq : q = i.toNatClampNeg
      · subst hq
        simp [updV, va_up]
      · simp [updV, va_up, hq]
    · cases h
  · cases h
theorem ok_aastore {kd ci N : Nat} {T : u_T} (hq : 16 ≤ kd ∧ kd ≤ 18) (hci : ci < 13) (hc0 : vwCl[ci]? = some (clN kd, T, N)) (hd : decode cc pc = .ok (.aastore, 1)) : ok1 own cc ml rt mn pcs pc 1 (oAStP kd ci) := by
  refine ⟨mo_oAStP, ?_⟩
  intro E d Gs G' r p l e s m args below meth c C nx jp cl lv st G hn hj hc h
  obtain ⟨hx, hb, hml, hr, hown, hts, hlk, hmn, hV, hbs⟩ := C
  unfold oAStP at h
  split at h
  · rename_i v i a rs
    split at h
    · rename_i hk0
      obtain ⟨hk0, hin, hkv⟩ := hk0
      obtain ⟨h1, h2⟩ := hn _ _ _ h
      refine ⟨h1, fun H locs ls hl hw2 hS ha hb2 => ?_⟩
      obtain ⟨g1, g2⟩ := hw2.lt (a := a) (by omega)
      obtain ⟨g3, g4⟩ := hw2.lt (a := v) (by omega)
      show W p l e _ s m args below meth c H locs _ _ _ (F0 m pc ls (.ref (hAd E v) :: .int i :: .ref (hAd E a) :: rs.map (rv E)))
      rw [hAd_lo E g2]
      have hav : hAd E v = E.1 + v := hAd_lo E g4
      have he : (wL E G)[a]? = some (E.1 + a, .inl (E.2.2.2.2.2 kd, gl G a, .inr (.inr (.inr (.inr (fun j => (gP G a j).map (hAd E))))))) := by rw [wL_get E G g1, wEnt_q hk0 hq.1 hq.2]
      have hev : (wL E G)[v]? = some (E.1 + v, .inr (ci, fL E G v (ftL ci))) := by rw [wL_get E G g3, wEnt_cls hkv hci]
      rw [hav]
      have hK := hV.1
      have hP := hw2.1
      obtain ⟨r', hr', cellV, q1, q2, q3, -⟩ := hP v _ hev
      have hcls := (hK.1 ci _ hc0).2
      have hr2 := hr'.symm.trans hc0
      cases hr2
      obtain ⟨kA, comp, k1, k2, k3, -⟩ := (hK.2 (kd - 13) _ (tys_q E hq.1 hq.2)).2
      have hcomp : comp = E.2.2.2.2.1.1 ci := Option.some.inj (k3.symm.trans hcls.1)
      subst hcomp
      obtain ⟨kC, hkC, -⟩ := hcls.2
      refine W.aast hx hb (hP a _ he) (fun q h => by cases h) (fun h => by cases h) k1 k2 rfl hkC ⟨hin.1, by show _ < (arrV _ _ _).slots.size; rw [arrV_size]; exact hin.2⟩ q1 (fun q h => by rw [q3] at h; cases h) (by rw [q2]; exact hkC) (by rw [q2]; exact va_assign hcls) rfl rfl hd fun H1 e1 z1 oq => ?_
      refine h2 H1 _ ls hl (hw2.same z1 (hw2.1.set hw2.2.1 he (e := .inl (E.2.2.2.2.2 kd, gl G a, .inr (.inr (.inr (.inr (va_up (fun j => (gP G a j).map (hAd E)) i.toNatClampNeg (some (E.1 + v)))))))) ?_ oq) (hw2.2.1.set he) (wL_set rfl g1 ?_ (fun b hb => wEnt_sP hb)) rfl rfl) (hS.put z1 oq (hw2.2.1.2 a _ he)) ha hb2
      · show H1[E.1 + a]? = some (vp_cell _ _)
        rw [e1]
        rw [vp_cell_q, vp_cell_q, arrV_store]
        congr 2
        funext q
        by_cases hq : q = i.toNatClampNeg
        · subst hq
          simp [updV, va_up, va_rf]
        · simp [updV, va_up, hq]
      · rw [wEnt_q (show gk (sP G a i.toNatClampNeg (some v)) a = kd from hk0) hq.1 hq.2]
        rw [show gP (sP G a i.toNatClampNeg (some v)) a = va_up (gP G a) i.toNatClampNeg (some v) from u2_at _ _ _ _]
        have hf : (fun j => (va_up (gP G a) i.toNatClampNeg (some v) j).map (hAd E)) = va_up (fun j => (gP G a j).map (hAd E)) i.toNatClampNeg (some (E.1 + v)) := by
          funext j
          unfold va_up
          by_cases z : j = i.toNatClampNeg
          · rw [if_pos z, if_pos z, Option.map_some, hav]
          · rw [if_neg z, if_neg z]
        rw [hf]
        rfl
    · cases h
  · cases h
theorem ok_alen (hd : decode cc pc = .ok (.arraylength, 1)) : ok1 own cc ml rt mn pcs pc 1 oALen := by
  refine ⟨mo_oALen, ?_⟩
  intro E d Gs G' r p l e s m args below meth c C nx jp cl lv st G hn hj hc h
  obtain ⟨hx, hb, hml, hr, hown, hts, hlk, hmn, hV, hbs⟩ := C
  unfold oALen at h
  split at h
  · rename_i a rs
    split at h
    · rename_i hk0
      obtain ⟨h1, h2⟩ := hn _ _ _ h
      refine ⟨h1, fun H locs ls hl hw2 hS ha hb2 => ?_⟩
      obtain ⟨g1, g2⟩ := hw2.lt (a := a) (by omega)
      show W p l e _ s m args below meth c H locs _ _ _ (F0 m pc ls (.ref (hAd E a) :: rs.map (rv E)))
      rw [hAd_lo E g2]
      have hq : gk G a = 13 ∨ gk G a = 14 ∨ gk G a = 15 := by omega
      rcases hq with q | q | q
      · exact va_alen (x := (gl G a, .inl (gI G a))) hx hb hV.1 hw2.1 a 0 (by rw [wL_get E G g1, wEnt_13 q]) rfl rfl hd (h2 H locs ls hl hw2 hS ha hb2)
      · exact va_alen (x := (gl G a, .inr (.inl (gJ G a)))) hx hb hV.1 hw2.1 a 1 (by rw [wL_get E G g1, wEnt_14 q]) rfl rfl hd (h2 H locs ls hl hw2 hS ha hb2)
      · exact va_alen (x := (gl G a, .inl (gI G a))) hx hb hV.1 hw2.1 a 2 (by rw [wL_get E G g1, wEnt_15 q]) rfl rfl hd (h2 H locs ls hl hw2 hS ha hb2)
    · cases h
  · cases h
end OK
