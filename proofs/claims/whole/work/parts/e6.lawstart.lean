/-! the start of the law: both objects are made -/
section LS
variable {E : hE} {p : Program} {l : Launch} {e : Env} {s : State} {m : MethodId} {below : List Frame} {meth : Method} {c : Code} {b L : Nat} {xs : Nat → Int32} {lv lv' : List (Nat × Value)} {pc : Nat} {st : List Value} {G : hG} {n : Nat} {i : Int32}
theorem lg_new (C : LC E p s m meth c b L xs) {idx ci N : Nat} {Cn : String} {T : u_T} {ty : Nat → FieldType} (w1 : Cond.classLink R_law idx Cn ∈ gw) (w2 : Cond.instantiable Cn N ∈ gw) (w3 : Cond.initialized Cn ∈ gw) (cf : hCF ci Cn T N ty) (hd : decode code pc = .ok (.new idx, 3)) (h9 : gn G < 90000) (hz : gs G + N ≤ 7302250) (kk : LG E p l e s m below meth c b lv (pc + 3) (.ref (hAd E (gn G)) :: st) (sNew G ci 0 N)) : LG E p l e s m below meth c b lv pc st G := by
  obtain ⟨c1, c2, c3, c4, c5, c6, c7⟩ := cf
  intro H locs ls hl hw hS
  have hV := C.2.1
  have hts := lg_hts C
  have hKn := hV.1.1 ci _ c2
  refine W.newcK C.1.1 C.1.2.1 C.1.2.2.2.2.1 (hts _ w1) (hts _ w2) (hts _ w3) rfl hd (by show gn G + 1 ≤ 600000; omega) (by show gs G + N ≤ 7302250; omega) hKn.2.1 rfl fun H1 kC hkC e1 z1 o1 => ?_
  have h3 := kk H1 locs ls hl (hw.new h9 z1 ?_ o1) (va_Snew hS z1 o1)
  · have hq : hAd E (gn G) = H.size := by rw [hAd_lo E (by omega), hw.2.2.1]
    rw [← hq]
    exact h3
  · have hk0 : gk (sNew G ci 0 N) (gn G) = ci := va_self _ _ _
    rw [wEnt_cls hk0 c1]
    refine ⟨_, c2, ?_⟩
    rw [show E.1 + gn G = H.size from hw.2.2.1.symm]
    refine (u_born ty hts c3 hKn hkC e1 c4).to (fun j hj => ?_)
    rw [c7 j hj]
    have hj2 : j < (ftL ci).length := by rw [c6]; exact hj
    have hg : (ftL ci)[j]? = some ((ftL ci).getD j 0) := by rw [List.getD_eq_getElem?_getD, List.getElem?_eq_getElem hj2]; rfl
    have hq2 : vp_V (fL E (sNew G ci 0 N) (gn G) (ftL ci)) j = fV E (sNew G ci 0 N) (gn G) j ((ftL ci).getD j 0) := by
      show (fL E (sNew G ci 0 N) (gn G) (ftL ci)).getD j .null = _
      rw [List.getD_eq_getElem?_getD, fL_get hg]
      rfl
    refine Eq.trans ?_ hq2.symm
    generalize (ftL ci).getD j 0 = t0
    unfold dfV fV
    rw [show gI (sNew G ci 0 N) (gn G) = fun _ => 0 from va_self _ _ _, show gJ (sNew G ci 0 N) (gn G) = fun _ => 0 from va_self _ _ _, show gP (sNew G ci 0 N) (gn G) = fun _ => none from va_self _ _ _]
    rfl
theorem lg_dup (C : LC E p s m meth c b L xs) {a : Nat} (hd : decode code pc = .ok (.dup, 1)) (kk : LG E p l e s m below meth c b lv (pc + 1) (.ref a :: .ref a :: st) G) : LG E p l e s m below meth c b lv pc (.ref a :: st) G :=
  fun H locs ls hl hw hS => lv_dup C.1.1 C.1.2.1 hd rfl (kk H locs ls hl hw hS)
theorem lg_ast (C : LC E p s m meth c b L xs) {a i : Nat} {k : Fin 4} (hk : (k : Nat) = i) (hi : i < 4) (hl2 : (i, Value.ref a) :: lv.filter (fun q => !(q.1 == i) && !(q.1 + 1 == i && q.2.category == 2)) = lv') (hd : decode code pc = .ok (.astore_n k, 1)) (kk : LG E p l e s m below meth c b lv' (pc + 1) st G) : LG E p l e s m below meth c b lv pc (.ref a :: st) G :=
  fun H locs ls hl hw hS => lv_astore_n (lv' := lv') C.1.1 C.1.2.1 hd hk hl hi hl2 (fun ls' hl' => kk H locs ls' hl' hw hS)
theorem lg_init (C : LC E p s m meth c b L xs) {idx M ci N a : Nat} {Cn : String} {T : u_T} {ty : Nat → FieldType} {rest : List Value} {G2 : hG} (w1 : Cond.methodLink R_law idx (ynOf M) ∈ gw) (w2 : Cond.instanceMethod (ynOf M) ∈ gw) (w4 : Cond.initialized (ynOf M).cls ∈ gw) (w5 : Cond.code (ynOf M) (bcOf M) (mlOf M) (rtOf M) ∈ gw) (cf : hCF ci Cn T N ty) (hq0 : rtOf M = none) (hin : (ynOf M).name = "<init>")
    (hy0 : ((ynOf M).cls ≠ "java/lang/invoke/MethodHandle" ∧ (ynOf M).cls ≠ "java/lang/invoke/VarHandle" ∧ (parseMethodDescriptor (ynOf M).desc).map (fun d => d.parameters.length) = some 0) ∧ mlOf M ≤ 45) (hd : decode code pc = .ok (.invokespecial idx, 3)) (hcat : (rest.map fun v => v.category).sum ≤ 8) (hM : M < 286) (hlen : (lArg [.ref a]).length ≤ mlOf M)
    (hr : ∃ f0, ∀ f, f0 ≤ f → hrun f 200 M 0 (lvOf M [.ref a]) [] G = some (none, G2)) (hz : gn G2 ≤ 600000 ∧ gs G2 ≤ 7302250) (kk : LG E p l e s m below meth c b lv (pc + 3) rest G2) :
    LG E p l e s m below meth c b lv pc (.ref (hAd E a) :: rest) G := by
  obtain ⟨f, hr⟩ := hr
  have hr := hr f (Nat.le_refl _)
  obtain ⟨hmo, hMet⟩ := met_of (E := E) (l := l) hM hlen hr
  obtain ⟨hy, h45⟩ := hy0
  intro H locs ls hl hw hS
  have hV := C.2.1
  have hts := lg_hts C
  have hrun := va_runI (b := hAd E a) (p := p) (l := l) (e := e) (s := s) (m := m) (args := #[Value.ref b]) (below := below) (meth := meth) (c := c) (cells := gn G) (slots := gs G) (H := H) (locs := locs) (g := F0 m pc ls _) (rest := rest) (As := []) ⟨C.1.1, C.1.2.1, C.1.2.2.2.1, C.1.2.2.2.2.1, hts⟩ hMet (cwI 0 hts (gw_W w5) (wsOf_v hq0) rfl rfl (hts _ w4) (hts _ w1) (hts _ w2) hin hy (rm_law h45)) (⟨hPc.blind, fun U hU hW0 => hPc.at hw hS hV U hU hW0⟩) rfl rfl hl.1 rfl (by show 2 * 0 + _ ≤ 8; omega) hd (R := room_1) ⟨by show _ ≤ 600000; omega, by show _ ≤ 7302250; omega⟩
  refine hx_call (E := E) (G2 := G2) (v := none) hrun hS (fun H1 locs1 hw1 hS1 => ?_)
  have h3 := kk H1 locs1 ls hl hw1 hS1
  rw [show gn G2 = gn G + (gn G2 - gn G) by omega, show gs G2 = gs G + (gs G2 - gs G) by omega] at h3
  exact h3
/-- the empty heap -/
def G00 : hG := (0, 0, fun _ => 99, fun _ => 0, fun _ _ => 0, fun _ _ => 0, fun _ _ => none)
theorem rep_00 : RepG G00 [] 0 := ⟨rfl, rfl, fun a => ⟨by cases a <;> rfl, by cases a <;> rfl, fun k => by cases a <;> cases k <;> rfl, by cases a <;> rfl, by cases a <;> rfl⟩⟩
theorem hW_00 (hE0 : E.1 = s.heap.size) : hW E G00 s.heap := by
  have e0 : wL E G00 = [] := rfl
  refine ⟨fun k q h => ?_, ⟨fun i j p q h => ?_, fun k q h => ?_⟩, hE0.symm, fun a _ => rfl, Nat.zero_le _⟩ <;> (rw [e0] at h; simp at h)
theorem lg_start (C : LC E p s m meth c b L xs) : LG E p l e s m below meth c b [(0, .ref b)] 0 [] G00 := by
  refine lg_new C wk_RX11 wt_RX11 wn_RX11 cf_X11 d_law_0 (by show 0 < 90000; omega) (by show 0 + 20 ≤ 7302250; omega) ?_
  refine lg_dup C d_law_3 ?_
  obtain ⟨g1, r1, hr1⟩ := mp_m (d := 198) _ (rep_new rep_00 11 0 20)
  refine lg_init C (M := 103) (a := 0) wl_9 wi_103 wn_RX11 wc_103 cf_X11 rfl rfl (by decide +kernel) d_law_4 (by show 1 + 0 ≤ 8; omega) (by omega) (Nat.le_of_ble_eq_true rfl) hr1 ⟨by rw [r1.1, mp_367]; omega, by rw [r1.2.1]; omega⟩ ?_
  refine lg_ast (lv' := [(1, .ref (hAd E 0)), (0, .ref b)]) C (i := 1) rfl (by omega) rfl d_law_7 ?_
  refine lg_new C wk_RX12 wt_RX12 wn_RX12 cf_X12 d_law_8 (by rw [r1.1, mp_367]; omega) (by rw [r1.2.1]; omega) ?_
  rw [show gn g1 = 367 by rw [r1.1, mp_367]]
  refine lg_dup C d_law_11 ?_
  obtain ⟨g2, r2, hr2⟩ := md_m (d := 200) mp_367 _ (rep_new r1 12 0 58)
  refine lg_init C (M := 164) (a := 367) wl_12 wi_164 wn_RX12 wc_164 cf_X12 rfl rfl (by decide +kernel) d_law_12 (by show 1 + 0 ≤ 8; omega) (by omega) (Nat.le_of_ble_eq_true rfl) hr2 ⟨by rw [r2.1]; decide +kernel, by rw [r2.2.1]; omega⟩ ?_
  refine lg_ast (lv' := [(2, .ref (hAd E 367)), (1, .ref (hAd E 0)), (0, .ref b)]) C (i := 2) rfl (by omega) rfl d_law_15 ?_
  intro H locs ls hl hw hS
  refine lv_iconst (v := 0) C.1.1 C.1.2.1 d_law_16 (by decide) ?_
  refine lv_istore_n (lv' := lvI E b (nI 0)) C.1.1 C.1.2.1 d_law_17 rfl hl (by decide) rfl (fun ls hl => ?_)
  exact lg_loop C (L + 7) 0 (by omega) (by omega) g2 (start_inv (show RepG g2 alL 34255 from r2)) (al_frz (show RepG g2 alL 34255 from r2)) H locs ls hl hw hS
end LS
/-- YOUR PART: from the entry, for every script of at most 3072 ints, the law comes to its end with true -/
theorem whole_start {p : Program} {e : Env} {s : State} {m : MethodId} {below : List Frame} {meth : Method} {c : Code} (l : Launch) (hflags : l.flags = flags0) {b L : Nat} {xs : Nat → Int32} (hL : L ≤ 3072) (C0 : lw_At p s m meth c b L xs) : W p l e room_1 s m #[Value.ref b] below meth c s.heap [] 0 0 (lw_Z below #[Value.ref b] s) (entryFrame m ([Value.ref b] : List Value).toArray 4) := by
  obtain ⟨E, hE0, hV0⟩ := hv_ex C0
  have hl := lv_entry ([.ref b]) (n := 4) (Nat.le_of_ble_eq_true rfl)
  rw [lg_entry_eq]
  generalize (lg_sl ([.ref b]) ++ List.replicate (4 - (lg_sl ([.ref b])).length) Slot.unset).toArray = ls at hl ⊢
  have hl : lv_has ls 4 [(0, .ref b)] := hl
  exact lg_start (E := E) ⟨C0, hV0, hE0, hL⟩ s.heap [] ls hl (hW_00 hE0) va_S.rf
