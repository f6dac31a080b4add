/-! THE CLAIM OUT OF ONE WALK OF THE LAW'S BODY. Your part is whole_start (and what it stands on); all else here is the same for every law, but numbers. -/
def R_law : String := "MercuryPostLaw"
def lw_P (b : Addr) (xs : List Int32) (args : Array Value) (s : State) : Prop := args = #[.ref b] ∧ s.IntsAt b xs ∧ xs.length ≤ 3072 ∧ (Jvm.Cond.and given_1 narrow_1).before args s = true
def lw_Q (_ : Array Value) (s : State) (o : Outcome) (t : State) : Prop := o = .returned (some (.int 1)) ∧ Framed s o t [] 600000 7302250
def lw_Z (below : List Frame) (a : Array Value) (s : State) : State → Prop := fun t => ∃ o, t.status = .running ∧ Ended t below o ∧ lw_Q a s o t
/-- the law's own end, with 1 on the stack, nothing written that was there before, its room as the claim has it -/
theorem lw_ret {p : Program} {l : Launch} {e : Env} {s : State} {m : MethodId} {below : List Frame} {meth : Method} {c : Code} {b : Nat} (hx : p.tables.exec = Jvm.exec) (hb : c.code = code) (hr : meth.sig.returnType = ret) (hlocks : meth.locks = false) {pc : Nat} {H : Heap} {ls : Array Slot} (hdg : decode code pc = .ok (.ireturn, 1)) : W p l e room_1 s m #[Value.ref b] below meth c H [] 600000 7302250 (lw_Z below #[Value.ref b] s) (F0 m pc ls [.int 1]) := by
  intro T hT X
  obtain ⟨fs, hret, hrun, hended, hW, hframe⟩ := X.leave (v := some (.int 1)) (hlocks := hlocks) (fun h => by rw [hr] at h; cases h)
  have hmeth' : T.vm.method? m = some meth := X.method'
  refine ⟨T.setFrames fs, ?_, .returned (some (.int 1)), hrun, hended, rfl, ⟨_, rfl⟩, hW, hframe⟩
  jvm_step X.here [X.here.top, hx, hb, hdg, hmeth', hr, ret, narrow_b1]
  (try refine ⟨rfl, ?_⟩); (try refine ⟨rfl, ?_⟩)
  first | (intro acts; rw [hret _ acts rfl rfl rfl]) | rw [hret _ _ rfl rfl rfl]
  exact Steps.refl _
/-- what holds at the law's entry: the machine, the code, the tables' words (any of lw_tbl by 'hts w (by decide +kernel)'), the script of L ints xs at the cell b, what the Statement gives of the start (any of its parts by flat_of_before) -/
def lw_At (p : Program) (s : State) (m : MethodId) (meth : Method) (c : Code) (b L : Nat) (xs : Nat → Int32) : Prop :=
  p.tables.exec = Jvm.exec ∧ c.code = code ∧ meth.sig.returnType = ret ∧ c.maxLocals = 4 ∧ s.vm.findClass R_law = some m.cls ∧ (∀ w ∈ lw_tbl, w.before #[Value.ref b] s = true) ∧ va_X b L xs s s.heap ∧ b < s.heap.size ∧ meth.locks = false ∧ (Jvm.Cond.and given_1 narrow_1).before #[Value.ref b] s = true
/-! the law's walk: what a method's run says, and the law's own steps -/
theorem met_of {E : hE} {l : Launch} {f d M : Nat} {av : List Value} {G1 : hG} {v : Option Value} {G2 : hG} (hM' : M < 286) (hlen : (lArg av).length ≤ mlOf M) (hr' : hrun f d M 0 (lvOf M av) [] G1 = some (v, G2)) : (gn G1 ≤ gn G2 ∧ gs G1 ≤ gs G2) ∧ hM E l d M av G1 v G2 := by
  obtain ⟨hpl, pcs', hp0, hok'⟩ := okAll M hM'
  refine ⟨run_mono okAll f d M 0 hM' _ _ _ _ _ hr', ?_⟩
  unfold hM
  refine Met.ofW (cc := bcOf M) (maxL := mlOf M) (ret := rtOf M) hpl rfl ?_
  intro p e s m args below meth c s₁ B hml hv
  obtain ⟨rfl, hw, hV0⟩ := hv
  have hC1 : hC E (ynOf M).cls (bcOf M) (mlOf M) (rtOf M) (ynOf M).name p s m (av.map (rv E)).toArray meth c :=
    ⟨B.exec, B.bytes, hml, B.returns, findClass_of_methodNamed B.named, fun w hw => atoms_spec (ws := wsOf M) B.pre w (List.mem_cons_of_mem _ hw), B.notSynchronized, (name_of_methodNamed B.named B.method).1, hV0, by rw [hw.2.2.1]; omega⟩
  obtain ⟨-, k2⟩ := run_sound okAll E l f d M 0 hM' pcs' hok' G1 G2 v p e s m _ below meth c hC1 _ _ _ hr'
  have k3 := k2 s.heap [] _ (lvR_entry E hlen) hw va_S.rf (Nat.le_refl _) (Nat.le_refl _)
  rw [Nat.sub_self, Nat.sub_self, hp0] at k3
  rw [lg_entry_eq]
  exact k3
/-- where the law stands -/
def LG (E : hE) (p : Program) (l : Launch) (e : Env) (s : State) (m : MethodId) (below : List Frame) (meth : Method) (c : Code) (b : Nat) (lv : List (Nat × Value)) (pc : Nat) (st : List Value) (G : hG) : Prop :=
  ∀ (H : Heap) (locs : List Loc) (ls : Array Slot), lv_has ls 4 lv → hW E G H → va_S (hA E) s.heap H locs → W p l e room_1 s m #[Value.ref b] below meth c H locs (gn G) (gs G) (lw_Z below #[Value.ref b] s) (F0 m pc ls st)
/-- the law's locals in its loop -/
def lvI (E : hE) (b : Nat) (i : Int32) : List (Nat × Value) := [(3, .int i), (2, .ref (hAd E 367)), (1, .ref (hAd E 0)), (0, .ref b)]
/-- what the law's frame has -/
def LC (E : hE) (p : Program) (s : State) (m : MethodId) (meth : Method) (c : Code) (b L : Nat) (xs : Nat → Int32) : Prop :=
  lw_At p s m meth c b L xs ∧ hV E s ∧ E.1 = s.heap.size ∧ L ≤ 3072
theorem rm_law {mc ms ml : Nat} (h : ml ≤ 45) : (hRoom 200 mc ms).frames + 1 ≤ room_1.frames ∧ 8 + (ml + 11) + (hRoom 200 mc ms).locals ≤ room_1.locals := by
  refine ⟨by show 200 + 1 + 1 ≤ 2048; omega, ?_⟩
  show 8 + (ml + 11) + 64 * (200 + 1) ≤ 84000
  omega
section LW
variable {E : hE} {p : Program} {l : Launch} {e : Env} {s : State} {m : MethodId} {below : List Frame} {meth : Method} {c : Code} {b L : Nat} {xs : Nat → Int32} {lv : List (Nat × Value)} {pc : Nat} {st : List Value} {G : hG} {n : Nat} {i : Int32}
theorem lg_hts (C : LC E p s m meth c b L xs) : ∀ w ∈ gw, w.before #[Value.ref b] s = true := fun w hw => C.1.2.2.2.2.2.1 w (gw_good w hw).1
theorem lg_bA (C : LC E p s m meth c b L xs) : ¬ hA E b := by
  have h1 := C.1.2.2.2.2.2.2.2.1
  have h2 := C.2.2.1
  intro h
  have h3 : E.1 ≤ b := h
  omega
theorem lg_x (C : LC E p s m meth c b L xs) (hd : decode code pc = .ok (.aload_n 1, 1)) (k : LG E p l e s m below meth c b (lvI E b i) (pc + 1) (.ref (hAd E 0) :: st) G) : LG E p l e s m below meth c b (lvI E b i) pc st G :=
  fun H locs ls hl hw hS => lv_aload_n C.1.1 C.1.2.1 hd rfl (lv_at hl 2 rfl) (k H locs ls hl hw hS)
theorem lg_m (C : LC E p s m meth c b L xs) (hd : decode code pc = .ok (.aload_n 2, 1)) (k : LG E p l e s m below meth c b (lvI E b i) (pc + 1) (.ref (hAd E 367) :: st) G) : LG E p l e s m below meth c b (lvI E b i) pc st G :=
  fun H locs ls hl hw hS => lv_aload_n C.1.1 C.1.2.1 hd rfl (lv_at hl 1 rfl) (k H locs ls hl hw hS)
/-- a number of the script -/
theorem lg_k (C : LC E p s m meth c b L xs) {j : Int} {k : Nat} (hj : Int32.ofInt j = nI k) (hn : n + k < L) (d1 : decode code pc = .ok (.aload_n 0, 1)) (d2 : decode code (pc + 1) = .ok (.iload_n 3, 1)) (d3 : decode code (pc + 2) = .ok (.iconst j, 1)) (d4 : decode code (pc + 3) = .ok (.iadd, 1)) (d5 : decode code (pc + 4) = .ok (.iaload, 1)) (kk : LG E p l e s m below meth c b (lvI E b (nI n)) (pc + 5) (.int (xs (n + k)) :: st) G) : LG E p l e s m below meth c b (lvI E b (nI n)) pc st G := by
  intro H locs ls hl hw hS
  have hL := C.2.2.2
  have hX := C.1.2.2.2.2.2.2.1
  have hbl := C.1.2.2.2.2.2.2.2.1
  refine lv_aload_n C.1.1 C.1.2.1 d1 rfl (lv_at hl 3 rfl) ?_
  refine lv_iload_n C.1.1 C.1.2.1 d2 rfl (lv_at hl 0 rfl) ?_
  refine lv_iconst C.1.1 C.1.2.1 d3 hj ?_
  refine lv_iadd C.1.1 C.1.2.1 d4 ?_
  rw [nI_add]
  refine va_sld C.1.1 C.1.2.1 hX hbl (lg_bA C) hS (vp_in_nI hn (by omega)) d5 ?_
  rw [nI_clamp (by omega)]
  exact kk H locs ls hl hw hS
/-- a call of the law -/
theorem lg_call (C : LC E p s m meth c b L xs) {idx M k ci N a : Nat} {Cn : String} {T : u_T} {ty : Nat → FieldType} {As rest : List Value} {v : Option Value} {G2 : hG} (w1 : Cond.methodLink R_law idx (ynOf M) ∈ gw) (w2 : Cond.instanceMethod (ynOf M) ∈ gw) (w3 : Cond.selects Cn (ynOf M) (ynOf M) ∈ gw) (w4 : Cond.initialized Cn ∈ gw) (w5 : Cond.code (ynOf M) (bcOf M) (mlOf M) (rtOf M) ∈ gw) (cf : hCF ci Cn T N ty)
    (hy0 : ((ynOf M).cls = Cn ∧ (ynOf M).cls ≠ "java/lang/invoke/MethodHandle" ∧ (ynOf M).cls ≠ "java/lang/invoke/VarHandle" ∧ (parseMethodDescriptor (ynOf M).desc).map (fun d => d.parameters.length) = some k) ∧ mlOf M ≤ 45) (hd : decode code pc = .ok (.invokevirtual idx, 3)) (hAs : As.length = k) (hk0 : gk G a = ci) (hcat : (rest.map fun v => v.category).sum ≤ 8) (hM : M < 286) (hlen : (lArg (.ref a :: As)).length ≤ mlOf M)
    (hr : ∃ f, hrun f 200 M 0 (lvOf M (.ref a :: As)) [] G = some (v, G2)) (hz : gn G2 ≤ 600000 ∧ gs G2 ≤ 7302250) (kk : LG E p l e s m below meth c b lv (pc + 3) ((v.map (rv E)).toList ++ rest) G2) :
    LG E p l e s m below meth c b lv pc ((As.map (rv E)).reverse ++ .ref (hAd E a) :: rest) G := by
  obtain ⟨f, hr⟩ := hr
  obtain ⟨hmo, hMet⟩ := met_of (E := E) (l := l) hM hlen hr
  obtain ⟨hy, h45⟩ := hy0
  obtain ⟨c1, c2, c3, c4, c5, c6, c7⟩ := cf
  intro H locs ls hl hw hS
  have hV := C.2.1
  have hts := lg_hts C
  have hlt := hw.lt (a := a) (by omega)
  have hre := va_recv hV.1 hw.1 c2 (show (wL E G)[a]? = some (E.1 + a, .inr (ci, fL E G a (ftL ci))) by rw [wL_get E G hlt.1, wEnt_cls hk0 c1])
  rw [← hAd_lo E hlt.2] at hre
  have hrun := va_runV (C := Cn) (b := hAd E a) (p := p) (l := l) (e := e) (s := s) (m := m) (args := #[Value.ref b]) (below := below) (meth := meth) (c := c) (cells := gn G) (slots := gs G) (H := H) (locs := locs) (g := F0 m pc ls _) (rest := rest) (As := As.map (rv E)) ⟨C.1.1, C.1.2.1, C.1.2.2.2.1, C.1.2.2.2.2.1, hts⟩ hMet (cwV k hts (gw_V w1 w2 w3 w4 w5) rfl rfl rfl hy (rm_law h45)) (⟨hPc.blind, hre, fun U hU hW0 => hPc.at hw hS hV U hU hW0⟩) rfl (by rw [List.length_map]; exact hAs) hl.1 rfl (by show 2 * 0 + _ ≤ 8; omega) hd (R := room_1) ⟨by show _ ≤ 600000; omega, by show _ ≤ 7302250; omega⟩
  refine hx_call (E := E) (G2 := G2) (v := v) hrun hS (fun H1 locs1 hw1 hS1 => ?_)
  have h3 := kk H1 locs1 ls hl hw1 hS1
  rw [show gn G2 = gn G + (gn G2 - gn G) by omega, show gs G2 = gs G + (gs G2 - gs G) by omega] at h3
  exact h3
end LW
