/-! WHAT THE PLAIN MACHINE ANSWERS IS WHAT THE METHODS ANSWER. The words first: addresses, values, worlds, a frame's facts, an instruction's own row. -/
abbrev hE : Type := Nat × (Nat → Nat) × (Nat → Nat) × Option Nat × va_G × (Nat → ClassId)
def hAd (E : hE) (a : Nat) : Nat := if a < 100000 then E.1 + a else if a < 200000 then E.2.1 (a - 100000) else if a < 300000 then E.2.2.1 (a - 200000) else 0
def hA (E : hE) : Nat → Prop := fun q => E.1 ≤ q
def rv (E : hE) : Value → Value
  | .ref a => .ref (hAd E a)
  | .float _ => toV E.2.2.2.1
  | v => v
/-- the fields' types by kinds: 0 an int, 1 a long, 2 a reference -/
def fV (E : hE) (G : hG) (a k t : Nat) : Value := if t = 0 then .int (gI G a k) else if t = 1 then .long (gJ G a k) else rv E (toV (gP G a k))
def fL (E : hE) (G : hG) (a : Nat) (ts : List Nat) : List Value := ts.mapIdx (fun k t => fV E G a k t)
def wEnt (E : hE) (G : hG) (a : Nat) : va_E :=
  if gk G a = 13 then .inl (E.2.2.2.2.2 13, gl G a, .inl (gI G a))
  else if gk G a = 14 then .inl (E.2.2.2.2.2 14, gl G a, .inr (.inl (gJ G a)))
  else if gk G a = 15 then .inl (E.2.2.2.2.2 15, gl G a, .inl (gI G a))
  else if 16 ≤ gk G a ∧ gk G a ≤ 18 then .inl (E.2.2.2.2.2 (gk G a), gl G a, .inr (.inr (.inr (.inr (fun j => (gP G a j).map (hAd E))))))
  else .inr (gk G a, fL E G a (ftL (gk G a)))
def wL (E : hE) (G : hG) : va_W := (List.range (gn G)).map (fun a => (E.1 + a, wEnt E G a))
def tysA (E : hE) : List (ClassId × FieldType) := [(E.2.2.2.2.2 13, .int), (E.2.2.2.2.2 14, .long), (E.2.2.2.2.2 15, .boolean), (E.2.2.2.2.2 16, .object "MercuryPost$Kept"), (E.2.2.2.2.2 17, .object "MercuryPost$Moment"), (E.2.2.2.2.2 18, .object "MercuryPost$Text")]
/-- the world on the heap -/
def hW (E : hE) (G : hG) (H : Heap) : Prop := va_P E.2.2.2.2.1 vwCl (wL E G) H ∧ va_D (hA E) (wL E G) ∧ H.size = E.1 + gn G ∧ (∀ a, gn G ≤ a → gk G a = 99) ∧ gn G ≤ 90000
/-- what a state's tables and the String constants say, at any time -/
def hV (E : hE) (U : State) : Prop := va_K E.2.2.2.2.1 vwCl (tysA E) U ∧ vk_S 25 (strL.map List.length) strL E.2.1 E.2.2.1 (hA E) U U.heap ∧ (∀ (j : Nat) (q : Nat × String), strK[j]? = some q → vk_R "MercuryPost$Tape" q.1 q.2 (E.2.1 j) U)
  ∧ (∀ (j : Nat) (q : String × Nat × String × String × String × String), nwF[j]? = some q → va_Nw (.fieldLinkNest q.1 q.2.1 q.2.2.1 q.2.2.2.1 q.2.2.2.2.1 q.2.2.2.2.2) U) ∧ (∀ (j : Nat) (q : String × Nat × MethodName × String), nwM[j]? = some q → va_Nw (.methodLinkNest q.1 q.2.1 q.2.2.1 q.2.2.2) U)
  ∧ va_Z "java/lang/String" "COMPACT_STRINGS" "Z" (.int 1) (hA E) U U.heap ∧ va_Z "jdk/internal/util/Preconditions" "SIOOBE_FORMATTER" "Ljava/util/function/BiFunction;" (toV E.2.2.2.1) (hA E) U U.heap
  ∧ (va_AO "MercuryPost$Kept" U ∧ va_AO "MercuryPost$Moment" U ∧ va_AO "MercuryPost$Text" U)
def lvR (E : hE) (ls : Array Slot) (n : Nat) (lv : List (Option Value)) : Prop := ls.size = n ∧ lv_wf ls ∧ lv.length = n ∧ ∀ (i : Nat) (v : Value), lv[i]? = some (some v) → ls[i]? = some (.val (rv E v))
def hRoom (d mc ms : Nat) : Room := { frames := d + 1, cells := mc, slots := ms, locals := 64 * (d + 1) }
def hPc (E : hE) (av : List Value) (G : hG) : Array Value → State → Prop := va_Pc (av.map (rv E)) (fun U => hW E G U.heap ∧ hV E U)
def hQ (E : hE) (G : hG) (r : Option Value) : Array Value → State → Outcome → State → Prop := fun _ st oc t => oc = .returned (r.map (rv E)) ∧ hW E G t.heap ∧ va_F (hA E) st t
/-- a method by its number -/
def wsOf (M : Nat) : List Cond := Cond.code (ynOf M) (bcOf M) (mlOf M) (rtOf M) :: gw
def hM (E : hE) (l : Launch) (d M : Nat) (av : List Value) (G : hG) (r : Option Value) (G' : hG) : Prop := Met l (ynOf M) (wsOf M) (hRoom d (gn G' - gn G) (gs G' - gs G)) (hPc E av G) (hQ E G' r) (gn G' - gn G) (gs G' - gs G) (hA E)
/-- a frame's facts -/
def hC (E : hE) (own : String) (cc : ByteArray) (ml : Nat) (rt : Option FieldType) (mn : String) (p : Program) (s : State) (m : MethodId) (args : Array Value) (meth : Method) (c : Code) : Prop :=
  p.tables.exec = Jvm.exec ∧ c.code = cc ∧ c.maxLocals = ml ∧ meth.sig.returnType = rt ∧ s.vm.findClass own = some m.cls ∧ (∀ w ∈ gw, w.before args s = true) ∧ meth.locks = false ∧ meth.name = mn ∧ hV E s ∧ E.1 ≤ s.heap.size
/-- where a frame stands, and that it comes to its end: the answer r, the world G' -/
def hGo (E : hE) (ml d : Nat) (Gs G' : hG) (r : Option Value) (p : Program) (l : Launch) (e : Env) (s : State) (m : MethodId) (args : Array Value) (below : List Frame) (meth : Method) (c : Code) (pc : Nat) (lv : List (Option Value)) (st : List Value) (G : hG) : Prop :=
  (gn G ≤ gn G' ∧ gs G ≤ gs G') ∧ ∀ (H : Heap) (locs : List Loc) (ls : Array Slot), lvR E ls ml lv → hW E G H → va_S (hA E) s.heap H locs → gn Gs ≤ gn G → gs Gs ≤ gs G →
    W p l e (hRoom d (gn G' - gn Gs) (gs G' - gs Gs)) s m args below meth c H locs (gn G - gn Gs) (gs G - gs Gs) (MQ below (hQ E G' r) args s (gn G' - gn Gs) (gs G' - gs Gs) (hA E)) (F0 m pc ls (st.map (rv E)))
/-- what a part of a run makes, it keeps -/
def okm (o : hOp) : Prop := ∀ (nx : hN) (jp : Nat → hN) (cl : Nat → List Value → hG → hR), (∀ lv st G r G', nx lv st G = some (r, G') → gn G ≤ gn G' ∧ gs G ≤ gs G') → (∀ k lv st G r G', jp k lv st G = some (r, G') → gn G ≤ gn G' ∧ gs G ≤ gs G') → (∀ M' av G v G', cl M' av G = some (v, G') → gn G ≤ gn G' ∧ gs G ≤ gs G') → ∀ lv st G r G', o nx jp cl lv st G = some (r, G') → gn G ≤ gn G' ∧ gs G ≤ gs G'
section MO
variable {i t c k n kd M df : Nat} {lo : Int} {ts : List Nat}
theorem mo_oFail : okm (oFail) := by
  intro nx jp cl hn hj hc lv st G r G' h
  cases h
theorem mo_oPushI {v : Int32} : okm (oPushI v) := by
  intro nx jp cl hn hj hc lv st G r G' h
  unfold oPushI at h
  exact hn _ _ _ _ _ h
theorem mo_oPushL {v : Int64} : okm (oPushL v) := by
  intro nx jp cl hn hj hc lv st G r G' h
  unfold oPushL at h
  exact hn _ _ _ _ _ h
theorem mo_oPushR {a : Nat} : okm (oPushR a) := by
  intro nx jp cl hn hj hc lv st G r G' h
  unfold oPushR at h
  exact hn _ _ _ _ _ h
theorem mo_oPushF : okm oPushF := by
  intro nx jp cl hn hj hc lv st G r G' h
  unfold oPushF at h
  exact hn _ _ _ _ _ h
theorem mo_oLdI {i : Nat} : okm (oLdI i) := by
  intro nx jp cl hn hj hc lv st G r G' h
  unfold oLdI at h
  repeat' split at h
  all_goals first
    | (cases h; done)
    | (have z := hn _ _ _ _ _ h; exact z)
    | (have z := hj _ _ _ _ _ _ h; exact z)
    | (cases h; exact ⟨Nat.le_refl _, Nat.le_refl _⟩)
theorem mo_oLdL {i : Nat} : okm (oLdL i) := by
  intro nx jp cl hn hj hc lv st G r G' h
  unfold oLdL at h
  repeat' split at h
  all_goals first
    | (cases h; done)
    | (have z := hn _ _ _ _ _ h; exact z)
    | (have z := hj _ _ _ _ _ _ h; exact z)
    | (cases h; exact ⟨Nat.le_refl _, Nat.le_refl _⟩)
theorem mo_oLdA {i : Nat} : okm (oLdA i) := by
  intro nx jp cl hn hj hc lv st G r G' h
  unfold oLdA at h
  repeat' split at h
  all_goals first
    | (cases h; done)
    | (have z := hn _ _ _ _ _ h; exact z)
    | (have z := hj _ _ _ _ _ _ h; exact z)
    | (cases h; exact ⟨Nat.le_refl _, Nat.le_refl _⟩)
theorem mo_oStI {i : Nat} : okm (oStI i) := by
  intro nx jp cl hn hj hc lv st G r G' h
  unfold oStI at h
  repeat' split at h
  all_goals first
    | (cases h; done)
    | (have z := hn _ _ _ _ _ h; exact z)
    | (have z := hj _ _ _ _ _ _ h; exact z)
    | (cases h; exact ⟨Nat.le_refl _, Nat.le_refl _⟩)
theorem mo_oStL {i : Nat} : okm (oStL i) := by
  intro nx jp cl hn hj hc lv st G r G' h
  unfold oStL at h
  repeat' split at h
  all_goals first
    | (cases h; done)
    | (have z := hn _ _ _ _ _ h; exact z)
    | (have z := hj _ _ _ _ _ _ h; exact z)
    | (cases h; exact ⟨Nat.le_refl _, Nat.le_refl _⟩)
theorem mo_oStA {i : Nat} : okm (oStA i) := by
  intro nx jp cl hn hj hc lv st G r G' h
  unfold oStA at h
  repeat' split at h
  all_goals first
    | (cases h; done)
    | (have z := hn _ _ _ _ _ h; exact z)
    | (have z := hj _ _ _ _ _ _ h; exact z)
    | (cases h; exact ⟨Nat.le_refl _, Nat.le_refl _⟩)
theorem mo_oInc {i : Nat} {n : Int32} : okm (oInc i n) := by
  intro nx jp cl hn hj hc lv st G r G' h
  unfold oInc at h
  repeat' split at h
  all_goals first
    | (cases h; done)
    | (have z := hn _ _ _ _ _ h; exact z)
    | (have z := hj _ _ _ _ _ _ h; exact z)
    | (cases h; exact ⟨Nat.le_refl _, Nat.le_refl _⟩)
theorem mo_oBin {f : Int32 → Int32 → Int32} : okm (oBin f) := by
  intro nx jp cl hn hj hc lv st G r G' h
  unfold oBin at h
  repeat' split at h
  all_goals first
    | (cases h; done)
    | (have z := hn _ _ _ _ _ h; exact z)
    | (have z := hj _ _ _ _ _ _ h; exact z)
    | (cases h; exact ⟨Nat.le_refl _, Nat.le_refl _⟩)
theorem mo_oDvd {f : Int32 → Int32 → Int32} : okm (oDvd f) := by
  intro nx jp cl hn hj hc lv st G r G' h
  unfold oDvd at h
  repeat' split at h
  all_goals first
    | (cases h; done)
    | (have z := hn _ _ _ _ _ h; exact z)
    | (have z := hj _ _ _ _ _ _ h; exact z)
    | (cases h; exact ⟨Nat.le_refl _, Nat.le_refl _⟩)
theorem mo_oLBin {f : Int64 → Int64 → Int64} : okm (oLBin f) := by
  intro nx jp cl hn hj hc lv st G r G' h
  unfold oLBin at h
  repeat' split at h
  all_goals first
    | (cases h; done)
    | (have z := hn _ _ _ _ _ h; exact z)
    | (have z := hj _ _ _ _ _ _ h; exact z)
    | (cases h; exact ⟨Nat.le_refl _, Nat.le_refl _⟩)
theorem mo_oLDvd {f : Int64 → Int64 → Int64} : okm (oLDvd f) := by
  intro nx jp cl hn hj hc lv st G r G' h
  unfold oLDvd at h
  repeat' split at h
  all_goals first
    | (cases h; done)
    | (have z := hn _ _ _ _ _ h; exact z)
    | (have z := hj _ _ _ _ _ _ h; exact z)
    | (cases h; exact ⟨Nat.le_refl _, Nat.le_refl _⟩)
theorem mo_oNeg : okm (oNeg) := by
  intro nx jp cl hn hj hc lv st G r G' h
  unfold oNeg at h
  repeat' split at h
  all_goals first
    | (cases h; done)
    | (have z := hn _ _ _ _ _ h; exact z)
    | (have z := hj _ _ _ _ _ _ h; exact z)
    | (cases h; exact ⟨Nat.le_refl _, Nat.le_refl _⟩)
theorem mo_oI2L : okm (oI2L) := by
  intro nx jp cl hn hj hc lv st G r G' h
  unfold oI2L at h
  repeat' split at h
  all_goals first
    | (cases h; done)
    | (have z := hn _ _ _ _ _ h; exact z)
    | (have z := hj _ _ _ _ _ _ h; exact z)
    | (cases h; exact ⟨Nat.le_refl _, Nat.le_refl _⟩)
theorem mo_oL2I : okm (oL2I) := by
  intro nx jp cl hn hj hc lv st G r G' h
  unfold oL2I at h
  repeat' split at h
  all_goals first
    | (cases h; done)
    | (have z := hn _ _ _ _ _ h; exact z)
    | (have z := hj _ _ _ _ _ _ h; exact z)
    | (cases h; exact ⟨Nat.le_refl _, Nat.le_refl _⟩)
theorem mo_oI2C : okm (oI2C) := by
  intro nx jp cl hn hj hc lv st G r G' h
  unfold oI2C at h
  repeat' split at h
  all_goals first
    | (cases h; done)
    | (have z := hn _ _ _ _ _ h; exact z)
    | (have z := hj _ _ _ _ _ _ h; exact z)
    | (cases h; exact ⟨Nat.le_refl _, Nat.le_refl _⟩)
theorem mo_oLCmp : okm (oLCmp) := by
  intro nx jp cl hn hj hc lv st G r G' h
  unfold oLCmp at h
  repeat' split at h
  all_goals first
    | (cases h; done)
    | (have z := hn _ _ _ _ _ h; exact z)
    | (have z := hj _ _ _ _ _ _ h; exact z)
    | (cases h; exact ⟨Nat.le_refl _, Nat.le_refl _⟩)
theorem mo_oPop : okm (oPop) := by
  intro nx jp cl hn hj hc lv st G r G' h
  unfold oPop at h
  repeat' split at h
  all_goals first
    | (cases h; done)
    | (have z := hn _ _ _ _ _ h; exact z)
    | (have z := hj _ _ _ _ _ _ h; exact z)
    | (cases h; exact ⟨Nat.le_refl _, Nat.le_refl _⟩)
theorem mo_oDup : okm (oDup) := by
  intro nx jp cl hn hj hc lv st G r G' h
  unfold oDup at h
  repeat' split at h
  all_goals first
    | (cases h; done)
    | (have z := hn _ _ _ _ _ h; exact z)
    | (have z := hj _ _ _ _ _ _ h; exact z)
    | (cases h; exact ⟨Nat.le_refl _, Nat.le_refl _⟩)
theorem mo_oDup2 : okm (oDup2) := by
  intro nx jp cl hn hj hc lv st G r G' h
  unfold oDup2 at h
  repeat' split at h
  all_goals first
    | (cases h; done)
    | (have z := hn _ _ _ _ _ h; exact z)
    | (have z := hj _ _ _ _ _ _ h; exact z)
    | (cases h; exact ⟨Nat.le_refl _, Nat.le_refl _⟩)
theorem mo_oGoto {t : Nat} : okm (oGoto t) := by
  intro nx jp cl hn hj hc lv st G r G' h
  unfold oGoto at h
  exact hj _ _ _ _ _ _ h
theorem mo_oIf {c : Int32 → Int32 → Bool} {t : Nat} : okm (oIf c t) := by
  intro nx jp cl hn hj hc lv st G r G' h
  unfold oIf at h
  repeat' split at h
  all_goals first
    | (cases h; done)
    | (have z := hn _ _ _ _ _ h; exact z)
    | (have z := hj _ _ _ _ _ _ h; exact z)
    | (cases h; exact ⟨Nat.le_refl _, Nat.le_refl _⟩)
theorem mo_oIf0 {c : Int32 → Int32 → Bool} {t : Nat} : okm (oIf0 c t) := by
  intro nx jp cl hn hj hc lv st G r G' h
  unfold oIf0 at h
  repeat' split at h
  all_goals first
    | (cases h; done)
    | (have z := hn _ _ _ _ _ h; exact z)
    | (have z := hj _ _ _ _ _ _ h; exact z)
    | (cases h; exact ⟨Nat.le_refl _, Nat.le_refl _⟩)
theorem mo_oSw {lo : Int} {ts : List Nat} {df : Nat} : okm (oSw lo ts df) := by
  intro nx jp cl hn hj hc lv st G r G' h
  unfold oSw at h
  repeat' split at h
  all_goals first
    | (cases h; done)
    | (have z := hn _ _ _ _ _ h; exact z)
    | (have z := hj _ _ _ _ _ _ h; exact z)
    | (cases h; exact ⟨Nat.le_refl _, Nat.le_refl _⟩)
theorem mo_oRetI : okm (oRetI) := by
  intro nx jp cl hn hj hc lv st G r G' h
  unfold oRetI at h
  repeat' split at h
  all_goals first
    | (cases h; done)
    | (have z := hn _ _ _ _ _ h; exact z)
    | (have z := hj _ _ _ _ _ _ h; exact z)
    | (cases h; exact ⟨Nat.le_refl _, Nat.le_refl _⟩)
theorem mo_oRetZ : okm (oRetZ) := by
  intro nx jp cl hn hj hc lv st G r G' h
  unfold oRetZ at h
  repeat' split at h
  all_goals first
    | (cases h; done)
    | (have z := hn _ _ _ _ _ h; exact z)
    | (have z := hj _ _ _ _ _ _ h; exact z)
    | (cases h; exact ⟨Nat.le_refl _, Nat.le_refl _⟩)
theorem mo_oRetB : okm (oRetB) := by
  intro nx jp cl hn hj hc lv st G r G' h
  unfold oRetB at h
  repeat' split at h
  all_goals first
    | (cases h; done)
    | (have z := hn _ _ _ _ _ h; exact z)
    | (have z := hj _ _ _ _ _ _ h; exact z)
    | (cases h; exact ⟨Nat.le_refl _, Nat.le_refl _⟩)
theorem mo_oRetL : okm (oRetL) := by
  intro nx jp cl hn hj hc lv st G r G' h
  unfold oRetL at h
  repeat' split at h
  all_goals first
    | (cases h; done)
    | (have z := hn _ _ _ _ _ h; exact z)
    | (have z := hj _ _ _ _ _ _ h; exact z)
    | (cases h; exact ⟨Nat.le_refl _, Nat.le_refl _⟩)
theorem mo_oRetV : okm (oRetV) := by
  intro nx jp cl hn hj hc lv st G r G' h
  unfold oRetV at h
  repeat' split at h
  all_goals first
    | (cases h; done)
    | (have z := hn _ _ _ _ _ h; exact z)
    | (have z := hj _ _ _ _ _ _ h; exact z)
    | (cases h; exact ⟨Nat.le_refl _, Nat.le_refl _⟩)
theorem mo_oGetI {c k : Nat} : okm (oGetI c k) := by
  intro nx jp cl hn hj hc lv st G r G' h
  unfold oGetI at h
  repeat' split at h
  all_goals first
    | (cases h; done)
    | (have z := hn _ _ _ _ _ h; exact z)
    | (have z := hj _ _ _ _ _ _ h; exact z)
    | (cases h; exact ⟨Nat.le_refl _, Nat.le_refl _⟩)
theorem mo_oGetJ {c k : Nat} : okm (oGetJ c k) := by
  intro nx jp cl hn hj hc lv st G r G' h
  unfold oGetJ at h
  repeat' split at h
  all_goals first
    | (cases h; done)
    | (have z := hn _ _ _ _ _ h; exact z)
    | (have z := hj _ _ _ _ _ _ h; exact z)
    | (cases h; exact ⟨Nat.le_refl _, Nat.le_refl _⟩)
theorem mo_oGetP {c k : Nat} : okm (oGetP c k) := by
  intro nx jp cl hn hj hc lv st G r G' h
  unfold oGetP at h
  repeat' split at h
  all_goals first
    | (cases h; done)
    | (have z := hn _ _ _ _ _ h; exact z)
    | (have z := hj _ _ _ _ _ _ h; exact z)
    | (cases h; exact ⟨Nat.le_refl _, Nat.le_refl _⟩)
theorem mo_oPutI {c k : Nat} : okm (oPutI c k) := by
  intro nx jp cl hn hj hc lv st G r G' h
  unfold oPutI at h
  repeat' split at h
  all_goals first
    | (cases h; done)
    | (have z := hn _ _ _ _ _ h; exact z)
    | (have z := hj _ _ _ _ _ _ h; exact z)
    | (cases h; exact ⟨Nat.le_refl _, Nat.le_refl _⟩)
theorem mo_oPutZ {c k : Nat} : okm (oPutZ c k) := by
  intro nx jp cl hn hj hc lv st G r G' h
  unfold oPutZ at h
  repeat' split at h
  all_goals first
    | (cases h; done)
    | (have z := hn _ _ _ _ _ h; exact z)
    | (have z := hj _ _ _ _ _ _ h; exact z)
    | (cases h; exact ⟨Nat.le_refl _, Nat.le_refl _⟩)
theorem mo_oPutJ {c k : Nat} : okm (oPutJ c k) := by
  intro nx jp cl hn hj hc lv st G r G' h
  unfold oPutJ at h
  repeat' split at h
  all_goals first
    | (cases h; done)
    | (have z := hn _ _ _ _ _ h; exact z)
    | (have z := hj _ _ _ _ _ _ h; exact z)
    | (cases h; exact ⟨Nat.le_refl _, Nat.le_refl _⟩)
theorem mo_oPutP {c k : Nat} : okm (oPutP c k) := by
  intro nx jp cl hn hj hc lv st G r G' h
  unfold oPutP at h
  repeat' split at h
  all_goals first
    | (cases h; done)
    | (have z := hn _ _ _ _ _ h; exact z)
    | (have z := hj _ _ _ _ _ _ h; exact z)
    | (cases h; exact ⟨Nat.le_refl _, Nat.le_refl _⟩)
theorem mo_oALdI {kd : Nat} : okm (oALdI kd) := by
  intro nx jp cl hn hj hc lv st G r G' h
  unfold oALdI at h
  repeat' split at h
  all_goals first
    | (cases h; done)
    | (have z := hn _ _ _ _ _ h; exact z)
    | (have z := hj _ _ _ _ _ _ h; exact z)
    | (cases h; exact ⟨Nat.le_refl _, Nat.le_refl _⟩)
theorem mo_oALdJ : okm (oALdJ) := by
  intro nx jp cl hn hj hc lv st G r G' h
  unfold oALdJ at h
  repeat' split at h
  all_goals first
    | (cases h; done)
    | (have z := hn _ _ _ _ _ h; exact z)
    | (have z := hj _ _ _ _ _ _ h; exact z)
    | (cases h; exact ⟨Nat.le_refl _, Nat.le_refl _⟩)
theorem mo_oALdP {kd : Nat} : okm (oALdP kd) := by
  intro nx jp cl hn hj hc lv st G r G' h
  unfold oALdP at h
  repeat' split at h
  all_goals first
    | (cases h; done)
    | (have z := hn _ _ _ _ _ h; exact z)
    | (have z := hj _ _ _ _ _ _ h; exact z)
    | (cases h; exact ⟨Nat.le_refl _, Nat.le_refl _⟩)
theorem mo_oAStI : okm (oAStI) := by
  intro nx jp cl hn hj hc lv st G r G' h
  unfold oAStI at h
  repeat' split at h
  all_goals first
    | (cases h; done)
    | (have z := hn _ _ _ _ _ h; exact z)
    | (have z := hj _ _ _ _ _ _ h; exact z)
    | (cases h; exact ⟨Nat.le_refl _, Nat.le_refl _⟩)
theorem mo_oAStZ : okm (oAStZ) := by
  intro nx jp cl hn hj hc lv st G r G' h
  unfold oAStZ at h
  repeat' split at h
  all_goals first
    | (cases h; done)
    | (have z := hn _ _ _ _ _ h; exact z)
    | (have z := hj _ _ _ _ _ _ h; exact z)
    | (cases h; exact ⟨Nat.le_refl _, Nat.le_refl _⟩)
theorem mo_oAStJ : okm (oAStJ) := by
  intro nx jp cl hn hj hc lv st G r G' h
  unfold oAStJ at h
  repeat' split at h
  all_goals first
    | (cases h; done)
    | (have z := hn _ _ _ _ _ h; exact z)
    | (have z := hj _ _ _ _ _ _ h; exact z)
    | (cases h; exact ⟨Nat.le_refl _, Nat.le_refl _⟩)
theorem mo_oAStP {kd c : Nat} : okm (oAStP kd c) := by
  intro nx jp cl hn hj hc lv st G r G' h
  unfold oAStP at h
  repeat' split at h
  all_goals first
    | (cases h; done)
    | (have z := hn _ _ _ _ _ h; exact z)
    | (have z := hj _ _ _ _ _ _ h; exact z)
    | (cases h; exact ⟨Nat.le_refl _, Nat.le_refl _⟩)
theorem mo_oALen : okm (oALen) := by
  intro nx jp cl hn hj hc lv st G r G' h
  unfold oALen at h
  repeat' split at h
  all_goals first
    | (cases h; done)
    | (have z := hn _ _ _ _ _ h; exact z)
    | (have z := hj _ _ _ _ _ _ h; exact z)
    | (cases h; exact ⟨Nat.le_refl _, Nat.le_refl _⟩)
theorem mo_oNew {c nf : Nat} : okm (oNew c nf) := by
  intro nx jp cl hn hj hc lv st G r G' h
  unfold oNew at h
  split at h
  · have := hn _ _ _ _ _ h
    exact ⟨Nat.le_trans (Nat.le_succ _) this.1, Nat.le_trans (Nat.le_add_right _ _) this.2⟩
  · cases h
theorem mo_oNewA {kd : Nat} : okm (oNewA kd) := by
  intro nx jp cl hn hj hc lv st G r G' h
  unfold oNewA at h
  split at h
  · split at h
    · have := hn _ _ _ _ _ h
      exact ⟨Nat.le_trans (Nat.le_succ _) this.1, Nat.le_trans (Nat.le_add_right _ _) this.2⟩
    · cases h
  · cases h
theorem mo_oObj : okm (oObj) := by
  intro nx jp cl hn hj hc lv st G r G' h
  unfold oObj at h
  repeat' split at h
  all_goals first
    | (cases h; done)
    | (have z := hn _ _ _ _ _ h; exact z)
    | (have z := hj _ _ _ _ _ _ h; exact z)
    | (cases h; exact ⟨Nat.le_refl _, Nat.le_refl _⟩)
theorem mo_oMax : okm (oMax) := by
  intro nx jp cl hn hj hc lv st G r G' h
  unfold oMax at h
  repeat' split at h
  all_goals first
    | (cases h; done)
    | (have z := hn _ _ _ _ _ h; exact z)
    | (have z := hj _ _ _ _ _ _ h; exact z)
    | (cases h; exact ⟨Nat.le_refl _, Nat.le_refl _⟩)
theorem mo_oMin : okm (oMin) := by
  intro nx jp cl hn hj hc lv st G r G' h
  unfold oMin at h
  repeat' split at h
  all_goals first
    | (cases h; done)
    | (have z := hn _ _ _ _ _ h; exact z)
    | (have z := hj _ _ _ _ _ _ h; exact z)
    | (cases h; exact ⟨Nat.le_refl _, Nat.le_refl _⟩)
theorem mo_oCpy : okm (oCpy) := by
  intro nx jp cl hn hj hc lv st G r G' h
  unfold oCpy at h
  repeat' split at h
  all_goals first
    | (cases h; done)
    | (have z := hn _ _ _ _ _ h; exact z)
    | (have z := hj _ _ _ _ _ _ h; exact z)
    | (cases h; exact ⟨Nat.le_refl _, Nat.le_refl _⟩)
theorem mo_oInvV {M c n : Nat} : okm (oInvV M c n) := by
  intro nx jp cl hn hj hc lv st G r G' h
  unfold oInvV at h
  split at h
  · split at h
    · split at h
      · rename_i v G2 hcl
        have h1 := hc _ _ _ _ _ hcl
        have h2 := hn _ _ _ _ _ h
        exact ⟨Nat.le_trans h1.1 h2.1, Nat.le_trans h1.2 h2.2⟩
      · rename_i G2 hcl
        have h1 := hc _ _ _ _ _ hcl
        have h2 := hn _ _ _ _ _ h
        exact ⟨Nat.le_trans h1.1 h2.1, Nat.le_trans h1.2 h2.2⟩
      · cases h
    · cases h
  · cases h
theorem mo_oInvS {M n : Nat} : okm (oInvS M n) := by
  intro nx jp cl hn hj hc lv st G r G' h
  unfold oInvS at h
  split at h
  · split at h
    · rename_i v G2 hcl
      have h1 := hc _ _ _ _ _ hcl
      have h2 := hn _ _ _ _ _ h
      exact ⟨Nat.le_trans h1.1 h2.1, Nat.le_trans h1.2 h2.2⟩
    · rename_i G2 hcl
      have h1 := hc _ _ _ _ _ hcl
      have h2 := hn _ _ _ _ _ h
      exact ⟨Nat.le_trans h1.1 h2.1, Nat.le_trans h1.2 h2.2⟩
    · cases h
  · cases h
theorem mo_oInvT {M n : Nat} : okm (oInvT M n) := by
  intro nx jp cl hn hj hc lv st G r G' h
  unfold oInvT at h
  split at h
  · split at h
    · split at h
      · rename_i v G2 hcl
        have h1 := hc _ _ _ _ _ hcl
        have h2 := hn _ _ _ _ _ h
        exact ⟨Nat.le_trans h1.1 h2.1, Nat.le_trans h1.2 h2.2⟩
      · rename_i G2 hcl
        have h1 := hc _ _ _ _ _ hcl
        have h2 := hn _ _ _ _ _ h
        exact ⟨Nat.le_trans h1.1 h2.1, Nat.le_trans h1.2 h2.2⟩
      · cases h
    · cases h
  · cases h
theorem mo_oTCoder : okm (oTCoder) := by
  intro nx jp cl hn hj hc lv st G r G' h
  unfold oTCoder at h
  repeat' split at h
  all_goals first
    | (cases h; done)
    | (have z := hn _ _ _ _ _ h; exact z)
    | (have z := hj _ _ _ _ _ _ h; exact z)
    | (cases h; exact ⟨Nat.le_refl _, Nat.le_refl _⟩)
theorem mo_oTVal : okm (oTVal) := by
  intro nx jp cl hn hj hc lv st G r G' h
  unfold oTVal at h
  repeat' split at h
  all_goals first
    | (cases h; done)
    | (have z := hn _ _ _ _ _ h; exact z)
    | (have z := hj _ _ _ _ _ _ h; exact z)
    | (cases h; exact ⟨Nat.le_refl _, Nat.le_refl _⟩)
theorem mo_oTLen : okm (oTLen) := by
  intro nx jp cl hn hj hc lv st G r G' h
  unfold oTLen at h
  repeat' split at h
  all_goals first
    | (cases h; done)
    | (have z := hn _ _ _ _ _ h; exact z)
    | (have z := hj _ _ _ _ _ _ h; exact z)
    | (cases h; exact ⟨Nat.le_refl _, Nat.le_refl _⟩)
theorem mo_oTLd : okm (oTLd) := by
  intro nx jp cl hn hj hc lv st G r G' h
  unfold oTLd at h
  repeat' split at h
  all_goals first
    | (cases h; done)
    | (have z := hn _ _ _ _ _ h; exact z)
    | (have z := hj _ _ _ _ _ _ h; exact z)
    | (cases h; exact ⟨Nat.le_refl _, Nat.le_refl _⟩)
end MO
/-- an instruction's own row -/
def ok1 (own : String) (cc : ByteArray) (ml : Nat) (rt : Option FieldType) (mn : String) (pcs : List Nat) (pc len : Nat) (o : hOp) : Prop :=
  okm o ∧ ∀ (E : hE) (d : Nat) (Gs G' : hG) (r : Option Value) (p : Program) (l : Launch) (e : Env) (s : State) (m : MethodId) (args : Array Value) (below : List Frame) (meth : Method) (c : Code), hC E own cc ml rt mn p s m args meth c →
  ∀ (nx : hN) (jp : Nat → hN) (cl : Nat → List Value → hG → hR) (lv : List (Option Value)) (st : List Value) (G : hG),
    (∀ lv st G, nx lv st G = some (r, G') → hGo E ml d Gs G' r p l e s m args below meth c (pc + len) lv st G) →
    (∀ k lv st G, jp k lv st G = some (r, G') → hGo E ml d Gs G' r p l e s m args below meth c (pcs.getD k 0) lv st G) →
    (∀ M' av G1 v G2, cl M' av G1 = some (v, G2) → ∃ d', d = d' + 1 ∧ (gn G1 ≤ gn G2 ∧ gs G1 ≤ gs G2) ∧ hM E l d' M' av G1 v G2) →
    o nx jp cl lv st G = some (r, G') → hGo E ml d Gs G' r p l e s m args below meth c pc lv st G
section OK
variable {own : String} {cc : ByteArray} {ml : Nat} {rt : Option FieldType} {mn : String} {pcs : List Nat} {pc : Nat}
theorem ok_fail {len : Nat} {α : Type} {x y : α} (_ : x = y) : ok1 own cc ml rt mn pcs pc len oFail := by
  refine ⟨mo_oFail, ?_⟩
  intro E d Gs G' r p l e s m args below meth c C nx jp cl lv st G hn hj hc h
  cases h
theorem ok_iconst {v : Int32} {n : Int} (hv : Int32.ofInt n = v) (hd : decode cc pc = .ok (.iconst n, 1)) : ok1 own cc ml rt mn pcs pc 1 (oPushI v) := by
  refine ⟨mo_oPushI, ?_⟩
  intro E d Gs G' r p l e s m args below meth c C nx jp cl lv st G hn hj hc h
  obtain ⟨hx, hb, -⟩ := C
  obtain ⟨h1, h2⟩ := hn _ _ _ h
  exact ⟨h1, fun H locs ls hl hw hS ha hb2 => lv_iconst hx hb hd hv (h2 H locs ls hl hw hS ha hb2)⟩
theorem ok_bipush {v : Int32} {n : Int} (hv : (Int8.ofInt n).toInt32 = v) (hd : decode cc pc = .ok (.bipush n, 2)) : ok1 own cc ml rt mn pcs pc 2 (oPushI v) := by
  refine ⟨mo_oPushI, ?_⟩
  intro E d Gs G' r p l e s m args below meth c C nx jp cl lv st G hn hj hc h
  obtain ⟨hx, hb, -⟩ := C
  obtain ⟨h1, h2⟩ := hn _ _ _ h
  exact ⟨h1, fun H locs ls hl hw hS ha hb2 => lv_bipush hx hb hd hv (h2 H locs ls hl hw hS ha hb2)⟩
theorem ok_sipush {v : Int32} {n : Int} (hv : (Int16.ofInt n).toInt32 = v) (hd : decode cc pc = .ok (.sipush n, 3)) : ok1 own cc ml rt mn pcs pc 3 (oPushI v) := by
  refine ⟨mo_oPushI, ?_⟩
  intro E d Gs G' r p l e s m args below meth c C nx jp cl lv st G hn hj hc h
  obtain ⟨hx, hb, -⟩ := C
  obtain ⟨h1, h2⟩ := hn _ _ _ h
  exact ⟨h1, fun H locs ls hl hw hS ha hb2 => lv_sipush hx hb hd hv (h2 H locs ls hl hw hS ha hb2)⟩
theorem ok_lconst {v : Int64} {n : Fin 2} (hv : Int64.ofNat (n : Nat) = v) (hd : decode cc pc = .ok (.lconst n, 1)) : ok1 own cc ml rt mn pcs pc 1 (oPushL v) := by
  refine ⟨mo_oPushL, ?_⟩
  intro E d Gs G' r p l e s m args below meth c C nx jp cl lv st G hn hj hc h
  obtain ⟨hx, hb, -⟩ := C
  obtain ⟨h1, h2⟩ := hn _ _ _ h
  exact ⟨h1, fun H locs ls hl hw hS ha hb2 => lv_lconst hx hb hd hv (h2 H locs ls hl hw hS ha hb2)⟩
theorem ok_iadd (hd : decode cc pc = .ok (.iadd, 1)) : ok1 own cc ml rt mn pcs pc 1 (oBin (fun x y => x + y)) := by
  refine ⟨mo_oBin, ?_⟩
  intro E d Gs G' r p l e s m args below meth c C nx jp cl lv st G hn hj hc h
  obtain ⟨hx, hb, -⟩ := C
  unfold oBin at h
  split at h
  · obtain ⟨h1, h2⟩ := hn _ _ _ h
    exact ⟨h1, fun H locs ls hl hw hS ha hb2 => lv_iadd hx hb hd (h2 H locs ls hl hw hS ha hb2)⟩
  · cases h
theorem ok_isub (hd : decode cc pc = .ok (.isub, 1)) : ok1 own cc ml rt mn pcs pc 1 (oBin (fun x y => x - y)) := by
  refine ⟨mo_oBin, ?_⟩
  intro E d Gs G' r p l e s m args below meth c C nx jp cl lv st G hn hj hc h
  obtain ⟨hx, hb, -⟩ := C
  unfold oBin at h
  split at h
  · obtain ⟨h1, h2⟩ := hn _ _ _ h
    exact ⟨h1, fun H locs ls hl hw hS ha hb2 => lv_isub hx hb hd (h2 H locs ls hl hw hS ha hb2)⟩
  · cases h
theorem ok_imul (hd : decode cc pc = .ok (.imul, 1)) : ok1 own cc ml rt mn pcs pc 1 (oBin (fun x y => x * y)) := by
  refine ⟨mo_oBin, ?_⟩
  intro E d Gs G' r p l e s m args below meth c C nx jp cl lv st G hn hj hc h
  obtain ⟨hx, hb, -⟩ := C
  unfold oBin at h
  split at h
  · obtain ⟨h1, h2⟩ := hn _ _ _ h
    exact ⟨h1, fun H locs ls hl hw hS ha hb2 => lv_imul hx hb hd (h2 H locs ls hl hw hS ha hb2)⟩
  · cases h
theorem ok_iand (hd : decode cc pc = .ok (.iand, 1)) : ok1 own cc ml rt mn pcs pc 1 (oBin (fun x y => x &&& y)) := by
  refine ⟨mo_oBin, ?_⟩
  intro E d Gs G' r p l e s m args below meth c C nx jp cl lv st G hn hj hc h
  obtain ⟨hx, hb, -⟩ := C
  unfold oBin at h
  split at h
  · obtain ⟨h1, h2⟩ := hn _ _ _ h
    exact ⟨h1, fun H locs ls hl hw hS ha hb2 => lv_iand hx hb hd (h2 H locs ls hl hw hS ha hb2)⟩
  · cases h
theorem ok_ior (hd : decode cc pc = .ok (.ior, 1)) : ok1 own cc ml rt mn pcs pc 1 (oBin (fun x y => x ||| y)) := by
  refine ⟨mo_oBin, ?_⟩
  intro E d Gs G' r p l e s m args below meth c C nx jp cl lv st G hn hj hc h
  obtain ⟨hx, hb, -⟩ := C
  unfold oBin at h
  split at h
  · obtain ⟨h1, h2⟩ := hn _ _ _ h
    exact ⟨h1, fun H locs ls hl hw hS ha hb2 => lv_ior hx hb hd (h2 H locs ls hl hw hS ha hb2)⟩
  · cases h
theorem ok_ixor (hd : decode cc pc = .ok (.ixor, 1)) : ok1 own cc ml rt mn pcs pc 1 (oBin (fun x y => x ^^^ y)) := by
  refine ⟨mo_oBin, ?_⟩
  intro E d Gs G' r p l e s m args below meth c C nx jp cl lv st G hn hj hc h
  obtain ⟨hx, hb, -⟩ := C
  unfold oBin at h
  split at h
  · obtain ⟨h1, h2⟩ := hn _ _ _ h
    exact ⟨h1, fun H locs ls hl hw hS ha hb2 => lv_ixor hx hb hd (h2 H locs ls hl hw hS ha hb2)⟩
  · cases h
theorem ok_ishl (hd : decode cc pc = .ok (.ishl, 1)) : ok1 own cc ml rt mn pcs pc 1 (oBin (fun x y => x <<< (y &&& 31))) := by
  refine ⟨mo_oBin, ?_⟩
  intro E d Gs G' r p l e s m args below meth c C nx jp cl lv st G hn hj hc h
  obtain ⟨hx, hb, -⟩ := C
  unfold oBin at h
  split at h
  · obtain ⟨h1, h2⟩ := hn _ _ _ h
    exact ⟨h1, fun H locs ls hl hw hS ha hb2 => lv_ishl hx hb hd (h2 H locs ls hl hw hS ha hb2)⟩
  · cases h
theorem ok_ishr (hd : decode cc pc = .ok (.ishr, 1)) : ok1 own cc ml rt mn pcs pc 1 (oBin (fun x y => x >>> (y &&& 31))) := by
  refine ⟨mo_oBin, ?_⟩
  intro E d Gs G' r p l e s m args below meth c C nx jp cl lv st G hn hj hc h
  obtain ⟨hx, hb, -⟩ := C
  unfold oBin at h
  split at h
  · obtain ⟨h1, h2⟩ := hn _ _ _ h
    exact ⟨h1, fun H locs ls hl hw hS ha hb2 => lv_ishr hx hb hd (h2 H locs ls hl hw hS ha hb2)⟩
  · cases h
theorem ok_iushr (hd : decode cc pc = .ok (.iushr, 1)) : ok1 own cc ml rt mn pcs pc 1 (oBin (fun x y => (x.toUInt32 >>> (y.toUInt32 &&& Int32.toUInt32 31)).toInt32)) := by
  refine ⟨mo_oBin, ?_⟩
  intro E d Gs G' r p l e s m args below meth c C nx jp cl lv st G hn hj hc h
  obtain ⟨hx, hb, -⟩ := C
  unfold oBin at h
  split at h
  · obtain ⟨h1, h2⟩ := hn _ _ _ h
    exact ⟨h1, fun H locs ls hl hw hS ha hb2 => lv_iushr hx hb hd rfl (h2 H locs ls hl hw hS ha hb2)⟩
  · cases h
theorem ok_ladd (hd : decode cc pc = .ok (.ladd, 1)) : ok1 own cc ml rt mn pcs pc 1 (oLBin (fun x y => x + y)) := by
  refine ⟨mo_oLBin, ?_⟩
  intro E d Gs G' r p l e s m args below meth c C nx jp cl lv st G hn hj hc h
  obtain ⟨hx, hb, -⟩ := C
  unfold oLBin at h
  split at h
  · obtain ⟨h1, h2⟩ := hn _ _ _ h
    exact ⟨h1, fun H locs ls hl hw hS ha hb2 => lv_ladd hx hb hd (h2 H locs ls hl hw hS ha hb2)⟩
  · cases h
theorem ok_lsub (hd : decode cc pc = .ok (.lsub, 1)) : ok1 own cc ml rt mn pcs pc 1 (oLBin (fun x y => x - y)) := by
  refine ⟨mo_oLBin, ?_⟩
  intro E d Gs G' r p l e s m args below meth c C nx jp cl lv st G hn hj hc h
  obtain ⟨hx, hb, -⟩ := C
  unfold oLBin at h
  split at h
  · obtain ⟨h1, h2⟩ := hn _ _ _ h
    exact ⟨h1, fun H locs ls hl hw hS ha hb2 => lv_lsub hx hb hd (h2 H locs ls hl hw hS ha hb2)⟩
  · cases h
theorem ok_lmul (hd : decode cc pc = .ok (.lmul, 1)) : ok1 own cc ml rt mn pcs pc 1 (oLBin (fun x y => x * y)) := by
  refine ⟨mo_oLBin, ?_⟩
  intro E d Gs G' r p l e s m args below meth c C nx jp cl lv st G hn hj hc h
  obtain ⟨hx, hb, -⟩ := C
  unfold oLBin at h
  split at h
  · obtain ⟨h1, h2⟩ := hn _ _ _ h
    exact ⟨h1, fun H locs ls hl hw hS ha hb2 => lv_lmul hx hb hd (h2 H locs ls hl hw hS ha hb2)⟩
  · cases h
theorem ok_ineg (hd : decode cc pc = .ok (.ineg, 1)) : ok1 own cc ml rt mn pcs pc 1 (oNeg) := by
  refine ⟨mo_oNeg, ?_⟩
  intro E d Gs G' r p l e s m args below meth c C nx jp cl lv st G hn hj hc h
  obtain ⟨hx, hb, -⟩ := C
  unfold oNeg at h
  split at h
  · obtain ⟨h1, h2⟩ := hn _ _ _ h
    exact ⟨h1, fun H locs ls hl hw hS ha hb2 => lv_ineg hx hb hd (h2 H locs ls hl hw hS ha hb2)⟩
  · cases h
theorem ok_i2l (hd : decode cc pc = .ok (.i2l, 1)) : ok1 own cc ml rt mn pcs pc 1 (oI2L) := by
  refine ⟨mo_oI2L, ?_⟩
  intro E d Gs G' r p l e s m args below meth c C nx jp cl lv st G hn hj hc h
  obtain ⟨hx, hb, -⟩ := C
  unfold oI2L at h
  split at h
  · obtain ⟨h1, h2⟩ := hn _ _ _ h
    exact ⟨h1, fun H locs ls hl hw hS ha hb2 => lv_i2l hx hb hd rfl (h2 H locs ls hl hw hS ha hb2)⟩
  · cases h
theorem ok_l2i (hd : decode cc pc = .ok (.l2i, 1)) : ok1 own cc ml rt mn pcs pc 1 (oL2I) := by
  refine ⟨mo_oL2I, ?_⟩
  intro E d Gs G' r p l e s m args below meth c C nx jp cl lv st G hn hj hc h
  obtain ⟨hx, hb, -⟩ := C
  unfold oL2I at h
  split at h
  · obtain ⟨h1, h2⟩ := hn _ _ _ h
    exact ⟨h1, fun H locs ls hl hw hS ha hb2 => lv_l2i hx hb hd rfl (h2 H locs ls hl hw hS ha hb2)⟩
  · cases h
theorem ok_lcmp (hd : decode cc pc = .ok (.lcmp, 1)) : ok1 own cc ml rt mn pcs pc 1 (oLCmp) := by
  refine ⟨mo_oLCmp, ?_⟩
  intro E d Gs G' r p l e s m args below meth c C nx jp cl lv st G hn hj hc h
  obtain ⟨hx, hb, -⟩ := C
  unfold oLCmp at h
  split at h
  · obtain ⟨h1, h2⟩ := hn _ _ _ h
    exact ⟨h1, fun H locs ls hl hw hS ha hb2 => W.lcmp hx hb hd (h2 H locs ls hl hw hS ha hb2)⟩
  · cases h
theorem ok_pop (hd : decode cc pc = .ok (.pop, 1)) : ok1 own cc ml rt mn pcs pc 1 (oPop) := by
  refine ⟨mo_oPop, ?_⟩
  intro E d Gs G' r p l e s m args below meth c C nx jp cl lv st G hn hj hc h
  obtain ⟨hx, hb, -⟩ := C
  unfold oPop at h
  split at h
  · obtain ⟨h1, h2⟩ := hn _ _ _ h
    exact ⟨h1, fun H locs ls hl hw hS ha hb2 => lv_pop hx hb hd rfl (h2 H locs ls hl hw hS ha hb2)⟩
  · cases h
theorem ok_dup (hd : decode cc pc = .ok (.dup, 1)) : ok1 own cc ml rt mn pcs pc 1 (oDup) := by
  refine ⟨mo_oDup, ?_⟩
  intro E d Gs G' r p l e s m args below meth c C nx jp cl lv st G hn hj hc h
  obtain ⟨hx, hb, -⟩ := C
  unfold oDup at h
  split at h
  · obtain ⟨h1, h2⟩ := hn _ _ _ h
    exact ⟨h1, fun H locs ls hl hw hS ha hb2 => lv_dup hx hb hd rfl (h2 H locs ls hl hw hS ha hb2)⟩
  · obtain ⟨h1, h2⟩ := hn _ _ _ h
    exact ⟨h1, fun H locs ls hl hw hS ha hb2 => lv_dup hx hb hd rfl (h2 H locs ls hl hw hS ha hb2)⟩
  · cases h
theorem ok_dup2 (hd : decode cc pc = .ok (.dup2, 1)) : ok1 own cc ml rt mn pcs pc 1 (oDup2) := by
  refine ⟨mo_oDup2, ?_⟩
  intro E d Gs G' r p l e s m args below meth c C nx jp cl lv st G hn hj hc h
  obtain ⟨hx, hb, -⟩ := C
  unfold oDup2 at h
  split at h
  · obtain ⟨h1, h2⟩ := hn _ _ _ h
    exact ⟨h1, fun H locs ls hl hw hS ha hb2 => lv_dup2_11 hx hb hd rfl rfl (h2 H locs ls hl hw hS ha hb2)⟩
  · cases h
theorem ok_idiv (hd : decode cc pc = .ok (.idiv, 1)) : ok1 own cc ml rt mn pcs pc 1 (oDvd (fun x y => x / y)) := by
  refine ⟨mo_oDvd, ?_⟩
  intro E d Gs G' r p l e s m args below meth c C nx jp cl lv st G hn hj hc h
  obtain ⟨hx, hb, -⟩ := C
  unfold oDvd at h
  split at h
  · split at h
    · cases h
    · rename_i hne
      obtain ⟨h1, h2⟩ := hn _ _ _ h
      exact ⟨h1, fun H locs ls hl hw hS ha hb2 => lv_idiv hx hb hd hne (h2 H locs ls hl hw hS ha hb2)⟩
  · cases h
theorem ok_irem (hd : decode cc pc = .ok (.irem, 1)) : ok1 own cc ml rt mn pcs pc 1 (oDvd (fun x y => x - x / y * y)) := by
  refine ⟨mo_oDvd, ?_⟩
  intro E d Gs G' r p l e s m args below meth c C nx jp cl lv st G hn hj hc h
  obtain ⟨hx, hb, -⟩ := C
  unfold oDvd at h
  split at h
  · split at h
    · cases h
    · rename_i hne
      obtain ⟨h1, h2⟩ := hn _ _ _ h
      exact ⟨h1, fun H locs ls hl hw hS ha hb2 => lv_irem hx hb hd hne (h2 H locs ls hl hw hS ha hb2)⟩
  · cases h
theorem ok_ldiv (hd : decode cc pc = .ok (.ldiv, 1)) : ok1 own cc ml rt mn pcs pc 1 (oLDvd (fun x y => x / y)) := by
  refine ⟨mo_oLDvd, ?_⟩
  intro E d Gs G' r p l e s m args below meth c C nx jp cl lv st G hn hj hc h
  obtain ⟨hx, hb, -⟩ := C
  unfold oLDvd at h
  split at h
  · split at h
    · cases h
    · rename_i hne
      obtain ⟨h1, h2⟩ := hn _ _ _ h
      exact ⟨h1, fun H locs ls hl hw hS ha hb2 => lv_ldiv hx hb hd hne (h2 H locs ls hl hw hS ha hb2)⟩
  · cases h
theorem ok_lrem (hd : decode cc pc = .ok (.lrem, 1)) : ok1 own cc ml rt mn pcs pc 1 (oLDvd (fun x y => x - x / y * y)) := by
  refine ⟨mo_oLDvd, ?_⟩
  intro E d Gs G' r p l e s m args below meth c C nx jp cl lv st G hn hj hc h
  obtain ⟨hx, hb, -⟩ := C
  unfold oLDvd at h
  split at h
  · split at h
    · cases h
    · rename_i hne
      obtain ⟨h1, h2⟩ := hn _ _ _ h
      exact ⟨h1, fun H locs ls hl hw hS ha hb2 => lv_lrem hx hb hd hne (h2 H locs ls hl hw hS ha hb2)⟩
  · cases h
theorem ok_iload {i : Nat} (hd : decode cc pc = .ok (.iload i, 2)) : ok1 own cc ml rt mn pcs pc 2 (oLdI i) := by
  refine ⟨mo_oLdI, ?_⟩
  intro E d Gs G' r p l e s m args below meth c C nx jp cl lv st G hn hj hc h
  obtain ⟨hx, hb, -⟩ := C
  unfold oLdI at h
  split at h
  · rename_i x he
    obtain ⟨h1, h2⟩ := hn _ _ _ h
    exact ⟨h1, fun H locs ls hl hw hS ha hb2 => lv_iload hx hb hd (hl.2.2.2 _ _ he) (h2 H locs ls hl hw hS ha hb2)⟩
  · cases h
theorem ok_iload_n {k : Fin 4} {i : Nat} (hi : (k : Nat) = i) (hd : decode cc pc = .ok (.iload_n k, 1)) : ok1 own cc ml rt mn pcs pc 1 (oLdI i) := by
  refine ⟨mo_oLdI, ?_⟩
  intro E d Gs G' r p l e s m args below meth c C nx jp cl lv st G hn hj hc h
  obtain ⟨hx, hb, -⟩ := C
  unfold oLdI at h
  split at h
  · rename_i x he
    obtain ⟨h1, h2⟩ := hn _ _ _ h
    exact ⟨h1, fun H locs ls hl hw hS ha hb2 => lv_iload_n hx hb hd hi (hl.2.2.2 _ _ he) (h2 H locs ls hl hw hS ha hb2)⟩
  · cases h
theorem ok_lload {i : Nat} (hd : decode cc pc = .ok (.lload i, 2)) : ok1 own cc ml rt mn pcs pc 2 (oLdL i) := by
  refine ⟨mo_oLdL, ?_⟩
  intro E d Gs G' r p l e s m args below meth c C nx jp cl lv st G hn hj hc h
  obtain ⟨hx, hb, -⟩ := C
  unfold oLdL at h
  split at h
  · rename_i x he
    obtain ⟨h1, h2⟩ := hn _ _ _ h
    exact ⟨h1, fun H locs ls hl hw hS ha hb2 => lv_lload hx hb hd (hl.2.2.2 _ _ he) (h2 H locs ls hl hw hS ha hb2)⟩
  · cases h
theorem ok_lload_n {k : Fin 4} {i : Nat} (hi : (k : Nat) = i) (hd : decode cc pc = .ok (.lload_n k, 1)) : ok1 own cc ml rt mn pcs pc 1 (oLdL i) := by
  refine ⟨mo_oLdL, ?_⟩
  intro E d Gs G' r p l e s m args below meth c C nx jp cl lv st G hn hj hc h
  obtain ⟨hx, hb, -⟩ := C
  unfold oLdL at h
  split at h
  · rename_i x he
    obtain ⟨h1, h2⟩ := hn _ _ _ h
    exact ⟨h1, fun H locs ls hl hw hS ha hb2 => lv_lload_n hx hb hd hi (hl.2.2.2 _ _ he) (h2 H locs ls hl hw hS ha hb2)⟩
  · cases h
theorem ok_aload {i : Nat} (hd : decode cc pc = .ok (.aload i, 2)) : ok1 own cc ml rt mn pcs pc 2 (oLdA i) := by
  refine ⟨mo_oLdA, ?_⟩
  intro E d Gs G' r p l e s m args below meth c C nx jp cl lv st G hn hj hc h
  obtain ⟨hx, hb, -⟩ := C
  unfold oLdA at h
  split at h
  · rename_i x he
    obtain ⟨h1, h2⟩ := hn _ _ _ h
    exact ⟨h1, fun H locs ls hl hw hS ha hb2 => lv_aload hx hb hd (hl.2.2.2 _ _ he) (h2 H locs ls hl hw hS ha hb2)⟩
  · cases h
theorem ok_aload_n {k : Fin 4} {i : Nat} (hi : (k : Nat) = i) (hd : decode cc pc = .ok (.aload_n k, 1)) : ok1 own cc ml rt mn pcs pc 1 (oLdA i) := by
  refine ⟨mo_oLdA, ?_⟩
  intro E d Gs G' r p l e s m args below meth c C nx jp cl lv st G hn hj hc h
  obtain ⟨hx, hb, -⟩ := C
  unfold oLdA at h
  split at h
  · rename_i x he
    obtain ⟨h1, h2⟩ := hn _ _ _ h
    exact ⟨h1, fun H locs ls hl hw hS ha hb2 => lv_aload_n hx hb hd hi (hl.2.2.2 _ _ he) (h2 H locs ls hl hw hS ha hb2)⟩
  · cases h
/-- the listed locals -/
def lvP (E : hE) (lv : List (Option Value)) : List (Nat × Value) := lv.zipIdx.filterMap (fun q => q.1.map (fun v => (q.2, rv E v)))
theorem lvP_mem {E : hE} {lv : List (Option Value)} {i : Nat} {w : Value} : (i, w) ∈ lvP E lv ↔ ∃ v, lv[i]? = some (some v) ∧ w = rv E v := by
  unfold lvP
  rw [List.mem_filterMap]
  constructor
  · rintro ⟨⟨o, j⟩, hm, he⟩
    rw [List.mem_zipIdx_iff_getElem?] at hm
    cases o with
    | none => cases he
    | some v =>
      simp only [Option.map_some, Option.some.injEq, Prod.mk.injEq] at he
      obtain ⟨rfl, rfl⟩ := he
      exact ⟨v, hm, rfl⟩
  · rintro ⟨v, h1, rfl⟩
    exact ⟨(some v, i), by rw [List.mem_zipIdx_iff_getElem?]; exact h1, rfl⟩
theorem lvR.has {E : hE} {ls : Array Slot} {n : Nat} {lv : List (Option Value)} (h : lvR E ls n lv) : lv_has ls n (lvP E lv) := by
  refine ⟨h.1, h.2.1, fun q hq => ?_⟩
  obtain ⟨i, w⟩ := q
  obtain ⟨v, h1, rfl⟩ := lvP_mem.mp hq
  exact h.2.2.2 i v h1
theorem rv_cat (E : hE) (v : Value) : (rv E v).category = v.category := by
  cases v <;> first | rfl | skip
  show (toV E.2.2.2.1).category = 1
  cases E.2.2.2.1 <;> rfl
theorem lKill_len (lv : List (Option Value)) (i : Nat) : (lKill lv i).length = lv.length := by
  unfold lKill
  split
  · rfl
  · split <;> simp
theorem lKill_get {lv : List (Option Value)} {i j : Nat} {v : Value} (h : (lKill lv i)[j]? = some (some v)) : lv[j]? = some (some v) ∧ ¬ (j + 1 = i ∧ isL (some (some v)) = true) := by
  unfold lKill at h
  split at h
  · exact ⟨h, by omega⟩
  · rename_i k
    split at h
    · rename_i hk
      by_cases e : j = k
      · subst e
        rw [List.getElem?_set] at h
        split at h
        · split at h
          · cases h
          · cases h
        · exact absurd rfl ‹_›
      · rw [List.getElem?_set_ne (Ne.symm e)] at h
        exact ⟨h, by omega⟩
    · rename_i hk
      refine ⟨h, fun z => hk ?_⟩
      have : j = k := by omega
      subst this
      rw [h]
      exact z.2
theorem lvR.st1 {E : hE} {ls : Array Slot} {n : Nat} {lv : List (Option Value)} {i : Nat} {v : Value} (h : lvR E ls n lv) (hi : i < lv.length) (ls' : Array Slot) (h2 : lv_has ls' n ((i, rv E v) :: (lvP E lv).filter (fun q => !(q.1 == i) && !(q.1 + 1 == i && q.2.category == 2)))) : lvR E ls' n (lSt1 lv i v) := by
  refine ⟨h2.1, h2.2.1, ?_, fun j w hj => ?_⟩
  · unfold lSt1
    rw [List.length_set, lKill_len]
    exact h.2.2.1
  · unfold lSt1 at hj
    by_cases e : j = i
    · subst e
      rw [List.getElem?_set_self (by rw [lKill_len]; exact hi)] at hj
      cases hj
      exact h2.2.2 (j, rv E v) List.mem_cons_self
    · rw [List.getElem?_set_ne (Ne.symm e)] at hj
      obtain ⟨g1, g2⟩ := lKill_get hj
      refine h2.2.2 (j, rv E w) (List.mem_cons_of_mem _ (List.mem_filter.mpr ⟨lvP_mem.mpr ⟨w, g1, rfl⟩, ?_⟩))
      simp only [rv_cat]
      have : ¬ (j + 1 = i ∧ w.category = 2) := fun z => g2 ⟨z.1, by cases w <;> first | rfl | (simp [Value.category] at z; done) | skip⟩
      simp only [Bool.and_eq_true, Bool.not_eq_true', beq_eq_false_iff_ne, ne_eq, e, not_false_eq_true, true_and, Bool.and_eq_false_iff]
      by_cases z : j + 1 = i
      · right; intro y; exact this ⟨z, y⟩
      · left; exact z
theorem lvR.st2 {E : hE} {ls : Array Slot} {n : Nat} {lv : List (Option Value)} {i : Nat} {v : Value} (h : lvR E ls n lv) (hi : i + 1 < lv.length) (ls' : Array Slot) (h2 : lv_has ls' n ((i, rv E v) :: (lvP E lv).filter (fun q => !(q.1 == i) && (!(q.1 == i + 1) && !(q.1 + 1 == i && q.2.category == 2))))) : lvR E ls' n (lSt2 lv i v) := by
  refine ⟨h2.1, h2.2.1, ?_, fun j w hj => ?_⟩
  · unfold lSt2
    rw [List.length_set, List.length_set, lKill_len]
    exact h.2.2.1
  · unfold lSt2 at hj
    by_cases e1 : j = i + 1
    · subst e1
      rw [List.getElem?_set_self (by rw [List.length_set, lKill_len]; exact hi)] at hj
      cases hj
    · rw [List.getElem?_set_ne (Ne.symm e1)] at hj
      by_cases e : j = i
      · subst e
        rw [List.getElem?_set_self (by rw [lKill_len]; omega)] at hj
        cases hj
        exact h2.2.2 (j, rv E v) List.mem_cons_self
      · rw [List.getElem?_set_ne (Ne.symm e)] at hj
        obtain ⟨g1, g2⟩ := lKill_get hj
        refine h2.2.2 (j, rv E w) (List.mem_cons_of_mem _ (List.mem_filter.mpr ⟨lvP_mem.mpr ⟨w, g1, rfl⟩, ?_⟩))
        simp only [rv_cat]
        have : ¬ (j + 1 = i ∧ w.category = 2) := fun z => g2 ⟨z.1, by cases w <;> first | rfl | (simp [Value.category] at z; done) | skip⟩
        simp only [Bool.and_eq_true, Bool.not_eq_true', beq_eq_false_iff_ne, ne_eq, e, e1, not_false_eq_true, true_and, Bool.and_eq_false_iff]
        by_cases z : j + 1 = i
        · right; intro y; exact this ⟨z, y⟩
        · left; exact z
theorem ok_istore {i : Nat} (hd : decode cc pc = .ok (.istore i, 2)) : ok1 own cc ml rt mn pcs pc 2 (oStI i) := by
  refine ⟨mo_oStI, ?_⟩
  intro E d Gs G' r p l e s m args below meth c C nx jp cl lv st G hn hj hc h
  obtain ⟨hx, hb, -⟩ := C
  unfold oStI at h
  split at h
  · split at h
    · rename_i x rs hi
      obtain ⟨h1, h2⟩ := hn _ _ _ h
      exact ⟨h1, fun H locs ls hl hw hS ha hb2 => lv_istore hx hb hd hl.has (by rw [← hl.2.2.1]; exact hi) rfl (fun ls' hl' => h2 H locs ls' (hl.st1 (v := .int x) hi ls' hl') hw hS ha hb2)⟩
    · cases h
  · cases h
theorem ok_istore_n {k : Fin 4} {i : Nat} (hk : (k : Nat) = i) (hd : decode cc pc = .ok (.istore_n k, 1)) : ok1 own cc ml rt mn pcs pc 1 (oStI i) := by
  refine ⟨mo_oStI, ?_⟩
  intro E d Gs G' r p l e s m args below meth c C nx jp cl lv st G hn hj hc h
  obtain ⟨hx, hb, -⟩ := C
  unfold oStI at h
  split at h
  · split at h
    · rename_i x rs hi
      obtain ⟨h1, h2⟩ := hn _ _ _ h
      exact ⟨h1, fun H locs ls hl hw hS ha hb2 => lv_istore_n hx hb hd hk hl.has (by rw [← hl.2.2.1]; exact hi) rfl (fun ls' hl' => h2 H locs ls' (hl.st1 (v := .int x) hi ls' hl') hw hS ha hb2)⟩
    · cases h
  · cases h
theorem ok_lstore {i : Nat} (hd : decode cc pc = .ok (.lstore i, 2)) : ok1 own cc ml rt mn pcs pc 2 (oStL i) := by
  refine ⟨mo_oStL, ?_⟩
  intro E d Gs G' r p l e s m args below meth c C nx jp cl lv st G hn hj hc h
  obtain ⟨hx, hb, -⟩ := C
  unfold oStL at h
  split at h
  · split at h
    · rename_i x rs hi
      obtain ⟨h1, h2⟩ := hn _ _ _ h
      exact ⟨h1, fun H locs ls hl hw hS ha hb2 => lv_lstore hx hb hd hl.has (by rw [← hl.2.2.1]; exact hi) rfl (fun ls' hl' => h2 H locs ls' (hl.st2 (v := .long x) hi ls' hl') hw hS ha hb2)⟩
    · cases h
  · cases h
theorem ok_lstore_n {k : Fin 4} {i : Nat} (hk : (k : Nat) = i) (hd : decode cc pc = .ok (.lstore_n k, 1)) : ok1 own cc ml rt mn pcs pc 1 (oStL i) := by
  refine ⟨mo_oStL, ?_⟩
  intro E d Gs G' r p l e s m args below meth c C nx jp cl lv st G hn hj hc h
  obtain ⟨hx, hb, -⟩ := C
  unfold oStL at h
  split at h
  · split at h
    · rename_i x rs hi
      obtain ⟨h1, h2⟩ := hn _ _ _ h
      exact ⟨h1, fun H locs ls hl hw hS ha hb2 => lv_lstore_n hx hb hd hk hl.has (by rw [← hl.2.2.1]; exact hi) rfl (fun ls' hl' => h2 H locs ls' (hl.st2 (v := .long x) hi ls' hl') hw hS ha hb2)⟩
    · cases h
  · cases h
theorem ok_astore {i : Nat} (hd : decode cc pc = .ok (.astore i, 2)) : ok1 own cc ml rt mn pcs pc 2 (oStA i) := by
  refine ⟨mo_oStA, ?_⟩
  intro E d Gs G' r p l e s m args below meth c C nx jp cl lv st G hn hj hc h
  obtain ⟨hx, hb, -⟩ := C
  unfold oStA at h
  split at h
  · split at h
    · rename_i x rs hi
      obtain ⟨h1, h2⟩ := hn _ _ _ h
      exact ⟨h1, fun H locs ls hl hw hS ha hb2 => lv_astore hx hb hd hl.has (by rw [← hl.2.2.1]; exact hi) rfl (fun ls' hl' => h2 H locs ls' (hl.st1 (v := .ref x) hi ls' hl') hw hS ha hb2)⟩
    · cases h
  · cases h
theorem ok_astore_n {k : Fin 4} {i : Nat} (hk : (k : Nat) = i) (hd : decode cc pc = .ok (.astore_n k, 1)) : ok1 own cc ml rt mn pcs pc 1 (oStA i) := by
  refine ⟨mo_oStA, ?_⟩
  intro E d Gs G' r p l e s m args below meth c C nx jp cl lv st G hn hj hc h
  obtain ⟨hx, hb, -⟩ := C
  unfold oStA at h
  split at h
  · split at h
    · rename_i x rs hi
      obtain ⟨h1, h2⟩ := hn _ _ _ h
      exact ⟨h1, fun H locs ls hl hw hS ha hb2 => lv_astore_n hx hb hd hk hl.has (by rw [← hl.2.2.1]; exact hi) rfl (fun ls' hl' => h2 H locs ls' (hl.st1 (v := .ref x) hi ls' hl') hw hS ha hb2)⟩
    · cases h
  · cases h
theorem ok_iinc {i : Nat} {n : Int} {v : Int32} (hv : Int32.ofInt n = v) (hd : decode cc pc = .ok (.iinc i n, 3)) : ok1 own cc ml rt mn pcs pc 3 (oInc i v) := by
  refine ⟨mo_oInc, ?_⟩
  intro E d Gs G' r p l e s m args below meth c C nx jp cl lv st G hn hj hc h
  obtain ⟨hx, hb, -⟩ := C
  unfold oInc at h
  split at h
  · rename_i x he
    obtain ⟨h1, h2⟩ := hn _ _ _ h
    have hi : i < lv.length := (List.getElem?_eq_some_iff.mp he).1
    refine ⟨h1, fun H locs ls hl hw hS ha hb2 => ?_⟩
    obtain ⟨k, hk⟩ := List.getElem?_of_mem (lvP_mem (E := E).mpr ⟨_, he, rfl⟩)
    exact lv_iinc hx hb hd hl.has hk (by rw [hv]) (by rw [← hl.2.2.1]; exact hi) rfl (fun ls' hl' => h2 H locs ls' (hl.st1 (v := .int (x + v)) hi ls' hl') hw hS ha hb2)
  · cases h
theorem pc_of {pcs : List Nat} {t : Nat} {tgt : Nat} (h : pcs.getD t 0 = tgt) : tgt = pcs.getD t 0 := h.symm
theorem ok_goto {off : Int} {t : Nat} (ht : (pc : Int) + off = ((pcs.getD t 0 : Nat) : Int)) (hd : decode cc pc = .ok (.goto off, 3)) : ok1 own cc ml rt mn pcs pc 3 (oGoto t) := by
  refine ⟨mo_oGoto, ?_⟩
  intro E d Gs G' r p l e s m args below meth c C nx jp cl lv st G hn hj hc h
  obtain ⟨hx, hb, -⟩ := C
  obtain ⟨h1, h2⟩ := hj _ _ _ _ h
  exact ⟨h1, fun H locs ls hl hw hS ha hb2 => lv_goto hx hb hd ht (h2 H locs ls hl hw hS ha hb2)⟩
theorem ok_icmp_eq {off : Int} {t : Nat} (ht : (pc : Int) + off = ((pcs.getD t 0 : Nat) : Int)) (hd : decode cc pc = .ok (.if_icmp .eq off, 3)) : ok1 own cc ml rt mn pcs pc 3 (oIf cEq t) := by
  refine ⟨mo_oIf, ?_⟩
  intro E d Gs G' r p l e s m args below meth c C nx jp cl lv st G hn hj hc h
  obtain ⟨hx, hb, -⟩ := C
  unfold oIf at h
  split at h
  · rename_i y x rs
    by_cases z : cEq x y = true
    · rw [if_pos z] at h
      obtain ⟨h1, h2⟩ := hj _ _ _ _ h
      exact ⟨h1, fun H locs ls hl hw hS ha hb2 => lv_icmp_eq hx hb hd ht (fun _ => h2 H locs ls hl hw hS ha hb2) (fun q => by simp only [cEq, decide_eq_true_eq] at z; first | exact absurd z q | exact absurd q z)⟩
    · rw [if_neg z] at h
      obtain ⟨h1, h2⟩ := hn _ _ _ h
      exact ⟨h1, fun H locs ls hl hw hS ha hb2 => lv_icmp_eq hx hb hd ht (fun q => by refine absurd ?_ z; simp only [cEq, decide_eq_true_eq]; exact q) (fun _ => h2 H locs ls hl hw hS ha hb2)⟩
  · cases h
theorem ok_if_eq {off : Int} {t : Nat} (ht : (pc : Int) + off = ((pcs.getD t 0 : Nat) : Int)) (hd : decode cc pc = .ok (.ifCond .eq off, 3)) : ok1 own cc ml rt mn pcs pc 3 (oIf0 cEq t) := by
  refine ⟨mo_oIf0, ?_⟩
  intro E d Gs G' r p l e s m args below meth c C nx jp cl lv st G hn hj hc h
  obtain ⟨hx, hb, -⟩ := C
  unfold oIf0 at h
  split at h
  · rename_i x rs
    by_cases z : cEq x 0 = true
    · rw [if_pos z] at h
      obtain ⟨h1, h2⟩ := hj _ _ _ _ h
      exact ⟨h1, fun H locs ls hl hw hS ha hb2 => lv_if_eq hx hb hd ht (fun _ => h2 H locs ls hl hw hS ha hb2) (fun q => by simp only [cEq, decide_eq_true_eq] at z; first | exact absurd z q | exact absurd q z)⟩
    · rw [if_neg z] at h
      obtain ⟨h1, h2⟩ := hn _ _ _ h
      exact ⟨h1, fun H locs ls hl hw hS ha hb2 => lv_if_eq hx hb hd ht (fun q => by refine absurd ?_ z; simp only [cEq, decide_eq_true_eq]; exact q) (fun _ => h2 H locs ls hl hw hS ha hb2)⟩
  · cases h
theorem ok_icmp_ne {off : Int} {t : Nat} (ht : (pc : Int) + off = ((pcs.getD t 0 : Nat) : Int)) (hd : decode cc pc = .ok (.if_icmp .ne off, 3)) : ok1 own cc ml rt mn pcs pc 3 (oIf cNe t) := by
  refine ⟨mo_oIf, ?_⟩
  intro E d Gs G' r p l e s m args below meth c C nx jp cl lv st G hn hj hc h
  obtain ⟨hx, hb, -⟩ := C
  unfold oIf at h
  split at h
  · rename_i y x rs
    by_cases z : cNe x y = true
    · rw [if_pos z] at h
      obtain ⟨h1, h2⟩ := hj _ _ _ _ h
      exact ⟨h1, fun H locs ls hl hw hS ha hb2 => lv_icmp_ne hx hb hd ht (fun _ => h2 H locs ls hl hw hS ha hb2) (fun q => by simp only [cNe, decide_eq_true_eq] at z; first | exact absurd z q | exact absurd q z)⟩
    · rw [if_neg z] at h
      obtain ⟨h1, h2⟩ := hn _ _ _ h
      exact ⟨h1, fun H locs ls hl hw hS ha hb2 => lv_icmp_ne hx hb hd ht (fun q => by refine absurd ?_ z; simp only [cNe, decide_eq_true_eq]; exact q) (fun _ => h2 H locs ls hl hw hS ha hb2)⟩
  · cases h
theorem ok_if_ne {off : Int} {t : Nat} (ht : (pc : Int) + off = ((pcs.getD t 0 : Nat) : Int)) (hd : decode cc pc = .ok (.ifCond .ne off, 3)) : ok1 own cc ml rt mn pcs pc 3 (oIf0 cNe t) := by
  refine ⟨mo_oIf0, ?_⟩
  intro E d Gs G' r p l e s m args below meth c C nx jp cl lv st G hn hj hc h
  obtain ⟨hx, hb, -⟩ := C
  unfold oIf0 at h
  split at h
  · rename_i x rs
    by_cases z : cNe x 0 = true
    · rw [if_pos z] at h
      obtain ⟨h1, h2⟩ := hj _ _ _ _ h
      exact ⟨h1, fun H locs ls hl hw hS ha hb2 => lv_if_ne hx hb hd ht (fun _ => h2 H locs ls hl hw hS ha hb2) (fun q => by simp only [cNe, decide_eq_true_eq] at z; first | exact absurd z q | exact absurd q z)⟩
    · rw [if_neg z] at h
      obtain ⟨h1, h2⟩ := hn _ _ _ h
      exact ⟨h1, fun H locs ls hl hw hS ha hb2 => lv_if_ne hx hb hd ht (fun q => by refine absurd ?_ z; simp only [cNe, decide_eq_true_eq]; exact q) (fun _ => h2 H locs ls hl hw hS ha hb2)⟩
  · cases h
theorem ok_icmp_lt {off : Int} {t : Nat} (ht : (pc : Int) + off = ((pcs.getD t 0 : Nat) : Int)) (hd : decode cc pc = .ok (.if_icmp .lt off, 3)) : ok1 own cc ml rt mn pcs pc 3 (oIf cLt t) := by
  refine ⟨mo_oIf, ?_⟩
  intro E d Gs G' r p l e s m args below meth c C nx jp cl lv st G hn hj hc h
  obtain ⟨hx, hb, -⟩ := C
  unfold oIf at h
  split at h
  · rename_i y x rs
    by_cases z : cLt x y = true
    · rw [if_pos z] at h
      obtain ⟨h1, h2⟩ := hj _ _ _ _ h
      exact ⟨h1, fun H locs ls hl hw hS ha hb2 => lv_icmp_lt hx hb hd ht (fun _ => h2 H locs ls hl hw hS ha hb2) (fun q => by simp only [cLt, decide_eq_true_eq] at z; first | exact absurd z q | exact absurd q z)⟩
    · rw [if_neg z] at h
      obtain ⟨h1, h2⟩ := hn _ _ _ h
      exact ⟨h1, fun H locs ls hl hw hS ha hb2 => lv_icmp_lt hx hb hd ht (fun q => by refine absurd ?_ z; simp only [cLt, decide_eq_true_eq]; exact q) (fun _ => h2 H locs ls hl hw hS ha hb2)⟩
  · cases h
theorem ok_if_lt {off : Int} {t : Nat} (ht : (pc : Int) + off = ((pcs.getD t 0 : Nat) : Int)) (hd : decode cc pc = .ok (.ifCond .lt off, 3)) : ok1 own cc ml rt mn pcs pc 3 (oIf0 cLt t) := by
  refine ⟨mo_oIf0, ?_⟩
  intro E d Gs G' r p l e s m args below meth c C nx jp cl lv st G hn hj hc h
  obtain ⟨hx, hb, -⟩ := C
  unfold oIf0 at h
  split at h
  · rename_i x rs
    by_cases z : cLt x 0 = true
    · rw [if_pos z] at h
      obtain ⟨h1, h2⟩ := hj _ _ _ _ h
      exact ⟨h1, fun H locs ls hl hw hS ha hb2 => lv_if_lt hx hb hd ht (fun _ => h2 H locs ls hl hw hS ha hb2) (fun q => by simp only [cLt, decide_eq_true_eq] at z; first | exact absurd z q | exact absurd q z)⟩
    · rw [if_neg z] at h
      obtain ⟨h1, h2⟩ := hn _ _ _ h
      exact ⟨h1, fun H locs ls hl hw hS ha hb2 => lv_if_lt hx hb hd ht (fun q => by refine absurd ?_ z; simp only [cLt, decide_eq_true_eq]; exact q) (fun _ => h2 H locs ls hl hw hS ha hb2)⟩
  · cases h
theorem ok_icmp_ge {off : Int} {t : Nat} (ht : (pc : Int) + off = ((pcs.getD t 0 : Nat) : Int)) (hd : decode cc pc = .ok (.if_icmp .ge off, 3)) : ok1 own cc ml rt mn pcs pc 3 (oIf cGe t) := by
  refine ⟨mo_oIf, ?_⟩
  intro E d Gs G' r p l e s m args below meth c C nx jp cl lv st G hn hj hc h
  obtain ⟨hx, hb, -⟩ := C
  unfold oIf at h
  split at h
  · rename_i y x rs
    by_cases z : cGe x y = true
    · rw [if_pos z] at h
      obtain ⟨h1, h2⟩ := hj _ _ _ _ h
      exact ⟨h1, fun H locs ls hl hw hS ha hb2 => lv_icmp_ge hx hb hd ht (fun _ => h2 H locs ls hl hw hS ha hb2) (fun q => by simp only [cGe, decide_eq_true_eq] at z; first | exact absurd z q | exact absurd q z)⟩
    · rw [if_neg z] at h
      obtain ⟨h1, h2⟩ := hn _ _ _ h
      exact ⟨h1, fun H locs ls hl hw hS ha hb2 => lv_icmp_ge hx hb hd ht (fun q => by refine absurd ?_ z; simp only [cGe, decide_eq_true_eq]; exact q) (fun _ => h2 H locs ls hl hw hS ha hb2)⟩
  · cases h
theorem ok_if_ge {off : Int} {t : Nat} (ht : (pc : Int) + off = ((pcs.getD t 0 : Nat) : Int)) (hd : decode cc pc = .ok (.ifCond .ge off, 3)) : ok1 own cc ml rt mn pcs pc 3 (oIf0 cGe t) := by
  refine ⟨mo_oIf0, ?_⟩
  intro E d Gs G' r p l e s m args below meth c C nx jp cl lv st G hn hj hc h
  obtain ⟨hx, hb, -⟩ := C
  unfold oIf0 at h
  split at h
  · rename_i x rs
    by_cases z : cGe x 0 = true
    · rw [if_pos z] at h
      obtain ⟨h1, h2⟩ := hj _ _ _ _ h
      exact ⟨h1, fun H locs ls hl hw hS ha hb2 => lv_if_ge hx hb hd ht (fun _ => h2 H locs ls hl hw hS ha hb2) (fun q => by simp only [cGe, decide_eq_true_eq] at z; first | exact absurd z q | exact absurd q z)⟩
    · rw [if_neg z] at h
      obtain ⟨h1, h2⟩ := hn _ _ _ h
      exact ⟨h1, fun H locs ls hl hw hS ha hb2 => lv_if_ge hx hb hd ht (fun q => by refine absurd ?_ z; simp only [cGe, decide_eq_true_eq]; exact q) (fun _ => h2 H locs ls hl hw hS ha hb2)⟩
  · cases h
theorem ok_icmp_gt {off : Int} {t : Nat} (ht : (pc : Int) + off = ((pcs.getD t 0 : Nat) : Int)) (hd : decode cc pc = .ok (.if_icmp .gt off, 3)) : ok1 own cc ml rt mn pcs pc 3 (oIf cGt t) := by
  refine ⟨mo_oIf, ?_⟩
  intro E d Gs G' r p l e s m args below meth c C nx jp cl lv st G hn hj hc h
  obtain ⟨hx, hb, -⟩ := C
  unfold oIf at h
  split at h
  · rename_i y x rs
    by_cases z : cGt x y = true
    · rw [if_pos z] at h
      obtain ⟨h1, h2⟩ := hj _ _ _ _ h
      exact ⟨h1, fun H locs ls hl hw hS ha hb2 => lv_icmp_gt hx hb hd ht (fun _ => h2 H locs ls hl hw hS ha hb2) (fun q => by simp only [cGt, decide_eq_true_eq] at z; first | exact absurd z q | exact absurd q z)⟩
    · rw [if_neg z] at h
      obtain ⟨h1, h2⟩ := hn _ _ _ h
      exact ⟨h1, fun H locs ls hl hw hS ha hb2 => lv_icmp_gt hx hb hd ht (fun q => by refine absurd ?_ z; simp only [cGt, decide_eq_true_eq]; exact q) (fun _ => h2 H locs ls hl hw hS ha hb2)⟩
  · cases h
theorem ok_if_gt {off : Int} {t : Nat} (ht : (pc : Int) + off = ((pcs.getD t 0 : Nat) : Int)) (hd : decode cc pc = .ok (.ifCond .gt off, 3)) : ok1 own cc ml rt mn pcs pc 3 (oIf0 cGt t) := by
  refine ⟨mo_oIf0, ?_⟩
  intro E d Gs G' r p l e s m args below meth c C nx jp cl lv st G hn hj hc h
  obtain ⟨hx, hb, -⟩ := C
  unfold oIf0 at h
  split at h
  · rename_i x rs
    by_cases z : cGt x 0 = true
    · rw [if_pos z] at h
      obtain ⟨h1, h2⟩ := hj _ _ _ _ h
      exact ⟨h1, fun H locs ls hl hw hS ha hb2 => lv_if_gt hx hb hd ht (fun _ => h2 H locs ls hl hw hS ha hb2) (fun q => by simp only [cGt, decide_eq_true_eq] at z; first | exact absurd z q | exact absurd q z)⟩
    · rw [if_neg z] at h
      obtain ⟨h1, h2⟩ := hn _ _ _ h
      exact ⟨h1, fun H locs ls hl hw hS ha hb2 => lv_if_gt hx hb hd ht (fun q => by refine absurd ?_ z; simp only [cGt, decide_eq_true_eq]; exact q) (fun _ => h2 H locs ls hl hw hS ha hb2)⟩
  · cases h
theorem ok_icmp_le {off : Int} {t : Nat} (ht : (pc : Int) + off = ((pcs.getD t 0 : Nat) : Int)) (hd : decode cc pc = .ok (.if_icmp .le off, 3)) : ok1 own cc ml rt mn pcs pc 3 (oIf cLe t) := by
  refine ⟨mo_oIf, ?_⟩
  intro E d Gs G' r p l e s m args below meth c C nx jp cl lv st G hn hj hc h
  obtain ⟨hx, hb, -⟩ := C
  unfold oIf at h
  split at h
  · rename_i y x rs
    by_cases z : cLe x y = true
    · rw [if_pos z] at h
      obtain ⟨h1, h2⟩ := hj _ _ _ _ h
      exact ⟨h1, fun H locs ls hl hw hS ha hb2 => lv_icmp_le hx hb hd ht (fun _ => h2 H locs ls hl hw hS ha hb2) (fun q => by simp only [cLe, decide_eq_true_eq] at z; first | exact absurd z q | exact absurd q z)⟩
    · rw [if_neg z] at h
      obtain ⟨h1, h2⟩ := hn _ _ _ h
      exact ⟨h1, fun H locs ls hl hw hS ha hb2 => lv_icmp_le hx hb hd ht (fun q => by refine absurd ?_ z; simp only [cLe, decide_eq_true_eq]; exact q) (fun _ => h2 H locs ls hl hw hS ha hb2)⟩
  · cases h
theorem ok_if_le {off : Int} {t : Nat} (ht : (pc : Int) + off = ((pcs.getD t 0 : Nat) : Int)) (hd : decode cc pc = .ok (.ifCond .le off, 3)) : ok1 own cc ml rt mn pcs pc 3 (oIf0 cLe t) := by
  refine ⟨mo_oIf0, ?_⟩
  intro E d Gs G' r p l e s m args below meth c C nx jp cl lv st G hn hj hc h
  obtain ⟨hx, hb, -⟩ := C
  unfold oIf0 at h
  split at h
  · rename_i x rs
    by_cases z : cLe x 0 = true
    · rw [if_pos z] at h
      obtain ⟨h1, h2⟩ := hj _ _ _ _ h
      exact ⟨h1, fun H locs ls hl hw hS ha hb2 => lv_if_le hx hb hd ht (fun _ => h2 H locs ls hl hw hS ha hb2) (fun q => by simp only [cLe, decide_eq_true_eq] at z; first | exact absurd z q | exact absurd q z)⟩
    · rw [if_neg z] at h
      obtain ⟨h1, h2⟩ := hn _ _ _ h
      exact ⟨h1, fun H locs ls hl hw hS ha hb2 => lv_if_le hx hb hd ht (fun q => by refine absurd ?_ z; simp only [cLe, decide_eq_true_eq]; exact q) (fun _ => h2 H locs ls hl hw hS ha hb2)⟩
  · cases h
end OK
