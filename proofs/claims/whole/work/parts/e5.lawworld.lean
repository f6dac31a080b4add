/-! the start: what the tables and the statement say of the state the law is entered in -/
abbrev flN : List Cond := flatC (Jvm.Cond.and given_1 narrow_1)
def sBase : List Nat := [48, 58, 68, 76, 85, 96, 108, 123, 136, 153, 168, 187, 204, 224, 246, 265, 285, 309, 334, 360, 387, 415, 444, 476, 507]
abbrev sTm (i : Nat) : Term := .string "MercuryPost$Tape" (strK.getD i (0, "")).1
abbrev sLn : List Nat := strL.map List.length
theorem sl_lt : ∀ i : Nat, i < 25 → sLn.getD i 0 < 2 ^ 31 := by decide +kernel
theorem sf_ex : ∀ i : Nat, i < 25 → flN[sBase.getD i 0]? = some (Cond.exactly (sTm i) "java/lang/String") := by decide +kernel
theorem sf_co : ∀ i : Nat, i < 25 → flN[sBase.getD i 0 + 1]? = some (Cond.eq (.field (sTm i) "java/lang/String" "coder" "B") (.int 0)) := by decide +kernel
theorem sf_ar : ∀ i : Nat, i < 25 → flN[sBase.getD i 0 + 2]? = some (Cond.arrayOf (.field (sTm i) "java/lang/String" "value" "[B") .byte) := by decide +kernel
theorem sf_le : ∀ i : Nat, i < 25 → flN[sBase.getD i 0 + 3]? = some (Cond.eq (.length (.field (sTm i) "java/lang/String" "value" "[B")) (.int (Int32.ofNat (sLn.getD i 0)))) := by decide +kernel
theorem sf_el : ∀ i : Nat, i < 25 → ∀ j : Nat, j < sLn.getD i 0 → flN[sBase.getD i 0 + 4 + j]? = some (Cond.eq (.elem (.field (sTm i) "java/lang/String" "value" "[B") (.int (Int32.ofNat j))) (.int ((strL.getD i []).getD j 0))) := by decide +kernel
theorem sf_ne : ∀ i : Nat, i < 25 → ∀ j : Nat, j < i → flN[sBase.getD i 0 + 4 + sLn.getD i 0 + j]? = some (Cond.not (Cond.eq (sTm j) (sTm i))) := by decide +kernel
theorem sf_cs : flN[4]? = some (Cond.eq (.static "java/lang/String" "COMPACT_STRINGS" "Z") (.int 1)) := by decide +kernel
theorem sf_fo : flN[5]? = some (Cond.isRef (.static "jdk/internal/util/Preconditions" "SIOOBE_FORMATTER" "Ljava/util/function/BiFunction;")) := by decide +kernel
theorem st_nwF : ∀ q ∈ nwF, Cond.fieldLinkNest q.1 q.2.1 q.2.2.1 q.2.2.2.1 q.2.2.2.2.1 q.2.2.2.2.2 ∈ lw_tbl := List.forall_mem_cons.mpr ⟨(tb_1 _ (List.mem_of_getElem? (i := 42) rfl)), List.forall_mem_cons.mpr ⟨(tb_1 _ (List.mem_of_getElem? (i := 43) rfl)), List.forall_mem_cons.mpr ⟨(tb_1 _ (List.mem_of_getElem? (i := 45) rfl)), List.forall_mem_cons.mpr ⟨(tb_1 _ (List.mem_of_getElem? (i := 46) rfl)), List.forall_mem_cons.mpr ⟨(tb_1 _ (List.mem_of_getElem? (i := 47) rfl)), List.forall_mem_cons.mpr ⟨(tb_1 _ (List.mem_of_getElem? (i := 49) rfl)), List.forall_mem_cons.mpr ⟨(tb_1 _ (List.mem_of_getElem? (i := 51) rfl)), List.forall_mem_cons.mpr ⟨(tb_1 _ (List.mem_of_getElem? (i := 52) rfl)), List.forall_mem_cons.mpr ⟨(tb_1 _ (List.mem_of_getElem? (i := 54) rfl)), List.forall_mem_cons.mpr ⟨(tb_1 _ (List.mem_of_getElem? (i := 55) rfl)), List.forall_mem_cons.mpr ⟨(tb_1 _ (List.mem_of_getElem? (i := 76) rfl)), List.forall_mem_cons.mpr ⟨(tb_1 _ (List.mem_of_getElem? (i := 77) rfl)), List.forall_mem_cons.mpr ⟨(tb_1 _ (List.mem_of_getElem? (i := 79) rfl)), List.forall_mem_cons.mpr ⟨(tb_1 _ (List.mem_of_getElem? (i := 81) rfl)), List.forall_mem_cons.mpr ⟨(tb_1 _ (List.mem_of_getElem? (i := 82) rfl)), List.forall_mem_cons.mpr ⟨(tb_1 _ (List.mem_of_getElem? (i := 84) rfl)), List.forall_mem_cons.mpr ⟨(tb_1 _ (List.mem_of_getElem? (i := 85) rfl)), List.forall_mem_cons.mpr ⟨(tb_1 _ (List.mem_of_getElem? (i := 86) rfl)), List.forall_mem_cons.mpr ⟨(tb_1 _ (List.mem_of_getElem? (i := 88) rfl)), List.forall_mem_cons.mpr ⟨(tb_1 _ (List.mem_of_getElem? (i := 89) rfl)), List.forall_mem_cons.mpr ⟨(tb_1 _ (List.mem_of_getElem? (i := 90) rfl)), List.forall_mem_cons.mpr ⟨(tb_1 _ (List.mem_of_getElem? (i := 92) rfl)), List.forall_mem_cons.mpr ⟨(tb_1 _ (List.mem_of_getElem? (i := 93) rfl)), List.forall_mem_cons.mpr ⟨(tb_1 _ (List.mem_of_getElem? (i := 95) rfl)), List.forall_mem_cons.mpr ⟨(tb_1 _ (List.mem_of_getElem? (i := 96) rfl)), List.forall_mem_cons.mpr ⟨(tb_1 _ (List.mem_of_getElem? (i := 98) rfl)), List.forall_mem_cons.mpr ⟨(tb_1 _ (List.mem_of_getElem? (i := 99) rfl)), List.forall_mem_cons.mpr ⟨(tb_1 _ (List.mem_of_getElem? (i := 100) rfl)), List.forall_mem_cons.mpr ⟨(tb_1 _ (List.mem_of_getElem? (i := 119) rfl)), List.forall_mem_cons.mpr ⟨(tb_1 _ (List.mem_of_getElem? (i := 120) rfl)), List.forall_mem_cons.mpr ⟨(tb_1 _ (List.mem_of_getElem? (i := 122) rfl)), List.forall_mem_cons.mpr ⟨(tb_1 _ (List.mem_of_getElem? (i := 124) rfl)), List.forall_mem_cons.mpr ⟨(tb_1 _ (List.mem_of_getElem? (i := 125) rfl)), List.forall_mem_cons.mpr ⟨(tb_1 _ (List.mem_of_getElem? (i := 127) rfl)), List.forall_mem_cons.mpr ⟨(tb_1 _ (List.mem_of_getElem? (i := 128) rfl)), List.forall_mem_cons.mpr ⟨(tb_1 _ (List.mem_of_getElem? (i := 130) rfl)), List.forall_mem_cons.mpr ⟨(tb_1 _ (List.mem_of_getElem? (i := 131) rfl)), List.forall_mem_cons.mpr ⟨(tb_1 _ (List.mem_of_getElem? (i := 133) rfl)), List.forall_mem_cons.mpr ⟨(tb_1 _ (List.mem_of_getElem? (i := 134) rfl)), List.forall_mem_cons.mpr ⟨(tb_1 _ (List.mem_of_getElem? (i := 136) rfl)), List.forall_mem_cons.mpr ⟨(tb_1 _ (List.mem_of_getElem? (i := 137) rfl)), List.forall_mem_cons.mpr ⟨(tb_1 _ (List.mem_of_getElem? (i := 139) rfl)), List.forall_mem_cons.mpr ⟨(tb_1 _ (List.mem_of_getElem? (i := 140) rfl)), List.forall_mem_cons.mpr ⟨(tb_1 _ (List.mem_of_getElem? (i := 142) rfl)), List.forall_mem_cons.mpr ⟨(tb_1 _ (List.mem_of_getElem? (i := 143) rfl)), List.forall_mem_cons.mpr ⟨(tb_1 _ (List.mem_of_getElem? (i := 145) rfl)), List.forall_mem_cons.mpr ⟨(tb_1 _ (List.mem_of_getElem? (i := 146) rfl)), List.forall_mem_cons.mpr ⟨(tb_1 _ (List.mem_of_getElem? (i := 181) rfl)), List.forall_mem_cons.mpr ⟨(tb_1 _ (List.mem_of_getElem? (i := 202) rfl)), List.forall_mem_cons.mpr ⟨(tb_1 _ (List.mem_of_getElem? (i := 204) rfl)), List.forall_mem_cons.mpr ⟨(tb_1 _ (List.mem_of_getElem? (i := 206) rfl)), List.forall_mem_cons.mpr ⟨(tb_1 _ (List.mem_of_getElem? (i := 208) rfl)), List.forall_mem_cons.mpr ⟨(tb_1 _ (List.mem_of_getElem? (i := 210) rfl)), List.forall_mem_cons.mpr ⟨(tb_2 _ (List.mem_of_getElem? (i := 61) rfl)), List.forall_mem_cons.mpr ⟨(tb_2 _ (List.mem_of_getElem? (i := 64) rfl)), List.forall_mem_cons.mpr ⟨(tb_2 _ (List.mem_of_getElem? (i := 97) rfl)), List.forall_mem_cons.mpr ⟨(tb_2 _ (List.mem_of_getElem? (i := 99) rfl)), List.forall_mem_cons.mpr ⟨(tb_2 _ (List.mem_of_getElem? (i := 101) rfl)), List.forall_mem_cons.mpr ⟨(tb_2 _ (List.mem_of_getElem? (i := 103) rfl)), List.forall_mem_cons.mpr ⟨(tb_2 _ (List.mem_of_getElem? (i := 104) rfl)), fun _ h => absurd h List.not_mem_nil⟩⟩⟩⟩⟩⟩⟩⟩⟩⟩⟩⟩⟩⟩⟩⟩⟩⟩⟩⟩⟩⟩⟩⟩⟩⟩⟩⟩⟩⟩⟩⟩⟩⟩⟩⟩⟩⟩⟩⟩⟩⟩⟩⟩⟩⟩⟩⟩⟩⟩⟩⟩⟩⟩⟩⟩⟩⟩⟩⟩
theorem st_nwM : ∀ q ∈ nwM, Cond.methodLinkNest q.1 q.2.1 q.2.2.1 q.2.2.2 ∈ lw_tbl := List.forall_mem_cons.mpr ⟨(tb_1 _ (List.mem_of_getElem? (i := 71) rfl)), List.forall_mem_cons.mpr ⟨(tb_1 _ (List.mem_of_getElem? (i := 197) rfl)), List.forall_mem_cons.mpr ⟨(tb_2 _ (List.mem_of_getElem? (i := 5) rfl)), List.forall_mem_cons.mpr ⟨(tb_2 _ (List.mem_of_getElem? (i := 8) rfl)), List.forall_mem_cons.mpr ⟨(tb_2 _ (List.mem_of_getElem? (i := 55) rfl)), List.forall_mem_cons.mpr ⟨(tb_2 _ (List.mem_of_getElem? (i := 82) rfl)), List.forall_mem_cons.mpr ⟨(tb_2 _ (List.mem_of_getElem? (i := 92) rfl)), List.forall_mem_cons.mpr ⟨(tb_2 _ (List.mem_of_getElem? (i := 193) rfl)), List.forall_mem_cons.mpr ⟨(tb_2 _ (List.mem_of_getElem? (i := 208) rfl)), List.forall_mem_cons.mpr ⟨(tb_3 _ (List.mem_of_getElem? (i := 7) rfl)), List.forall_mem_cons.mpr ⟨(tb_3 _ (List.mem_of_getElem? (i := 34) rfl)), List.forall_mem_cons.mpr ⟨(tb_4 _ (List.mem_of_getElem? (i := 98) rfl)), List.forall_mem_cons.mpr ⟨(tb_4 _ (List.mem_of_getElem? (i := 99) rfl)), List.forall_mem_cons.mpr ⟨(tb_4 _ (List.mem_of_getElem? (i := 218) rfl)), List.forall_mem_cons.mpr ⟨(tb_5 _ (List.mem_of_getElem? (i := 94) rfl)), fun _ h => absurd h List.not_mem_nil⟩⟩⟩⟩⟩⟩⟩⟩⟩⟩⟩⟩⟩⟩⟩
theorem st_strK : ∀ q ∈ strK, Cond.stringRef "MercuryPost$Tape" q.1 q.2 ∈ lw_tbl := List.forall_mem_cons.mpr ⟨(tb_3 _ (List.mem_of_getElem? (i := 119) rfl)), List.forall_mem_cons.mpr ⟨(tb_3 _ (List.mem_of_getElem? (i := 172) rfl)), List.forall_mem_cons.mpr ⟨(tb_3 _ (List.mem_of_getElem? (i := 173) rfl)), List.forall_mem_cons.mpr ⟨(tb_3 _ (List.mem_of_getElem? (i := 174) rfl)), List.forall_mem_cons.mpr ⟨(tb_3 _ (List.mem_of_getElem? (i := 175) rfl)), List.forall_mem_cons.mpr ⟨(tb_3 _ (List.mem_of_getElem? (i := 176) rfl)), List.forall_mem_cons.mpr ⟨(tb_3 _ (List.mem_of_getElem? (i := 177) rfl)), List.forall_mem_cons.mpr ⟨(tb_3 _ (List.mem_of_getElem? (i := 178) rfl)), List.forall_mem_cons.mpr ⟨(tb_3 _ (List.mem_of_getElem? (i := 179) rfl)), List.forall_mem_cons.mpr ⟨(tb_3 _ (List.mem_of_getElem? (i := 180) rfl)), List.forall_mem_cons.mpr ⟨(tb_3 _ (List.mem_of_getElem? (i := 181) rfl)), List.forall_mem_cons.mpr ⟨(tb_3 _ (List.mem_of_getElem? (i := 182) rfl)), List.forall_mem_cons.mpr ⟨(tb_3 _ (List.mem_of_getElem? (i := 183) rfl)), List.forall_mem_cons.mpr ⟨(tb_3 _ (List.mem_of_getElem? (i := 184) rfl)), List.forall_mem_cons.mpr ⟨(tb_3 _ (List.mem_of_getElem? (i := 189) rfl)), List.forall_mem_cons.mpr ⟨(tb_3 _ (List.mem_of_getElem? (i := 190) rfl)), List.forall_mem_cons.mpr ⟨(tb_3 _ (List.mem_of_getElem? (i := 191) rfl)), List.forall_mem_cons.mpr ⟨(tb_3 _ (List.mem_of_getElem? (i := 192) rfl)), List.forall_mem_cons.mpr ⟨(tb_3 _ (List.mem_of_getElem? (i := 193) rfl)), List.forall_mem_cons.mpr ⟨(tb_3 _ (List.mem_of_getElem? (i := 194) rfl)), List.forall_mem_cons.mpr ⟨(tb_3 _ (List.mem_of_getElem? (i := 195) rfl)), List.forall_mem_cons.mpr ⟨(tb_3 _ (List.mem_of_getElem? (i := 196) rfl)), List.forall_mem_cons.mpr ⟨(tb_3 _ (List.mem_of_getElem? (i := 197) rfl)), List.forall_mem_cons.mpr ⟨(tb_3 _ (List.mem_of_getElem? (i := 198) rfl)), List.forall_mem_cons.mpr ⟨(tb_3 _ (List.mem_of_getElem? (i := 199) rfl)), fun _ h => absurd h List.not_mem_nil⟩⟩⟩⟩⟩⟩⟩⟩⟩⟩⟩⟩⟩⟩⟩⟩⟩⟩⟩⟩⟩⟩⟩⟩⟩
theorem st_inRX0 : Cond.instantiable RX0 1 ∈ lw_tbl := tb_2 _ (List.mem_of_getElem? (i := 7) rfl)
theorem st_inRX1 : Cond.instantiable RX1 10 ∈ lw_tbl := tb_1 _ (List.mem_of_getElem? (i := 30) rfl)
theorem st_inRX2 : Cond.instantiable RX2 5 ∈ lw_tbl := tb_1 _ (List.mem_of_getElem? (i := 36) rfl)
theorem st_inRX3 : Cond.instantiable RX3 5 ∈ lw_tbl := tb_2 _ (List.mem_of_getElem? (i := 91) rfl)
theorem st_inRX4 : Cond.instantiable RX4 4 ∈ lw_tbl := tb_1 _ (List.mem_of_getElem? (i := 170) rfl)
theorem st_inRX5 : Cond.instantiable RX5 5 ∈ lw_tbl := tb_1 _ (List.mem_of_getElem? (i := 223) rfl)
theorem st_inRX6 : Cond.instantiable RX6 10 ∈ lw_tbl := tb_2 _ (List.mem_of_getElem? (i := 17) rfl)
theorem st_inRX7 : Cond.instantiable RX7 6 ∈ lw_tbl := tb_2 _ (List.mem_of_getElem? (i := 54) rfl)
theorem st_inRX8 : Cond.instantiable RX8 5 ∈ lw_tbl := tb_1 _ (List.mem_of_getElem? (i := 196) rfl)
theorem st_inRX9 : Cond.instantiable RX9 8 ∈ lw_tbl := tb_1 _ (List.mem_of_getElem? (i := 70) rfl)
theorem st_inRX10 : Cond.instantiable RX10 1 ∈ lw_tbl := tb_2 _ (List.mem_of_getElem? (i := 81) rfl)
theorem st_inRX11 : Cond.instantiable RX11 20 ∈ lw_tbl := tb_1 _ (List.mem_of_getElem? (i := 22) rfl)
theorem st_inRX12 : Cond.instantiable RX12 58 ∈ lw_tbl := tb_5 _ (List.mem_of_getElem? (i := 160) rfl)
theorem st_lcs : Cond.laysStatic "java/lang/String" "COMPACT_STRINGS" "Z" ∈ lw_tbl := tb_3 _ (List.mem_of_getElem? (i := 133) rfl)
theorem st_lfo : Cond.laysStatic "jdk/internal/util/Preconditions" "SIOOBE_FORMATTER" "Ljava/util/function/BiFunction;" ∈ lw_tbl := tb_3 _ (List.mem_of_getElem? (i := 149) rfl)
theorem st_iS : Cond.initialized "java/lang/String" ∈ lw_tbl := tb_1 _ (List.mem_of_getElem? (i := 16) rfl)
theorem st_iP : Cond.initialized "jdk/internal/util/Preconditions" ∈ lw_tbl := tb_1 _ (List.mem_of_getElem? (i := 18) rfl)
theorem st_aI : Cond.arrayClass .int ∈ lw_tbl := tb_1 _ (List.mem_of_getElem? (i := 67) rfl)
theorem st_aJ : Cond.arrayClass .long ∈ lw_tbl := tb_2 _ (List.mem_of_getElem? (i := 116) rfl)
theorem st_aZ : Cond.arrayClass .boolean ∈ lw_tbl := tb_1 _ (List.mem_of_getElem? (i := 192) rfl)
theorem st_oK : Cond.arrayOver (.object "MercuryPost$Kept") ∈ lw_tbl := tb_1 _ (List.mem_of_getElem? (i := 168) rfl)
theorem st_oM : Cond.arrayOver (.object "MercuryPost$Moment") ∈ lw_tbl := tb_1 _ (List.mem_of_getElem? (i := 176) rfl)
theorem st_oT : Cond.arrayOver (.object "MercuryPost$Text") ∈ lw_tbl := tb_1 _ (List.mem_of_getElem? (i := 69) rfl)
section ST5
variable {s : State} {args : Array Value}
theorem ar_pr {ty : FieldType} (h : (Cond.arrayClass ty).before args s = true) (hr : ∀ cA, s.vm.findClass ("[" ++ ty.toString) = some cA → va_RA s cA ty) : ∃ cA : ClassId, ArrOfT s cA ty ∧ va_RA s cA ty := by
  obtain ⟨cA, kA, comp, h1, h2, h3⟩ := Cond.arrayClass_spec h
  exact ⟨cA, fun n z => ⟨(fun k h => by cases h), kA, h2, comp, h3⟩, hr cA h1⟩
theorem ar_ob {C : String} (h : (Cond.arrayOver (.object C)).before args s = true) : ∃ cA : ClassId, ArrOfT s cA (.object C) ∧ va_RA s cA (.object C) := by
  obtain ⟨comp, cA, kA, h1, h2, h3, h4, h5⟩ := Cond.arrayOver_spec h
  exact ⟨cA, fun n z => ⟨(fun k h => by cases h), kA, h3, comp, h4⟩, kA, comp, h3, h4, h1, h5⟩
theorem cl_ex (hts : ∀ w ∈ lw_tbl, w.before args s = true) (k : Nat) : ∃ z : ClassId × (Nat → Nat), ∀ q : vw_C, vwCl[k]? = some q → u_Kn s q.1 q.2.1 q.2.2 z.1 z.2 := by
  have hg : ∀ w ∈ gw, w.before args s = true := fun w hw => hts w (gw_good w hw).1
  match k with
  | 0 =>
    obtain ⟨cC, iS, h⟩ := u_known (C := RX0) (T := TX0) (N := 1) hg cf_X0.2.2.1 (hts _ st_inRX0)
    exact ⟨(cC, iS), fun q hq => by cases hq; exact h⟩
  | 1 =>
    obtain ⟨cC, iS, h⟩ := u_known (C := RX1) (T := TX1) (N := 10) hg cf_X1.2.2.1 (hts _ st_inRX1)
    exact ⟨(cC, iS), fun q hq => by cases hq; exact h⟩
  | 2 =>
    obtain ⟨cC, iS, h⟩ := u_known (C := RX2) (T := TX2) (N := 5) hg cf_X2.2.2.1 (hts _ st_inRX2)
    exact ⟨(cC, iS), fun q hq => by cases hq; exact h⟩
  | 3 =>
    obtain ⟨cC, iS, h⟩ := u_known (C := RX3) (T := TX3) (N := 5) hg cf_X3.2.2.1 (hts _ st_inRX3)
    exact ⟨(cC, iS), fun q hq => by cases hq; exact h⟩
  | 4 =>
    obtain ⟨cC, iS, h⟩ := u_known (C := RX4) (T := TX4) (N := 4) hg cf_X4.2.2.1 (hts _ st_inRX4)
    exact ⟨(cC, iS), fun q hq => by cases hq; exact h⟩
  | 5 =>
    obtain ⟨cC, iS, h⟩ := u_known (C := RX5) (T := TX5) (N := 5) hg cf_X5.2.2.1 (hts _ st_inRX5)
    exact ⟨(cC, iS), fun q hq => by cases hq; exact h⟩
  | 6 =>
    obtain ⟨cC, iS, h⟩ := u_known (C := RX6) (T := TX6) (N := 10) hg cf_X6.2.2.1 (hts _ st_inRX6)
    exact ⟨(cC, iS), fun q hq => by cases hq; exact h⟩
  | 7 =>
    obtain ⟨cC, iS, h⟩ := u_known (C := RX7) (T := TX7) (N := 6) hg cf_X7.2.2.1 (hts _ st_inRX7)
    exact ⟨(cC, iS), fun q hq => by cases hq; exact h⟩
  | 8 =>
    obtain ⟨cC, iS, h⟩ := u_known (C := RX8) (T := TX8) (N := 5) hg cf_X8.2.2.1 (hts _ st_inRX8)
    exact ⟨(cC, iS), fun q hq => by cases hq; exact h⟩
  | 9 =>
    obtain ⟨cC, iS, h⟩ := u_known (C := RX9) (T := TX9) (N := 8) hg cf_X9.2.2.1 (hts _ st_inRX9)
    exact ⟨(cC, iS), fun q hq => by cases hq; exact h⟩
  | 10 =>
    obtain ⟨cC, iS, h⟩ := u_known (C := RX10) (T := TX10) (N := 1) hg cf_X10.2.2.1 (hts _ st_inRX10)
    exact ⟨(cC, iS), fun q hq => by cases hq; exact h⟩
  | 11 =>
    obtain ⟨cC, iS, h⟩ := u_known (C := RX11) (T := TX11) (N := 20) hg cf_X11.2.2.1 (hts _ st_inRX11)
    exact ⟨(cC, iS), fun q hq => by cases hq; exact h⟩
  | 12 =>
    obtain ⟨cC, iS, h⟩ := u_known (C := RX12) (T := TX12) (N := 58) hg cf_X12.2.2.1 (hts _ st_inRX12)
    exact ⟨(cC, iS), fun q hq => by cases hq; exact h⟩
  | k + 13 => exact ⟨(default, fun _ => 0), fun q hq => by simp [vwCl] at hq⟩
end ST5
theorem hv_ex {p : Program} {s : State} {m : MethodId} {meth : Method} {c : Code} {b L : Nat} {xs : Nat → Int32} (C0 : lw_At p s m meth c b L xs) : ∃ E : hE, E.1 = s.heap.size ∧ hV E s := by
  obtain ⟨hx, hb, hr, hml, hown, hts, hX, hbl, hlocks, hgv⟩ := C0
  have hs0 := flat_of_before _ hgv
  have hs : ∀ (i : Nat) (w : Cond), flN[i]? = some w → w.before #[Value.ref b] s = true := fun i w h => hs0 w (List.mem_of_getElem? h)
  have hA : ∀ a : Nat, a < s.heap.size → ¬ (fun q : Nat => s.heap.size ≤ q) a := fun a h q => absurd h (Nat.not_lt.mpr q)
  obtain ⟨adK, adV, hS, hev⟩ := vk_Sof (args := #[Value.ref b]) (s := s) (N := 25) (tm := sTm) (len := sLn) (byt := strL) (A := fun q : Nat => s.heap.size ≤ q) sl_lt (fun i hi => hs _ _ (sf_ex i hi)) (fun i hi => hs _ _ (sf_co i hi)) (fun i hi => hs _ _ (sf_ar i hi)) (fun i hi => hs _ _ (sf_le i hi)) (fun i hi j hj => hs _ _ (sf_el i hi j hj)) (fun i j hi hj hij => by
    rcases Nat.lt_or_gt_of_ne hij with h | h
    · exact Or.inl (hs _ _ (sf_ne j hj i h))
    · exact Or.inr (hs _ _ (sf_ne i hi j h))) hA
  obtain ⟨z, hz⟩ := Classical.axiomOfChoice (cl_ex (args := #[Value.ref b]) hts)
  obtain ⟨c13, h13⟩ := ar_pr (hts _ st_aI) (fun cA h => h)
  obtain ⟨c14, h14⟩ := ar_pr (hts _ st_aJ) (fun cA h => h)
  obtain ⟨c15, h15⟩ := ar_pr (hts _ st_aZ) (fun cA h => h)
  obtain ⟨c16, h16⟩ := ar_ob (hts _ st_oK)
  obtain ⟨c17, h17⟩ := ar_ob (hts _ st_oM)
  obtain ⟨c18, h18⟩ := ar_ob (hts _ st_oT)
  have hcs : va_Z "java/lang/String" "COMPACT_STRINGS" "Z" (.int 1) (fun q : Nat => s.heap.size ≤ q) s s.heap := va_Zof (hts _ st_lcs) (hts _ st_iS) (va_eqi (hs _ _ sf_cs)) hA
  obtain ⟨fo, hfo⟩ : ∃ fo : Option Nat, va_Z "jdk/internal/util/Preconditions" "SIOOBE_FORMATTER" "Ljava/util/function/BiFunction;" (toV fo) (fun q : Nat => s.heap.size ≤ q) s s.heap := by
    rcases va_Zqof (hts _ st_lfo) (hts _ st_iP) (hs _ _ sf_fo) hA with h | ⟨t, h⟩
    · exact ⟨none, h⟩
    · exact ⟨some t, h⟩
  refine ⟨(s.heap.size, adK, adV, fo, (fun k => (z k).1, fun k => (z k).2), fun k => if k = 13 then c13 else if k = 14 then c14 else if k = 15 then c15 else if k = 16 then c16 else if k = 17 then c17 else c18), rfl, ⟨fun k q hq => hz k q hq, fun k q hq => ?_⟩, hS, fun j q hq => ?_, fun j q hq => va_Nw.of rfl (hts _ (st_nwF q (List.mem_of_getElem? hq))), fun j q hq => va_Nw.of rfl (hts _ (st_nwM q (List.mem_of_getElem? hq))), hcs, hfo, va_AO.of (hts _ st_oK), va_AO.of (hts _ st_oM), va_AO.of (hts _ st_oT)⟩
  · match k, hq with
    | 0, hq => cases hq; exact h13
    | 1, hq => cases hq; exact h14
    | 2, hq => cases hq; exact h15
    | 3, hq => cases hq; exact h16
    | 4, hq => cases hq; exact h17
    | 5, hq => cases hq; exact h18
    | k + 6, hq => simp [tysA] at hq
  · have hj : j < 25 := (List.getElem?_eq_some_iff.mp hq).1
    refine vk_R.of (A := #[Value.ref b]) (hts _ (st_strK q (List.mem_of_getElem? hq))) ?_
    have h := hev j hj
    rw [show sTm j = Term.string "MercuryPost$Tape" q.1 by show Term.string _ (strK.getD j (0, "")).1 = _; rw [List.getD_eq_getElem?_getD, hq]; rfl] at h
    exact h
