/-! the JDK's own, Strings, answers, switches, calls -/
section OK
variable {own : String} {cc : ByteArray} {ml : Nat} {rt : Option FieldType} {mn : String} {pcs : List Nat} {pc : Nat}
theorem ok_newarray_int (hw : Cond.arrayClass .int ∈ gw) (hd : decode cc pc = .ok (.newarray .int, 2)) : ok1 own cc ml rt mn pcs pc 2 (oNewA 13) :=
  ok_newA (at0 := .int) (t0 := 0) (ty := .int) hw rfl (Or.inl rfl) (fun _ => rfl) (fun _ _ h => h) (by decide) rfl hd
theorem ok_newarray_long (hw : Cond.arrayClass .long ∈ gw) (hd : decode cc pc = .ok (.newarray .long, 2)) : ok1 own cc ml rt mn pcs pc 2 (oNewA 14) :=
  ok_newA (at0 := .long) (t0 := 1) (ty := .long) hw rfl (Or.inr (Or.inl rfl)) (fun _ => rfl) (fun _ _ h => h) (by decide) rfl hd
theorem ok_newarray_boolean (hw : Cond.arrayClass .boolean ∈ gw) (hd : decode cc pc = .ok (.newarray .boolean, 2)) : ok1 own cc ml rt mn pcs pc 2 (oNewA 15) :=
  ok_newA (at0 := .boolean) (t0 := 2) (ty := .boolean) hw rfl (Or.inr (Or.inr rfl)) (fun _ => rfl) (fun _ _ h => h) (by decide) rfl hd
theorem ok_obj {idx : Nat} (hw1 : Cond.methodLink own idx objectInit ∈ gw) (hw2 : Cond.instanceMethod objectInit ∈ gw) (hw3 : Cond.code objectInit ⟨#[0xb1]⟩ 1 none ∈ gw) (hd : decode cc pc = .ok (.invokespecial idx, 3)) : ok1 own cc ml rt mn pcs pc 3 oObj := by
  refine ⟨mo_oObj, ?_⟩
  intro E d Gs G' r p l e s m args below meth c C0 nx jp cl lv st G hn hj hc h
  obtain ⟨hx, hb, hml, hr, hown, hts, hlk, hmn, hV, hbs⟩ := C0
  unfold oObj at h
  split at h
  · rename_i a rs
    split at h
    · rename_i hcat
      obtain ⟨h1, h2⟩ := hn _ _ _ h
      refine ⟨h1, fun H locs ls hl hw hS ha hb2 => ?_⟩
      refine W.objInit (a := hAd E a) (rest := rs.map (rv E)) hx hb hown (hts _ hw1) (hts _ hw2) (hts _ hw3) rfl (by rw [hml]; exact hl.1) rfl hd (by show 1 ≤ d + 1; omega) ?_ (h2 H locs ls hl hw hS ha hb2)
      show 2 * 0 + _ + 12 ≤ 64 * (d + 1)
      rw [cats_map]
      omega
    · cases h
  · cases h
theorem ok_max {idx : Nat} (hw1 : Cond.methodLink own idx Lib.Math.max.name ∈ gw) (hw2 : Cond.static Lib.Math.max.name ∈ gw) (hw3 : Cond.initialized "java/lang/Math" ∈ gw) (hw4 : Cond.code Lib.Math.max.name Lib.Math.max.code 2 (some .int) ∈ gw) (hd : decode cc pc = .ok (.invokestatic idx, 3)) : ok1 own cc ml rt mn pcs pc 3 oMax := by
  refine ⟨mo_oMax, ?_⟩
  intro E d Gs G' r p l e s m args below meth c C0 nx jp cl lv st G hn hj hc h
  obtain ⟨hx, hb, hml, hr, hown, hts, hlk, hmn, hV, hbs⟩ := C0
  unfold oMax at h
  split at h
  · rename_i y x rs
    split at h
    · rename_i hcat
      obtain ⟨h1, h2⟩ := hn _ _ _ h
      refine ⟨h1, fun H locs ls hl hw hS ha hb2 => ?_⟩
      exact va_mmax (rest := rs.map (rv E)) hx hb (by rw [hml]; exact hl.1.symm) hown (hts _ hw1) (hts _ hw2) (hts _ hw3) (hts _ hw4) (by show 1 ≤ d + 1; omega) (by rw [cats_map]; show _ ≤ 64 * (d + 1); omega) (by show _ ≤ gn G' - gn Gs; omega) (by show _ ≤ gs G' - gs Gs; omega) hd (h2 H locs ls hl hw hS ha hb2)
    · cases h
  · cases h
theorem ok_min {idx : Nat} (hw1 : Cond.methodLink own idx Lib.Math.min.name ∈ gw) (hw2 : Cond.static Lib.Math.min.name ∈ gw) (hw3 : Cond.initialized "java/lang/Math" ∈ gw) (hw4 : Cond.code Lib.Math.min.name Lib.Math.min.code 2 (some .int) ∈ gw) (hd : decode cc pc = .ok (.invokestatic idx, 3)) : ok1 own cc ml rt mn pcs pc 3 oMin := by
  refine ⟨mo_oMin, ?_⟩
  intro E d Gs G' r p l e s m args below meth c C0 nx jp cl lv st G hn hj hc h
  obtain ⟨hx, hb, hml, hr, hown, hts, hlk, hmn, hV, hbs⟩ := C0
  unfold oMin at h
  split at h
  · rename_i y x rs
    split at h
    · rename_i hcat
      obtain ⟨h1, h2⟩ := hn _ _ _ h
      refine ⟨h1, fun H locs ls hl hw hS ha hb2 => ?_⟩
      exact va_mmin (rest := rs.map (rv E)) hx hb (by rw [hml]; exact hl.1.symm) hown (hts _ hw1) (hts _ hw2) (hts _ hw3) (hts _ hw4) (by show 1 ≤ d + 1; omega) (by rw [cats_map]; show _ ≤ 64 * (d + 1); omega) (by show _ ≤ gn G' - gn Gs; omega) (by show _ ≤ gs G' - gs Gs; omega) hd (h2 H locs ls hl hw hS ha hb2)
    · cases h
  · cases h
-- Strings
theorem strL_len {j : Nat} : (strL.map List.length).getD j 0 = (strL.getD j []).length := by
  rw [List.getD_eq_getElem?_getD, List.getD_eq_getElem?_getD, List.getElem?_map]
  cases strL[j]? <;> rfl
theorem hAd_k (E : hE) {a : Nat} (h1 : 100000 ≤ a) (h2 : a < 100025) : hAd E a = E.2.1 (a - 100000) := by
  unfold hAd
  rw [if_neg (by omega), if_pos (by omega)]
theorem hAd_v (E : hE) {a : Nat} (h1 : 200000 ≤ a) (h2 : a < 200025) : hAd E a = E.2.2.1 (a - 200000) := by
  unfold hAd
  rw [if_neg (by omega), if_neg (by omega), if_pos (by omega)]
theorem k25 {a : Nat} (h : 100000 ≤ a ∧ a < 100025) : a - 100000 < 25 := by omega
theorem v25 {a : Nat} (h : 200000 ≤ a ∧ a < 200025) : a - 200000 < 25 := by omega
theorem kv25 {a : Nat} (h : 100000 ≤ a ∧ a < 100025) : 200000 ≤ a + 100000 ∧ a + 100000 < 200025 ∧ a + 100000 - 200000 = a - 100000 := by omega
theorem kj25 {j : Nat} (h : j < 25) : 100000 ≤ 100000 + j ∧ 100000 + j < 100025 ∧ 100000 + j - 100000 = j := by omega
theorem ok_ldcS {idx : Nat} (j : Nat) {tx : String} (hq : strK[j]? = some (idx, tx)) (ho : own = "MercuryPost$Tape") (hj25 : j < 25) (hd : decode cc pc = .ok (.ldc idx, 2)) : ok1 own cc ml rt mn pcs pc 2 (oPushR (100000 + j)) := by
  refine ⟨mo_oPushR, ?_⟩
  intro E d Gs G' r p l e s m args below meth c C0 nx jp cl lv st G hn hj hc h
  obtain ⟨hx, hb, hml, hr, hown, hts, hlk, hmn, hV, hbs⟩ := C0
  subst ho
  obtain ⟨h1, h2⟩ := hn _ _ _ h
  refine ⟨h1, fun H locs ls hl hw hS ha hb2 => ?_⟩
  have h3 := h2 H locs ls hl hw hS ha hb2
  rw [List.map_cons, show rv E (.ref (100000 + j)) = .ref (E.2.1 j) by show Value.ref (hAd E (100000 + j)) = _; rw [hAd_k E (kj25 hj25).1 (kj25 hj25).2.1, (kj25 hj25).2.2]] at h3
  exact va_ldcS hx hb hown (hV.2.2.1 j _ hq) hd h3
theorem ok_tcoder {idx : Nat} (hw : Cond.fieldLink own idx "java/lang/String" "coder" "B" ∈ gw) (hd : decode cc pc = .ok (.getfield idx, 3)) : ok1 own cc ml rt mn pcs pc 3 oTCoder := by
  refine ⟨mo_oTCoder, ?_⟩
  intro E d Gs G' r p l e s m args below meth c C0 nx jp cl lv st G hn hj hc h
  obtain ⟨hx, hb, hml, hr, hown, hts, hlk, hmn, hV, hbs⟩ := C0
  unfold oTCoder at h
  split at h
  · rename_i a rs
    split at h
    · rename_i hk0
      obtain ⟨h1, h2⟩ := hn _ _ _ h
      refine ⟨h1, fun H locs ls hl hw2 hS ha hb2 => ?_⟩
      show W p l e _ s m args below meth c H locs _ _ _ (F0 m pc ls (.ref (hAd E a) :: rs.map (rv E)))
      rw [hAd_k E hk0.1 hk0.2]
      exact vk_getf hx hb (hV.2.1.1 (a - 100000) (k25 hk0)).2.1 hS hown (hts _ hw) (fun _ q => q) hd (h2 H locs ls hl hw2 hS ha hb2)
    · cases h
  · cases h
theorem ok_tval {idx : Nat} (hw : Cond.fieldLink own idx "java/lang/String" "value" "[B" ∈ gw) (hd : decode cc pc = .ok (.getfield idx, 3)) : ok1 own cc ml rt mn pcs pc 3 oTVal := by
  refine ⟨mo_oTVal, ?_⟩
  intro E d Gs G' r p l e s m args below meth c C0 nx jp cl lv st G hn hj hc h
  obtain ⟨hx, hb, hml, hr, hown, hts, hlk, hmn, hV, hbs⟩ := C0
  unfold oTVal at h
  split at h
  · rename_i a rs
    split at h
    · rename_i hk0
      obtain ⟨h1, h2⟩ := hn _ _ _ h
      refine ⟨h1, fun H locs ls hl hw2 hS ha hb2 => ?_⟩
      show W p l e _ s m args below meth c H locs _ _ _ (F0 m pc ls (.ref (hAd E a) :: rs.map (rv E)))
      rw [hAd_k E hk0.1 hk0.2]
      have h3 := h2 H locs ls hl hw2 hS ha hb2
      rw [List.map_cons, show rv E (.ref (a + 100000)) = .ref (E.2.2.1 (a - 100000)) by show Value.ref (hAd E (a + 100000)) = _; rw [hAd_v E (kv25 hk0).1 (kv25 hk0).2.1, (kv25 hk0).2.2]] at h3
      exact vk_getf hx hb (hV.2.1.1 (a - 100000) (k25 hk0)).2.2.1 hS hown (hts _ hw) (fun _ q => q) hd h3
    · cases h
  · cases h
theorem ok_tlen (hd : decode cc pc = .ok (.arraylength, 1)) : ok1 own cc ml rt mn pcs pc 1 oTLen := by
  refine ⟨mo_oTLen, ?_⟩
  intro E d Gs G' r p l e s m args below meth c C0 nx jp cl lv st G hn hj hc h
  obtain ⟨hx, hb, hml, hr, hown, hts, hlk, hmn, hV, hbs⟩ := C0
  unfold oTLen at h
  split at h
  · rename_i a rs
    split at h
    · rename_i hk0
      obtain ⟨h1, h2⟩ := hn _ _ _ h
      refine ⟨h1, fun H locs ls hl hw2 hS ha hb2 => ?_⟩
      show W p l e _ s m args below meth c H locs _ _ _ (F0 m pc ls (.ref (hAd E a) :: rs.map (rv E)))
      rw [hAd_v E hk0.1 hk0.2]
      exact va_tlen hx hb (hV.2.1.1 (a - 200000) (v25 hk0)).2.2.2 hS (by rw [strL_len]) hd (h2 H locs ls hl hw2 hS ha hb2)
    · cases h
  · cases h
theorem ok_tld (hd : decode cc pc = .ok (.baload, 1)) : ok1 own cc ml rt mn pcs pc 1 oTLd := by
  refine ⟨mo_oTLd, ?_⟩
  intro E d Gs G' r p l e s m args below meth c C0 nx jp cl lv st G hn hj hc h
  obtain ⟨hx, hb, hml, hr, hown, hts, hlk, hmn, hV, hbs⟩ := C0
  unfold oTLd at h
  split at h
  · rename_i i a rs
    split at h
    · rename_i hk0
      obtain ⟨hk0, hin⟩ := hk0
      obtain ⟨h1, h2⟩ := hn _ _ _ h
      refine ⟨h1, fun H locs ls hl hw2 hS ha hb2 => ?_⟩
      show W p l e _ s m args below meth c H locs _ _ _ (F0 m pc ls (.int i :: .ref (hAd E a) :: rs.map (rv E)))
      rw [hAd_v E hk0.1 hk0.2]
      exact va_tb hx hb (hV.2.1.1 (a - 200000) (v25 hk0)).2.2.2 hS (by rw [strL_len]; exact inb_in hin) rfl hd (h2 H locs ls hl hw2 hS ha hb2)
    · cases h
  · cases h
theorem ok_compact {idx : Nat} (hw : Cond.fieldLink own idx "java/lang/String" "COMPACT_STRINGS" "Z" ∈ gw) (hd : decode cc pc = .ok (.getstatic idx, 3)) : ok1 own cc ml rt mn pcs pc 3 (oPushI 1) := by
  refine ⟨mo_oPushI, ?_⟩
  intro E d Gs G' r p l e s m args below meth c C0 nx jp cl lv st G hn hj hc h
  obtain ⟨hx, hb, hml, hr, hown, hts, hlk, hmn, hV, hbs⟩ := C0
  obtain ⟨h1, h2⟩ := hn _ _ _ h
  exact ⟨h1, fun H locs ls hl hw2 hS ha hb2 => va_gets hx hb hV.2.2.2.2.2.1 hS hown (hts _ hw) (fun _ q => q) hd (h2 H locs ls hl hw2 hS ha hb2)⟩
theorem ok_sioobe {idx : Nat} (hw : Cond.fieldLink own idx "jdk/internal/util/Preconditions" "SIOOBE_FORMATTER" "Ljava/util/function/BiFunction;" ∈ gw) (hd : decode cc pc = .ok (.getstatic idx, 3)) : ok1 own cc ml rt mn pcs pc 3 oPushF := by
  refine ⟨mo_oPushF, ?_⟩
  intro E d Gs G' r p l e s m args below meth c C0 nx jp cl lv st G hn hj hc h
  obtain ⟨hx, hb, hml, hr, hown, hts, hlk, hmn, hV, hbs⟩ := C0
  obtain ⟨h1, h2⟩ := hn _ _ _ h
  refine ⟨h1, fun H locs ls hl hw2 hS ha hb2 => ?_⟩
  have h3 := h2 H locs ls hl hw2 hS ha hb2
  rw [List.map_cons, show rv E (.float 0) = toV E.2.2.2.1 from rfl] at h3
  exact va_gets hx hb hV.2.2.2.2.2.2.1 hS hown (hts _ hw) (fun _ q => q) hd h3
theorem x_of {x : Int32} (h : ¬ x < 0) : x = Int32.ofNat x.toNatClampNeg := by
  have h0 : (0 : Int) ≤ x.toInt := by
    have := Int32.not_lt.mp h
    simpa using Int32.le_iff_toInt_le.mp this
  have h1 : x.toInt < 2 ^ 31 := x.toInt_lt
  apply Int32.toInt_inj.mp
  rw [Int32.toInt_ofNat_of_lt (by show x.toInt.toNat < 2 ^ 31; omega)]
  show x.toInt = ((x.toInt.toNat : Nat) : Int)
  omega
theorem i2c_all : ∀ k : Nat, k < 256 → ((Int32.ofNat k).toUInt32 % 65536).toInt32 = Int32.ofNat k := by decide +kernel
theorem i2c_small {x : Int32} (h : inb x 256) : (x.toUInt32 % 65536).toInt32 = x := by
  have e := x_of h.1
  have := i2c_all _ h.2
  rw [← e] at this
  exact this
theorem ok_i2c (hd : decode cc pc = .ok (.i2c, 1)) : ok1 own cc ml rt mn pcs pc 1 oI2C := by
  refine ⟨mo_oI2C, ?_⟩
  intro E d Gs G' r p l e s m args below meth c C nx jp cl lv st G hn hj hc h
  obtain ⟨hx, hb, -⟩ := C
  unfold oI2C at h
  split at h
  · split at h
    · rename_i hi
      obtain ⟨h1, h2⟩ := hn _ _ _ h
      exact ⟨h1, fun H locs ls hl hw hS ha hb2 => lv_i2c hx hb hd (i2c_small hi) (h2 H locs ls hl hw hS ha hb2)⟩
    · cases h
  · cases h
theorem nar_all : ∀ k : Nat, k < 128 → narrow .byte (.int (Int32.ofNat k)) = .int (Int32.ofNat k) ∧ narrow .char (.int (Int32.ofNat k)) = .int (Int32.ofNat k) := by decide +kernel
-- answers
theorem ok_ireturn (hrt : rt = some .int) (hd : decode cc pc = .ok (.ireturn, 1)) : ok1 own cc ml rt mn pcs pc 1 oRetI := by
  refine ⟨mo_oRetI, ?_⟩
  intro E d Gs G' r p l e s m args below meth c C0 nx jp cl lv st G hn hj hc h
  obtain ⟨hx, hb, hml, hr, hown, hts, hlk, hmn, hV, hbs⟩ := C0
  unfold oRetI at h
  split at h
  · cases h
    refine ⟨⟨Nat.le_refl _, Nat.le_refl _⟩, fun H locs ls hl hw hS ha hb2 => ?_⟩
    exact W.iret hx hb (hr.trans hrt) (fun t ht hW => ⟨rfl, by rw [ht]; exact hw, hS.F ht⟩) hS.2.2 hd
  · cases h
theorem ok_lreturn (hrt : rt = some .long) (hd : decode cc pc = .ok (.lreturn, 1)) : ok1 own cc ml rt mn pcs pc 1 oRetL := by
  refine ⟨mo_oRetL, ?_⟩
  intro E d Gs G' r p l e s m args below meth c C0 nx jp cl lv st G hn hj hc h
  obtain ⟨hx, hb, hml, hr, hown, hts, hlk, hmn, hV, hbs⟩ := C0
  unfold oRetL at h
  split at h
  · cases h
    refine ⟨⟨Nat.le_refl _, Nat.le_refl _⟩, fun H locs ls hl hw hS ha hb2 => ?_⟩
    exact W.lret hx hb (hr.trans hrt) (fun t ht hW => ⟨rfl, by rw [ht]; exact hw, hS.F ht⟩) hS.2.2 hd
  · cases h
theorem ok_return (hrt : rt = none) (hd : decode cc pc = .ok (.return_, 1)) : ok1 own cc ml rt mn pcs pc 1 oRetV := by
  refine ⟨mo_oRetV, ?_⟩
  intro E d Gs G' r p l e s m args below meth c C0 nx jp cl lv st G hn hj hc h
  obtain ⟨hx, hb, hml, hr, hown, hts, hlk, hmn, hV, hbs⟩ := C0
  unfold oRetV at h
  split at h
  · cases h
    refine ⟨⟨Nat.le_refl _, Nat.le_refl _⟩, fun H locs ls hl hw hS ha hb2 => ?_⟩
    exact W.vret hx hb (hr.trans hrt) (fun t ht hW => ⟨rfl, by rw [ht]; exact hw, hS.F ht⟩) hS.2.2 hd
  · cases h
theorem ok_zreturn (hrt : rt = some .boolean) (hd : decode cc pc = .ok (.ireturn, 1)) : ok1 own cc ml rt mn pcs pc 1 oRetZ := by
  refine ⟨mo_oRetZ, ?_⟩
  intro E d Gs G' r p l e s m args below meth c C0 nx jp cl lv st G hn hj hc h
  obtain ⟨hx, hb, hml, hr, hown, hts, hlk, hmn, hV, hbs⟩ := C0
  unfold oRetZ at h
  split at h
  · split at h
    · rename_i hz
      cases h
      refine ⟨⟨Nat.le_refl _, Nat.le_refl _⟩, fun H locs ls hl hw hS ha hb2 => ?_⟩
      exact W.zret hx hb (hr.trans hrt) (by rcases hz with rfl | rfl <;> rfl) (fun t ht hW => ⟨rfl, by rw [ht]; exact hw, hS.F ht⟩) hS.2.2 hd
    · cases h
  · cases h
theorem ok_breturn (hrt : rt = some .byte ∨ rt = some .char) (hd : decode cc pc = .ok (.ireturn, 1)) : ok1 own cc ml rt mn pcs pc 1 oRetB := by
  refine ⟨mo_oRetB, ?_⟩
  intro E d Gs G' r p l e s m args below meth c C0 nx jp cl lv st G hn hj hc h
  obtain ⟨hx, hb, hml, hr, hown, hts, hlk, hmn, hV, hbs⟩ := C0
  unfold oRetB at h
  split at h
  · split at h
    · rename_i hz
      cases h
      refine ⟨⟨Nat.le_refl _, Nat.le_refl _⟩, fun H locs ls hl hw hS ha hb2 => ?_⟩
      have hna := nar_all _ hz.2
      rw [← x_of hz.1] at hna
      rcases hrt with hrt | hrt
      · exact W.zret hx hb (hr.trans hrt) hna.1 (fun t ht hW => ⟨rfl, by rw [ht]; exact hw, hS.F ht⟩) hS.2.2 hd
      · exact W.zret hx hb (hr.trans hrt) hna.2 (fun t ht hW => ⟨rfl, by rw [ht]; exact hw, hS.F ht⟩) hS.2.2 hd
    · cases h
  · cases h
theorem sw_all {pcs ts : List Nat} {pc dt : Nat} {offs : Array Int} (h : ((List.range ts.length).all fun i => decide ((offs[i]?).map (fun o => (pc : Int) + o) = some ((pcs.getD (ts.getD i dt) 0 : Nat) : Int))) = true) : ∀ i, i < ts.length → ∃ o, offs[i]? = some o ∧ (pc : Int) + o = ((pcs.getD (ts.getD i dt) 0 : Nat) : Int) := by
  intro i hi
  have h1 := List.all_eq_true.mp h i (List.mem_range.mpr hi)
  simp only [decide_eq_true_eq] at h1
  cases ho : offs[i]? with
  | none => rw [ho] at h1; cases h1
  | some o =>
    rw [ho] at h1
    exact ⟨o, rfl, Option.some.inj h1⟩
theorem ok_sw {lo hi df : Int} {offs : Array Int} {len : Nat} {ts : List Nat} {dt : Nat} (hlen : lo + ts.length = hi + 1) (hdf : (pc : Int) + df = ((pcs.getD dt 0 : Nat) : Int)) (hts0 : ∀ i, i < ts.length → ∃ o, offs[i]? = some o ∧ (pc : Int) + o = ((pcs.getD (ts.getD i dt) 0 : Nat) : Int)) (hd : decode cc pc = .ok (.tableswitch df lo hi offs, len)) : ok1 own cc ml rt mn pcs pc len (oSw lo ts dt) := by
  refine ⟨mo_oSw, ?_⟩
  intro E d Gs G' r p l e s m args below meth c C0 nx jp cl lv st G hn hj hc h
  obtain ⟨hx, hb, hml, hr, hown, hts, hlk, hmn, hV, hbs⟩ := C0
  unfold oSw at h
  split at h
  · rename_i x rs
    split at h
    · rename_i hq
      obtain ⟨h1, h2⟩ := hj _ _ _ _ h
      exact ⟨h1, fun H locs ls hl hw hS ha hb2 => lv_tableOut hx hb hd (by omega) hdf (h2 H locs ls hl hw hS ha hb2)⟩
    · rename_i hq
      obtain ⟨h1, h2⟩ := hj _ _ _ _ h
      obtain ⟨o, g1, g2⟩ := hts0 (x.toInt - lo).toNat (by omega)
      exact ⟨h1, fun H locs ls hl hw hS ha hb2 => lv_tableIn hx hb hd (by omega) (by omega) g1 g2 (h2 H locs ls hl hw hS ha hb2)⟩
  · cases h
end OK
