/-! the law's loop -/
section LW
variable {E : hE} {p : Program} {l : Launch} {e : Env} {s : State} {m : MethodId} {below : List Frame} {meth : Method} {c : Code} {b L : Nat} {xs : Nat → Int32} {G : hG} {n : Nat}
theorem lg_case (C : LC E p s m meth c b L xs) (hn : n + 6 ≤ L) (hI : Inv G) (hF : Frz G) (kk : ∀ G2, Inv G2 → Frz G2 → LG E p l e s m below meth c b (lvI E b (nI n)) 1256 [] G2) (k : Nat) (hk : k < 41) : ∃ off : Int, (#[179, 212, 245, 278, 311, 374, 397, 410, 423, 436, 449, 462, 475, 498, 531, 564, 597, 610, 623, 656, 679, 712, 735, 768, 801, 834, 877, 890, 903, 926, 959, 972, 985, 1008, 1042, 1075, 1108, 1141, 1164, 1187, 1210] : Array Int)[k]? = some off ∧ ∃ tgt : Nat, (33 : Int) + off = (tgt : Int) ∧ LG E p l e s m below meth c b (lvI E b (nI n)) tgt [] G := by
  match k, hk with
  | 0, _ => exact ⟨179, rfl, 212, by decide, lc_0 C hn hI hF kk⟩
  | 1, _ => exact ⟨212, rfl, 245, by decide, lc_1 C hn hI hF kk⟩
  | 2, _ => exact ⟨245, rfl, 278, by decide, lc_2 C hn hI hF kk⟩
  | 3, _ => exact ⟨278, rfl, 311, by decide, lc_3 C hn hI hF kk⟩
  | 4, _ => exact ⟨311, rfl, 344, by decide, lc_4 C hn hI hF kk⟩
  | 5, _ => exact ⟨374, rfl, 407, by decide, lc_5 C hn hI hF kk⟩
  | 6, _ => exact ⟨397, rfl, 430, by decide, lc_6 C hn hI hF kk⟩
  | 7, _ => exact ⟨410, rfl, 443, by decide, lc_7 C hn hI hF kk⟩
  | 8, _ => exact ⟨423, rfl, 456, by decide, lc_8 C hn hI hF kk⟩
  | 9, _ => exact ⟨436, rfl, 469, by decide, lc_9 C hn hI hF kk⟩
  | 10, _ => exact ⟨449, rfl, 482, by decide, lc_10 C hn hI hF kk⟩
  | 11, _ => exact ⟨462, rfl, 495, by decide, lc_11 C hn hI hF kk⟩
  | 12, _ => exact ⟨475, rfl, 508, by decide, lc_12 C hn hI hF kk⟩
  | 13, _ => exact ⟨498, rfl, 531, by decide, lc_13 C hn hI hF kk⟩
  | 14, _ => exact ⟨531, rfl, 564, by decide, lc_14 C hn hI hF kk⟩
  | 15, _ => exact ⟨564, rfl, 597, by decide, lc_15 C hn hI hF kk⟩
  | 16, _ => exact ⟨597, rfl, 630, by decide, lc_16 C hn hI hF kk⟩
  | 17, _ => exact ⟨610, rfl, 643, by decide, lc_17 C hn hI hF kk⟩
  | 18, _ => exact ⟨623, rfl, 656, by decide, lc_18 C hn hI hF kk⟩
  | 19, _ => exact ⟨656, rfl, 689, by decide, lc_19 C hn hI hF kk⟩
  | 20, _ => exact ⟨679, rfl, 712, by decide, lc_20 C hn hI hF kk⟩
  | 21, _ => exact ⟨712, rfl, 745, by decide, lc_21 C hn hI hF kk⟩
  | 22, _ => exact ⟨735, rfl, 768, by decide, lc_22 C hn hI hF kk⟩
  | 23, _ => exact ⟨768, rfl, 801, by decide, lc_23 C hn hI hF kk⟩
  | 24, _ => exact ⟨801, rfl, 834, by decide, lc_24 C hn hI hF kk⟩
  | 25, _ => exact ⟨834, rfl, 867, by decide, lc_25 C hn hI hF kk⟩
  | 26, _ => exact ⟨877, rfl, 910, by decide, lc_26 C hn hI hF kk⟩
  | 27, _ => exact ⟨890, rfl, 923, by decide, lc_27 C hn hI hF kk⟩
  | 28, _ => exact ⟨903, rfl, 936, by decide, lc_28 C hn hI hF kk⟩
  | 29, _ => exact ⟨926, rfl, 959, by decide, lc_29 C hn hI hF kk⟩
  | 30, _ => exact ⟨959, rfl, 992, by decide, lc_30 C hn hI hF kk⟩
  | 31, _ => exact ⟨972, rfl, 1005, by decide, lc_31 C hn hI hF kk⟩
  | 32, _ => exact ⟨985, rfl, 1018, by decide, lc_32 C hn hI hF kk⟩
  | 33, _ => exact ⟨1008, rfl, 1041, by decide, lc_33 C hn hI hF kk⟩
  | 34, _ => exact ⟨1042, rfl, 1075, by decide, lc_34 C hn hI hF kk⟩
  | 35, _ => exact ⟨1075, rfl, 1108, by decide, lc_35 C hn hI hF kk⟩
  | 36, _ => exact ⟨1108, rfl, 1141, by decide, lc_36 C hn hI hF kk⟩
  | 37, _ => exact ⟨1141, rfl, 1174, by decide, lc_37 C hn hI hF kk⟩
  | 38, _ => exact ⟨1164, rfl, 1197, by decide, lc_38 C hn hI hF kk⟩
  | 39, _ => exact ⟨1187, rfl, 1220, by decide, lc_39 C hn hI hF kk⟩
  | 40, _ => exact ⟨1210, rfl, 1243, by decide, lc_40 C hn hI hF kk⟩
  | k + 41, h => exact absurd h (by omega)
theorem lg_switch (C : LC E p s m meth c b L xs) (hn : n + 6 ≤ L) (hI : Inv G) (hF : Frz G) (kk : ∀ G2, Inv G2 → Frz G2 → LG E p l e s m below meth c b (lvI E b (nI n)) 1256 [] G2) (x : Int32) : LG E p l e s m below meth c b (lvI E b (nI n)) 33 [.int x] G := by
  intro H locs ls hl hw hS
  by_cases h1 : x.toInt < 0
  · exact lv_tableOut (tgt := 1256) C.1.1 C.1.2.1 d_law_33 (Or.inl h1) (by decide) (kk G hI hF H locs ls hl hw hS)
  · by_cases h2 : 40 < x.toInt
    · exact lv_tableOut (tgt := 1256) C.1.1 C.1.2.1 d_law_33 (Or.inr h2) (by decide) (kk G hI hF H locs ls hl hw hS)
    · obtain ⟨off, ho, tgt, ht, hk⟩ := lg_case (l := l) (e := e) (below := below) C hn hI hF kk x.toInt.toNat (by omega)
      refine lv_tableIn C.1.1 C.1.2.1 d_law_33 h1 h2 (off := off) (tgt := tgt) ?_ ht (hk H locs ls hl hw hS)
      rw [show (x.toInt - 0).toNat = x.toInt.toNat by rw [Int.sub_zero]]
      exact ho
theorem lg_loop (C : LC E p s m meth c b L xs) : ∀ (f n : Nat), n ≤ L + 6 → L + 7 ≤ n + f → ∀ G : hG, Inv G → Frz G → LG E p l e s m below meth c b (lvI E b (nI n)) 18 [] G
  | 0, n, h1, h2, _, _, _ => absurd h2 (by omega)
  | f + 1, n, h1, h2, G, hI, hF => lg_head C ⟨by rw [hF.1]; omega, by rw [hF.2.1]; omega⟩ h1 (fun hle => lg_switch C hle hI hF (fun G2 hI2 hF2 => lg_next C (lg_loop C f (n + 6) (by omega) (by omega) G2 hI2 hF2)) _)
end LW
