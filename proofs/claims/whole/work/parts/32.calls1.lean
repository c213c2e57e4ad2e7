abbrev rm_X5_isLetter : Room := { frames := 1, cells := 0, slots := 0, locals := 22 }
theorem fl_X5_isLetter_10 : Cond.fieldLink RX5 10 "WalkPasses" "desk" "LWalkPasses$Desk;" ∈ wsX5_isLetter := by decide +kernel
theorem iw_X5_isLetter_1 : ∀ w ∈ u_ws RX1 TX1 10, w ∈ wsX5_isLetter := by decide +kernel
theorem iw_X5_isLetter_5 : ∀ w ∈ u_ws RX5 TX5 6, w ∈ wsX5_isLetter := by decide +kernel
set_option maxHeartbeats 4000000 in
set_option maxRecDepth 100000 in
theorem k_X5_isLetter (l : Launch) (D : va_G) (cy : Nat → ClassId) (xo d ps bs wt : Nat → Nat) (z : Nat) (ki : Int) (lt mn vs : Int) (pt tk mr od pl rm cd : Int → Int) (v : Int) (hlt : 0 ≤ lt ∧ lt ≤ 24) (hv : inR v) : CtI l yX5_isLetter wsX5_isLetter rm_X5_isLetter D (tyL cy) [.ref (xo 0), .int (iI v)] [oX xo d ps bs wt ki, oD d lt mn vs, ai (cy 0) (d 1) 24 pt, ai (cy 0) (d 2) 24 tk, ai (cy 0) (d 3) 24 mr, ai (cy 0) (d 4) 10 od, ai (cy 0) (d 5) 10 pl, ai (cy 0) (d 6) 4 rm, ai (cy 0) (d 7) 10 cd] z (fun (r : Int) (u : Unit) => (r = 1 ∧ 0 ≤ v ∧ v < lt) ∨ (r = 0 ∧ (v < 0 ∨ lt ≤ v))) (fun (u : Unit) => [oX xo d ps bs wt ki, oD d lt mn vs, ai (cy 0) (d 1) 24 pt, ai (cy 0) (d 2) 24 tk, ai (cy 0) (d 3) 24 mr, ai (cy 0) (d 4) 10 od, ai (cy 0) (d 5) 10 pl, ai (cy 0) (d 6) 4 rm, ai (cy 0) (d 7) 10 cd]) 0 0 := by
  refine ct_z (cc := cX5_isLetter) (maxL := 2) (by decide) rfl (Nat.le_of_ble_eq_true rfl) ?_
  intro p e s m args below meth c A Q H locs ls hx hb hml hown hin hts hK hN hP hD hS hA hl hret
  replace hl : lv_has ls 2 [(0, .ref (xo 0)), (1, .int (iI v))] := hl
  replace hown : s.vm.findClass RX5 = some m.cls := hown
  refine lv_iload_n hx hb dX5_isLetter_0 rfl (lv_at hl 1 rfl) ?_
  refine r_const hx hb dX5_isLetter_1 ?_
  refine lv_aload_n hx hb dX5_isLetter_2 rfl (lv_at hl 0 rfl) ?_
  refine va_get (D := D) (C := RX5) (T := TX5) (N := 6) (ci := 5) (v := .ref (d 0)) hx hb hts iw_X5_isLetter_5 hown hK hP 0 rfl rfl 0 (by decide) (hts _ fl_X5_isLetter_10) (fun _ h9 => h9) rfl dX5_isLetter_3 ?_
  refine va_getN (D := D) (C := RX1) (T := TX1) (N := 10) (ci := 1) (v := .int (iI lt)) hx hb hts iw_X5_isLetter_1 hown hK hP 1 rfl rfl 0 (by decide) (nfX5_49 hN) (fun _ h9 => h9) rfl dX5_isLetter_6 ?_
  refine r_const hx hb dX5_isLetter_9 ?_
  refine r_sub hx hb dX5_isLetter_10 ?_
  have M_11 := k_X5_isWithin l D cy  H.size v 0 (lt - 1) (hv) (⟨by omega, by omega⟩) (⟨by omega, by omega⟩)
  refine kS_i (wr := [oX xo d ps bs wt ki, oD d lt mn vs, ai (cy 0) (d 1) 24 pt, ai (cy 0) (d 2) 24 tk, ai (cy 0) (d 3) 24 mr, ai (cy 0) (d 4) 10 od, ai (cy 0) (d 5) 10 pl, ai (cy 0) (d 6) 4 rm, ai (cy 0) (d 7) 10 cd]) (As := [.int (iI v), .int (iI 0), .int (iI (lt - 1))]) (rest := []) ⟨hx, hb, hml, hown, hts⟩ M_11 (va_cwS 3 hts gX5_isLetter_X5_isWithin rfl rfl rfl (by decide +kernel) ⟨Nat.le_of_ble_eq_true rfl, Nat.le_of_ble_eq_true rfl⟩) hN hK hP hD hS hA [] [0, 1, 2, 3, 4, 5, 6, 7, 8] rfl rfl (by decide) (by decide) (by decide) rfl hl.1 rfl (Nat.le_of_ble_eq_true rfl) dX5_isLetter_11 ⟨Nat.le_of_ble_eq_true rfl, Nat.le_of_ble_eq_true rfl⟩ (fun r_11 u_11 H locs hw_11 hP hD hS => ?_)
  replace hP : va_P D vwCl [oX xo d ps bs wt ki, oD d lt mn vs, ai (cy 0) (d 1) 24 pt, ai (cy 0) (d 2) 24 tk, ai (cy 0) (d 3) 24 mr, ai (cy 0) (d 4) 10 od, ai (cy 0) (d 5) 10 pl, ai (cy 0) (d 6) 4 rm, ai (cy 0) (d 7) 10 cd] H := hP
  replace hD : va_D A [oX xo d ps bs wt ki, oD d lt mn vs, ai (cy 0) (d 1) 24 pt, ai (cy 0) (d 2) 24 tk, ai (cy 0) (d 3) 24 mr, ai (cy 0) (d 4) 10 od, ai (cy 0) (d 5) 10 pl, ai (cy 0) (d 6) 4 rm, ai (cy 0) (d 7) 10 cd] := hD
  exact hret [0, 1, 2, 3, 4, 5, 6, 7, 8] () dX5_isLetter_14 hP hD hS (by decide) rfl (by omega) (by omega)
abbrev rm_X5_isStacker : Room := { frames := 1, cells := 0, slots := 0, locals := 22 }
theorem fl_X5_isStacker_10 : Cond.fieldLink RX5 10 "WalkPasses" "desk" "LWalkPasses$Desk;" ∈ wsX5_isStacker := by decide +kernel
theorem iw_X5_isStacker_1 : ∀ w ∈ u_ws RX1 TX1 10, w ∈ wsX5_isStacker := by decide +kernel
theorem iw_X5_isStacker_5 : ∀ w ∈ u_ws RX5 TX5 6, w ∈ wsX5_isStacker := by decide +kernel
set_option maxHeartbeats 4000000 in
set_option maxRecDepth 100000 in
theorem k_X5_isStacker (l : Launch) (D : va_G) (cy : Nat → ClassId) (xo d ps bs wt : Nat → Nat) (z : Nat) (ki : Int) (lt mn vs : Int) (pt tk mr od pl rm cd : Int → Int) (v : Int) (hmn : 2 ≤ mn ∧ mn ≤ 4) (hv : inR v) : CtI l yX5_isStacker wsX5_isStacker rm_X5_isStacker D (tyL cy) [.ref (xo 0), .int (iI v)] [oX xo d ps bs wt ki, oD d lt mn vs, ai (cy 0) (d 1) 24 pt, ai (cy 0) (d 2) 24 tk, ai (cy 0) (d 3) 24 mr, ai (cy 0) (d 4) 10 od, ai (cy 0) (d 5) 10 pl, ai (cy 0) (d 6) 4 rm, ai (cy 0) (d 7) 10 cd] z (fun (r : Int) (u : Unit) => (r = 1 ∧ 0 ≤ v ∧ v < mn) ∨ (r = 0 ∧ (v < 0 ∨ mn ≤ v))) (fun (u : Unit) => [oX xo d ps bs wt ki, oD d lt mn vs, ai (cy 0) (d 1) 24 pt, ai (cy 0) (d 2) 24 tk, ai (cy 0) (d 3) 24 mr, ai (cy 0) (d 4) 10 od, ai (cy 0) (d 5) 10 pl, ai (cy 0) (d 6) 4 rm, ai (cy 0) (d 7) 10 cd]) 0 0 := by
  refine ct_z (cc := cX5_isStacker) (maxL := 2) (by decide) rfl (Nat.le_of_ble_eq_true rfl) ?_
  intro p e s m args below meth c A Q H locs ls hx hb hml hown hin hts hK hN hP hD hS hA hl hret
  replace hl : lv_has ls 2 [(0, .ref (xo 0)), (1, .int (iI v))] := hl
  replace hown : s.vm.findClass RX5 = some m.cls := hown
  refine lv_iload_n hx hb dX5_isStacker_0 rfl (lv_at hl 1 rfl) ?_
  refine r_const hx hb dX5_isStacker_1 ?_
  refine lv_aload_n hx hb dX5_isStacker_2 rfl (lv_at hl 0 rfl) ?_
  refine va_get (D := D) (C := RX5) (T := TX5) (N := 6) (ci := 5) (v := .ref (d 0)) hx hb hts iw_X5_isStacker_5 hown hK hP 0 rfl rfl 0 (by decide) (hts _ fl_X5_isStacker_10) (fun _ h9 => h9) rfl dX5_isStacker_3 ?_
  refine va_getN (D := D) (C := RX1) (T := TX1) (N := 10) (ci := 1) (v := .int (iI mn)) hx hb hts iw_X5_isStacker_1 hown hK hP 1 rfl rfl 6 (by decide) (nfX5_82 hN) (fun _ h9 => h9) rfl dX5_isStacker_6 ?_
  refine r_const hx hb dX5_isStacker_9 ?_
  refine r_sub hx hb dX5_isStacker_10 ?_
  have M_11 := k_X5_isWithin l D cy  H.size v 0 (mn - 1) (hv) (⟨by omega, by omega⟩) (⟨by omega, by omega⟩)
  refine kS_i (wr := [oX xo d ps bs wt ki, oD d lt mn vs, ai (cy 0) (d 1) 24 pt, ai (cy 0) (d 2) 24 tk, ai (cy 0) (d 3) 24 mr, ai (cy 0) (d 4) 10 od, ai (cy 0) (d 5) 10 pl, ai (cy 0) (d 6) 4 rm, ai (cy 0) (d 7) 10 cd]) (As := [.int (iI v), .int (iI 0), .int (iI (mn - 1))]) (rest := []) ⟨hx, hb, hml, hown, hts⟩ M_11 (va_cwS 3 hts gX5_isStacker_X5_isWithin rfl rfl rfl (by decide +kernel) ⟨Nat.le_of_ble_eq_true rfl, Nat.le_of_ble_eq_true rfl⟩) hN hK hP hD hS hA [] [0, 1, 2, 3, 4, 5, 6, 7, 8] rfl rfl (by decide) (by decide) (by decide) rfl hl.1 rfl (Nat.le_of_ble_eq_true rfl) dX5_isStacker_11 ⟨Nat.le_of_ble_eq_true rfl, Nat.le_of_ble_eq_true rfl⟩ (fun r_11 u_11 H locs hw_11 hP hD hS => ?_)
  replace hP : va_P D vwCl [oX xo d ps bs wt ki, oD d lt mn vs, ai (cy 0) (d 1) 24 pt, ai (cy 0) (d 2) 24 tk, ai (cy 0) (d 3) 24 mr, ai (cy 0) (d 4) 10 od, ai (cy 0) (d 5) 10 pl, ai (cy 0) (d 6) 4 rm, ai (cy 0) (d 7) 10 cd] H := hP
  replace hD : va_D A [oX xo d ps bs wt ki, oD d lt mn vs, ai (cy 0) (d 1) 24 pt, ai (cy 0) (d 2) 24 tk, ai (cy 0) (d 3) 24 mr, ai (cy 0) (d 4) 10 od, ai (cy 0) (d 5) 10 pl, ai (cy 0) (d 6) 4 rm, ai (cy 0) (d 7) 10 cd] := hD
  exact hret [0, 1, 2, 3, 4, 5, 6, 7, 8] () dX5_isStacker_14 hP hD hS (by decide) rfl (by omega) (by omega)
abbrev rm_X5_hasPlanCodes : Room := { frames := 1, cells := 0, slots := 0, locals := 23 }
theorem fl_X5_hasPlanCodes_10 : Cond.fieldLink RX5 10 "WalkPasses" "desk" "LWalkPasses$Desk;" ∈ wsX5_hasPlanCodes := by decide +kernel
theorem iw_X5_hasPlanCodes_1 : ∀ w ∈ u_ws RX1 TX1 10, w ∈ wsX5_hasPlanCodes := by decide +kernel
theorem iw_X5_hasPlanCodes_5 : ∀ w ∈ u_ws RX5 TX5 6, w ∈ wsX5_hasPlanCodes := by decide +kernel
set_option maxHeartbeats 4000000 in
set_option maxRecDepth 100000 in
theorem k_X5_hasPlanCodes (l : Launch) (D : va_G) (cy : Nat → ClassId) (xo d ps bs wt : Nat → Nat) (z : Nat) (ki : Int) (lt mn vs : Int) (pt tk mr od pl rm cd : Int → Int) (k : Int) (hmn : 2 ≤ mn ∧ mn ≤ 4) (hk : 1 ≤ k ∧ k ≤ 3) : CtI l yX5_hasPlanCodes wsX5_hasPlanCodes rm_X5_hasPlanCodes D (tyL cy) [.ref (xo 0), .int (iI k)] [oX xo d ps bs wt ki, oD d lt mn vs, ai (cy 0) (d 1) 24 pt, ai (cy 0) (d 2) 24 tk, ai (cy 0) (d 3) 24 mr, ai (cy 0) (d 4) 10 od, ai (cy 0) (d 5) 10 pl, ai (cy 0) (d 6) 4 rm, ai (cy 0) (d 7) 10 cd] z (fun (r : Int) (u : Unit) => (r = 1 ∧ pw mn k.toNat ≤ 16) ∨ (r = 0 ∧ 16 < pw mn k.toNat)) (fun (u : Unit) => [oX xo d ps bs wt ki, oD d lt mn vs, ai (cy 0) (d 1) 24 pt, ai (cy 0) (d 2) 24 tk, ai (cy 0) (d 3) 24 mr, ai (cy 0) (d 4) 10 od, ai (cy 0) (d 5) 10 pl, ai (cy 0) (d 6) 4 rm, ai (cy 0) (d 7) 10 cd]) 0 0 := by
  refine ct_z (cc := cX5_hasPlanCodes) (maxL := 2) (by decide) rfl (Nat.le_of_ble_eq_true rfl) ?_
  intro p e s m args below meth c A Q H locs ls hx hb hml hown hin hts hK hN hP hD hS hA hl hret
  replace hl : lv_has ls 2 [(0, .ref (xo 0)), (1, .int (iI k))] := hl
  replace hown : s.vm.findClass RX5 = some m.cls := hown
  have hpb := pw_b hmn.1 hmn.2 (n := k.toNat) (by omega)
  refine lv_aload_n hx hb dX5_hasPlanCodes_0 rfl (lv_at hl 0 rfl) ?_
  refine va_get (D := D) (C := RX5) (T := TX5) (N := 6) (ci := 5) (v := .ref (d 0)) hx hb hts iw_X5_hasPlanCodes_5 hown hK hP 0 rfl rfl 0 (by decide) (hts _ fl_X5_hasPlanCodes_10) (fun _ h9 => h9) rfl dX5_hasPlanCodes_1 ?_
  refine va_getN (D := D) (C := RX1) (T := TX1) (N := 10) (ci := 1) (v := .int (iI mn)) hx hb hts iw_X5_hasPlanCodes_1 hown hK hP 1 rfl rfl 6 (by decide) (nfX5_82 hN) (fun _ h9 => h9) rfl dX5_hasPlanCodes_4 ?_
  refine lv_iload_n hx hb dX5_hasPlanCodes_7 rfl (lv_at hl 1 rfl) ?_
  have M_8 := k_X5_power l D cy  H.size mn k (by omega)
  refine kS_i (wr := [oX xo d ps bs wt ki, oD d lt mn vs, ai (cy 0) (d 1) 24 pt, ai (cy 0) (d 2) 24 tk, ai (cy 0) (d 3) 24 mr, ai (cy 0) (d 4) 10 od, ai (cy 0) (d 5) 10 pl, ai (cy 0) (d 6) 4 rm, ai (cy 0) (d 7) 10 cd]) (As := [.int (iI mn), .int (iI k)]) (rest := []) ⟨hx, hb, hml, hown, hts⟩ M_8 (va_cwS 2 hts gX5_hasPlanCodes_X5_power rfl rfl rfl (by decide +kernel) ⟨Nat.le_of_ble_eq_true rfl, Nat.le_of_ble_eq_true rfl⟩) hN hK hP hD hS hA [] [0, 1, 2, 3, 4, 5, 6, 7, 8] rfl rfl (by decide) (by decide) (by decide) rfl hl.1 rfl (Nat.le_of_ble_eq_true rfl) dX5_hasPlanCodes_8 ⟨Nat.le_of_ble_eq_true rfl, Nat.le_of_ble_eq_true rfl⟩ (fun r_8 u_8 H locs hw_8 hP hD hS => ?_)
  replace hP : va_P D vwCl [oX xo d ps bs wt ki, oD d lt mn vs, ai (cy 0) (d 1) 24 pt, ai (cy 0) (d 2) 24 tk, ai (cy 0) (d 3) 24 mr, ai (cy 0) (d 4) 10 od, ai (cy 0) (d 5) 10 pl, ai (cy 0) (d 6) 4 rm, ai (cy 0) (d 7) 10 cd] H := hP
  replace hD : va_D A [oX xo d ps bs wt ki, oD d lt mn vs, ai (cy 0) (d 1) 24 pt, ai (cy 0) (d 2) 24 tk, ai (cy 0) (d 3) 24 mr, ai (cy 0) (d 4) 10 od, ai (cy 0) (d 5) 10 pl, ai (cy 0) (d 6) 4 rm, ai (cy 0) (d 7) 10 cd] := hD
  refine r_bip hx hb (16) dX5_hasPlanCodes_11 (by decide) ?_
  refine r_gt hx hb 20 dX5_hasPlanCodes_13 (by decide) ⟨by omega, by omega⟩ ⟨by omega, by omega⟩ (fun c_13 => ?_) (fun c_13 => ?_)
  ·
    refine r_const hx hb dX5_hasPlanCodes_20 ?_
    exact hret [0, 1, 2, 3, 4, 5, 6, 7, 8] () dX5_hasPlanCodes_21 hP hD hS (by decide) rfl (by omega) (by omega)
  ·
    refine r_const hx hb dX5_hasPlanCodes_16 ?_
    refine lv_goto (tgt := 21) hx hb dX5_hasPlanCodes_17 (by decide) ?_
    exact hret [0, 1, 2, 3, 4, 5, 6, 7, 8] () dX5_hasPlanCodes_21 hP hD hS (by decide) rfl (by omega) (by omega)
abbrev rm_X5_letter : Room := { frames := 2, cells := 0, slots := 0, locals := 42 }
theorem fl_X5_letter_10 : Cond.fieldLink RX5 10 "WalkPasses" "desk" "LWalkPasses$Desk;" ∈ wsX5_letter := by decide +kernel
theorem iw_X5_letter_1 : ∀ w ∈ u_ws RX1 TX1 10, w ∈ wsX5_letter := by decide +kernel
theorem iw_X5_letter_5 : ∀ w ∈ u_ws RX5 TX5 6, w ∈ wsX5_letter := by decide +kernel
set_option maxHeartbeats 4000000 in
set_option maxRecDepth 100000 in
theorem k_X5_letter (l : Launch) (D : va_G) (cy : Nat → ClassId) (xo d ps bs wt : Nat → Nat) (z : Nat) (ki : Int) (lt mn vs : Int) (pt tk mr od pl rm cd : Int → Int) (q t : Int) (hI : DI lt mn pt tk mr od pl rm cd) (hq : inR q) (ht9 : inR t) : CtI l yX5_letter wsX5_letter rm_X5_letter D (tyL cy) [.ref (xo 0), .int (iI q), .int (iI t)] [oX xo d ps bs wt ki, oD d lt mn vs, ai (cy 0) (d 1) 24 pt, ai (cy 0) (d 2) 24 tk, ai (cy 0) (d 3) 24 mr, ai (cy 0) (d 4) 10 od, ai (cy 0) (d 5) 10 pl, ai (cy 0) (d 6) 4 rm, ai (cy 0) (d 7) 10 cd] z (fun (r : Int) (u : Int × Int × (Int → Int) × (Int → Int) × (Int → Int)) => r = fLetter lt q t ∧ ((((0 ≤ q ∧ q ≤ 9) ∧ (1 ≤ t ∧ t ≤ 9) ∧ lt < 24) ∧ u = (lt + 1, vs + 1, ud pt lt q, ud tk lt t, ud mr lt 0)) ∨ (¬ ((0 ≤ q ∧ q ≤ 9) ∧ (1 ≤ t ∧ t ≤ 9) ∧ lt < 24) ∧ u = (lt, vs, pt, tk, mr)))) (fun (u : Int × Int × (Int → Int) × (Int → Int) × (Int → Int)) => [oX xo d ps bs wt ki, oD d u.1 mn u.2.1, ai (cy 0) (d 1) 24 u.2.2.1, ai (cy 0) (d 2) 24 u.2.2.2.1, ai (cy 0) (d 3) 24 u.2.2.2.2, ai (cy 0) (d 4) 10 od, ai (cy 0) (d 5) 10 pl, ai (cy 0) (d 6) 4 rm, ai (cy 0) (d 7) 10 cd]) 0 0 := by
  refine ct_i (cc := cX5_letter) (maxL := 3) (by decide) rfl (Nat.le_of_ble_eq_true rfl) ?_
  intro p e s m args below meth c A Q H locs ls hx hb hml hown hin hts hK hN hP hD hS hA hl hret
  replace hl : lv_has ls 3 [(0, .ref (xo 0)), (1, .int (iI q)), (2, .int (iI t))] := hl
  replace hown : s.vm.findClass RX5 = some m.cls := hown
  obtain ⟨⟨⟨hlt0, hlt1⟩, hmn0, hmn1⟩, ⟨hpt, htk, hmr⟩, ⟨hod, hpl, hpo, hop⟩, hrm, hcd⟩ := id hI
  refine lv_iload_n hx hb dX5_letter_0 rfl (lv_at hl 1 rfl) ?_
  have M_1 := k_X5_isPoint l D cy  H.size q (hq)
  refine kS_i (wr := [oX xo d ps bs wt ki, oD d lt mn vs, ai (cy 0) (d 1) 24 pt, ai (cy 0) (d 2) 24 tk, ai (cy 0) (d 3) 24 mr, ai (cy 0) (d 4) 10 od, ai (cy 0) (d 5) 10 pl, ai (cy 0) (d 6) 4 rm, ai (cy 0) (d 7) 10 cd]) (As := [.int (iI q)]) (rest := []) ⟨hx, hb, hml, hown, hts⟩ M_1 (va_cwS 1 hts gX5_letter_X5_isPoint rfl rfl rfl (by decide +kernel) ⟨Nat.le_of_ble_eq_true rfl, Nat.le_of_ble_eq_true rfl⟩) hN hK hP hD hS hA [] [0, 1, 2, 3, 4, 5, 6, 7, 8] rfl rfl (by decide) (by decide) (by decide) rfl hl.1 rfl (Nat.le_of_ble_eq_true rfl) dX5_letter_1 ⟨Nat.le_of_ble_eq_true rfl, Nat.le_of_ble_eq_true rfl⟩ (fun r_1 u_1 H locs hw_1 hP hD hS => ?_)
  replace hP : va_P D vwCl [oX xo d ps bs wt ki, oD d lt mn vs, ai (cy 0) (d 1) 24 pt, ai (cy 0) (d 2) 24 tk, ai (cy 0) (d 3) 24 mr, ai (cy 0) (d 4) 10 od, ai (cy 0) (d 5) 10 pl, ai (cy 0) (d 6) 4 rm, ai (cy 0) (d 7) 10 cd] H := hP
  replace hD : va_D A [oX xo d ps bs wt ki, oD d lt mn vs, ai (cy 0) (d 1) 24 pt, ai (cy 0) (d 2) 24 tk, ai (cy 0) (d 3) 24 mr, ai (cy 0) (d 4) 10 od, ai (cy 0) (d 5) 10 pl, ai (cy 0) (d 6) 4 rm, ai (cy 0) (d 7) 10 cd] := hD
  refine r_ne0 hx hb 9 dX5_letter_4 (by decide) ⟨by omega, by omega⟩ (fun c_4 => ?_) (fun c_4 => ?_)
  ·
    refine lv_iload_n hx hb dX5_letter_9 rfl (lv_at hl 2 rfl) ?_
    refine r_const hx hb dX5_letter_10 ?_
    refine r_bip hx hb (9) dX5_letter_11 (by decide) ?_
    have M_13 := k_X5_isWithin l D cy  H.size t 1 9 (ht9) (⟨by omega, by omega⟩) (⟨by omega, by omega⟩)
    refine kS_i (wr := [oX xo d ps bs wt ki, oD d lt mn vs, ai (cy 0) (d 1) 24 pt, ai (cy 0) (d 2) 24 tk, ai (cy 0) (d 3) 24 mr, ai (cy 0) (d 4) 10 od, ai (cy 0) (d 5) 10 pl, ai (cy 0) (d 6) 4 rm, ai (cy 0) (d 7) 10 cd]) (As := [.int (iI t), .int (iI 1), .int (iI 9)]) (rest := []) ⟨hx, hb, hml, hown, hts⟩ M_13 (va_cwS 3 hts gX5_letter_X5_isWithin rfl rfl rfl (by decide +kernel) ⟨Nat.le_of_ble_eq_true rfl, Nat.le_of_ble_eq_true rfl⟩) hN hK hP hD hS hA [] [0, 1, 2, 3, 4, 5, 6, 7, 8] rfl rfl (by decide) (by decide) (by decide) rfl hl.1 rfl (Nat.le_of_ble_eq_true rfl) dX5_letter_13 ⟨Nat.le_of_ble_eq_true rfl, Nat.le_of_ble_eq_true rfl⟩ (fun r_13 u_13 H locs hw_13 hP hD hS => ?_)
    replace hP : va_P D vwCl [oX xo d ps bs wt ki, oD d lt mn vs, ai (cy 0) (d 1) 24 pt, ai (cy 0) (d 2) 24 tk, ai (cy 0) (d 3) 24 mr, ai (cy 0) (d 4) 10 od, ai (cy 0) (d 5) 10 pl, ai (cy 0) (d 6) 4 rm, ai (cy 0) (d 7) 10 cd] H := hP
    replace hD : va_D A [oX xo d ps bs wt ki, oD d lt mn vs, ai (cy 0) (d 1) 24 pt, ai (cy 0) (d 2) 24 tk, ai (cy 0) (d 3) 24 mr, ai (cy 0) (d 4) 10 od, ai (cy 0) (d 5) 10 pl, ai (cy 0) (d 6) 4 rm, ai (cy 0) (d 7) 10 cd] := hD
    refine r_ne0 hx hb 22 dX5_letter_16 (by decide) ⟨by omega, by omega⟩ (fun c_16 => ?_) (fun c_16 => ?_)
    ·
      refine lv_aload_n hx hb dX5_letter_22 rfl (lv_at hl 0 rfl) ?_
      refine va_get (D := D) (C := RX5) (T := TX5) (N := 6) (ci := 5) (v := .ref (d 0)) hx hb hts iw_X5_letter_5 hown hK hP 0 rfl rfl 0 (by decide) (hts _ fl_X5_letter_10) (fun _ h9 => h9) rfl dX5_letter_23 ?_
      refine va_getN (D := D) (C := RX1) (T := TX1) (N := 10) (ci := 1) (v := .int (iI lt)) hx hb hts iw_X5_letter_1 hown hK hP 1 rfl rfl 0 (by decide) (nfX5_49 hN) (fun _ h9 => h9) rfl dX5_letter_26 ?_
      refine r_bip hx hb (24) dX5_letter_29 (by decide) ?_
      refine r_lt hx hb 37 dX5_letter_31 (by decide) ⟨by omega, by omega⟩ ⟨by omega, by omega⟩ (fun c_31 => ?_) (fun c_31 => ?_)
      ·
        refine lv_aload_n hx hb dX5_letter_37 rfl (lv_at hl 0 rfl) ?_
        refine va_get (D := D) (C := RX5) (T := TX5) (N := 6) (ci := 5) (v := .ref (d 0)) hx hb hts iw_X5_letter_5 hown hK hP 0 rfl rfl 0 (by decide) (hts _ fl_X5_letter_10) (fun _ h9 => h9) rfl dX5_letter_38 ?_
        refine lv_iload_n hx hb dX5_letter_41 rfl (lv_at hl 1 rfl) ?_
        refine lv_iload_n hx hb dX5_letter_42 rfl (lv_at hl 2 rfl) ?_
        have M_43 := k_X1_add l D cy d H.size lt mn vs pt tk mr od pl rm cd q t (hI) (by omega)
        refine kV_i (wr := [oX xo d ps bs wt ki]) (As := [.int (iI q), .int (iI t)]) (rest := []) (q := (RX1, TX1, 10)) (ci := 1) ⟨hx, hb, hml, hown, hts⟩ M_43 1 rfl rfl (cwV 2 hts gX5_letter_X1_add rfl rfl rfl (by decide +kernel) ⟨Nat.le_of_ble_eq_true rfl, Nat.le_of_ble_eq_true rfl⟩) hN hK hP hD hS hA [1, 2, 3, 4, 5, 6, 7, 8] [0] rfl rfl (by decide) (by decide) (by decide) rfl hl.1 rfl (Nat.le_of_ble_eq_true rfl) dX5_letter_43 ⟨Nat.le_of_ble_eq_true rfl, Nat.le_of_ble_eq_true rfl⟩ (fun r_43 u_43 H locs hw_43 hP hD hS => ?_)
        replace hP : va_P D vwCl [oX xo d ps bs wt ki, oD d (lt + 1) mn (vs + 1), ai (cy 0) (d 1) 24 (ud pt lt q), ai (cy 0) (d 2) 24 (ud tk lt t), ai (cy 0) (d 3) 24 (ud mr lt 0), ai (cy 0) (d 4) 10 od, ai (cy 0) (d 5) 10 pl, ai (cy 0) (d 6) 4 rm, ai (cy 0) (d 7) 10 cd] H := hP
        replace hD : va_D A [oX xo d ps bs wt ki, oD d (lt + 1) mn (vs + 1), ai (cy 0) (d 1) 24 (ud pt lt q), ai (cy 0) (d 2) 24 (ud tk lt t), ai (cy 0) (d 3) 24 (ud mr lt 0), ai (cy 0) (d 4) 10 od, ai (cy 0) (d 5) 10 pl, ai (cy 0) (d 6) 4 rm, ai (cy 0) (d 7) 10 cd] := hD
        exact hret [0, 1, 2, 3, 4, 5, 6, 7, 8] (lt + 1, vs + 1, ud pt lt q, ud tk lt t, ud mr lt 0) dX5_letter_46 hP hD hS (by decide) rfl (⟨by unfold fLetter; (repeat' split) <;> omega, by first | exact Or.inl ⟨by omega, rfl⟩ | exact Or.inr ⟨by omega, rfl⟩⟩)
      ·
        refine r_bip hx hb (-4) dX5_letter_34 (by decide) ?_
        exact hret [0, 1, 2, 3, 4, 5, 6, 7, 8] (lt, vs, pt, tk, mr) dX5_letter_36 hP hD hS (by decide) rfl (⟨by unfold fLetter; (repeat' split) <;> omega, by first | exact Or.inl ⟨by omega, rfl⟩ | exact Or.inr ⟨by omega, rfl⟩⟩)
    ·
      refine r_bip hx hb (-2) dX5_letter_19 (by decide) ?_
      exact hret [0, 1, 2, 3, 4, 5, 6, 7, 8] (lt, vs, pt, tk, mr) dX5_letter_21 hP hD hS (by decide) rfl (⟨by unfold fLetter; (repeat' split) <;> omega, by first | exact Or.inl ⟨by omega, rfl⟩ | exact Or.inr ⟨by omega, rfl⟩⟩)
  ·
    refine r_const hx hb dX5_letter_7 ?_
    exact hret [0, 1, 2, 3, 4, 5, 6, 7, 8] (lt, vs, pt, tk, mr) dX5_letter_8 hP hD hS (by decide) rfl (⟨by unfold fLetter; (repeat' split) <;> omega, by first | exact Or.inl ⟨by omega, rfl⟩ | exact Or.inr ⟨by omega, rfl⟩⟩)
abbrev rm_X5_misread : Room := { frames := 2, cells := 0, slots := 0, locals := 43 }
theorem fl_X5_misread_10 : Cond.fieldLink RX5 10 "WalkPasses" "desk" "LWalkPasses$Desk;" ∈ wsX5_misread := by decide +kernel
theorem iw_X5_misread_5 : ∀ w ∈ u_ws RX5 TX5 6, w ∈ wsX5_misread := by decide +kernel
set_option maxHeartbeats 4000000 in
set_option maxRecDepth 100000 in
theorem k_X5_misread (l : Launch) (D : va_G) (cy : Nat → ClassId) (xo d ps bs wt : Nat → Nat) (z : Nat) (ki : Int) (lt mn vs : Int) (pt tk mr od pl rm cd : Int → Int) (i v : Int) (hI : DI lt mn pt tk mr od pl rm cd) (hi : inR i) (hv : inR v) : CtI l yX5_misread wsX5_misread rm_X5_misread D (tyL cy) [.ref (xo 0), .int (iI i), .int (iI v)] [oX xo d ps bs wt ki, oD d lt mn vs, ai (cy 0) (d 1) 24 pt, ai (cy 0) (d 2) 24 tk, ai (cy 0) (d 3) 24 mr, ai (cy 0) (d 4) 10 od, ai (cy 0) (d 5) 10 pl, ai (cy 0) (d 6) 4 rm, ai (cy 0) (d 7) 10 cd] z (fun (r : Int) (u : Int × (Int → Int)) => r = fMisread lt mr i v ∧ ((((0 ≤ i ∧ i < lt) ∧ (0 ≤ v ∧ v ≤ 1)) ∧ u = (vs + 1, ud mr i v)) ∨ (¬ ((0 ≤ i ∧ i < lt) ∧ (0 ≤ v ∧ v ≤ 1)) ∧ u = (vs, mr)))) (fun (u : Int × (Int → Int)) => [oX xo d ps bs wt ki, oD d lt mn u.1, ai (cy 0) (d 1) 24 pt, ai (cy 0) (d 2) 24 tk, ai (cy 0) (d 3) 24 u.2, ai (cy 0) (d 4) 10 od, ai (cy 0) (d 5) 10 pl, ai (cy 0) (d 6) 4 rm, ai (cy 0) (d 7) 10 cd]) 0 0 := by
  refine ct_i (cc := cX5_misread) (maxL := 3) (by decide) rfl (Nat.le_of_ble_eq_true rfl) ?_
  intro p e s m args below meth c A Q H locs ls hx hb hml hown hin hts hK hN hP hD hS hA hl hret
  replace hl : lv_has ls 3 [(0, .ref (xo 0)), (1, .int (iI i)), (2, .int (iI v))] := hl
  replace hown : s.vm.findClass RX5 = some m.cls := hown
  obtain ⟨⟨⟨hlt0, hlt1⟩, hmn0, hmn1⟩, ⟨hpt, htk, hmr⟩, ⟨hod, hpl, hpo, hop⟩, hrm, hcd⟩ := id hI
  refine lv_aload_n hx hb dX5_misread_0 rfl (lv_at hl 0 rfl) ?_
  refine lv_iload_n hx hb dX5_misread_1 rfl (lv_at hl 1 rfl) ?_
  have M_2 := k_X5_isLetter l D cy xo d ps bs wt H.size ki lt mn vs pt tk mr od pl rm cd i (by omega) (hi)
  refine kV_i (wr := []) (As := [.int (iI i)]) (rest := []) (q := (RX5, TX5, 6)) (ci := 5) ⟨hx, hb, hml, hown, hts⟩ M_2 0 rfl rfl (cwV 1 hts gX5_misread_X5_isLetter rfl rfl rfl (by decide +kernel) ⟨Nat.le_of_ble_eq_true rfl, Nat.le_of_ble_eq_true rfl⟩) hN hK hP hD hS hA [0, 1, 2, 3, 4, 5, 6, 7, 8] [] rfl rfl (by decide) (by decide) (by decide) rfl hl.1 rfl (Nat.le_of_ble_eq_true rfl) dX5_misread_2 ⟨Nat.le_of_ble_eq_true rfl, Nat.le_of_ble_eq_true rfl⟩ (fun r_2 u_2 H locs hw_2 hP hD hS => ?_)
  replace hP : va_P D vwCl [oX xo d ps bs wt ki, oD d lt mn vs, ai (cy 0) (d 1) 24 pt, ai (cy 0) (d 2) 24 tk, ai (cy 0) (d 3) 24 mr, ai (cy 0) (d 4) 10 od, ai (cy 0) (d 5) 10 pl, ai (cy 0) (d 6) 4 rm, ai (cy 0) (d 7) 10 cd] H := hP
  replace hD : va_D A [oX xo d ps bs wt ki, oD d lt mn vs, ai (cy 0) (d 1) 24 pt, ai (cy 0) (d 2) 24 tk, ai (cy 0) (d 3) 24 mr, ai (cy 0) (d 4) 10 od, ai (cy 0) (d 5) 10 pl, ai (cy 0) (d 6) 4 rm, ai (cy 0) (d 7) 10 cd] := hD
  refine r_ne0 hx hb 10 dX5_misread_5 (by decide) ⟨by omega, by omega⟩ (fun c_5 => ?_) (fun c_5 => ?_)
  ·
    refine lv_iload_n hx hb dX5_misread_10 rfl (lv_at hl 2 rfl) ?_
    refine r_const hx hb dX5_misread_11 ?_
    refine r_const hx hb dX5_misread_12 ?_
    have M_13 := k_X5_isWithin l D cy  H.size v 0 1 (hv) (⟨by omega, by omega⟩) (⟨by omega, by omega⟩)
    refine kS_i (wr := [oX xo d ps bs wt ki, oD d lt mn vs, ai (cy 0) (d 1) 24 pt, ai (cy 0) (d 2) 24 tk, ai (cy 0) (d 3) 24 mr, ai (cy 0) (d 4) 10 od, ai (cy 0) (d 5) 10 pl, ai (cy 0) (d 6) 4 rm, ai (cy 0) (d 7) 10 cd]) (As := [.int (iI v), .int (iI 0), .int (iI 1)]) (rest := []) ⟨hx, hb, hml, hown, hts⟩ M_13 (va_cwS 3 hts gX5_misread_X5_isWithin rfl rfl rfl (by decide +kernel) ⟨Nat.le_of_ble_eq_true rfl, Nat.le_of_ble_eq_true rfl⟩) hN hK hP hD hS hA [] [0, 1, 2, 3, 4, 5, 6, 7, 8] rfl rfl (by decide) (by decide) (by decide) rfl hl.1 rfl (Nat.le_of_ble_eq_true rfl) dX5_misread_13 ⟨Nat.le_of_ble_eq_true rfl, Nat.le_of_ble_eq_true rfl⟩ (fun r_13 u_13 H locs hw_13 hP hD hS => ?_)
    replace hP : va_P D vwCl [oX xo d ps bs wt ki, oD d lt mn vs, ai (cy 0) (d 1) 24 pt, ai (cy 0) (d 2) 24 tk, ai (cy 0) (d 3) 24 mr, ai (cy 0) (d 4) 10 od, ai (cy 0) (d 5) 10 pl, ai (cy 0) (d 6) 4 rm, ai (cy 0) (d 7) 10 cd] H := hP
    replace hD : va_D A [oX xo d ps bs wt ki, oD d lt mn vs, ai (cy 0) (d 1) 24 pt, ai (cy 0) (d 2) 24 tk, ai (cy 0) (d 3) 24 mr, ai (cy 0) (d 4) 10 od, ai (cy 0) (d 5) 10 pl, ai (cy 0) (d 6) 4 rm, ai (cy 0) (d 7) 10 cd] := hD
    refine r_ne0 hx hb 22 dX5_misread_16 (by decide) ⟨by omega, by omega⟩ (fun c_16 => ?_) (fun c_16 => ?_)
    ·
      refine lv_aload_n hx hb dX5_misread_22 rfl (lv_at hl 0 rfl) ?_
      refine va_get (D := D) (C := RX5) (T := TX5) (N := 6) (ci := 5) (v := .ref (d 0)) hx hb hts iw_X5_misread_5 hown hK hP 0 rfl rfl 0 (by decide) (hts _ fl_X5_misread_10) (fun _ h9 => h9) rfl dX5_misread_23 ?_
      refine lv_iload_n hx hb dX5_misread_26 rfl (lv_at hl 1 rfl) ?_
      refine lv_iload_n hx hb dX5_misread_27 rfl (lv_at hl 2 rfl) ?_
      have M_28 := k_X1_mark l D cy d H.size lt mn vs pt tk mr od pl rm cd i v (hI) (by omega)
      refine kV_v (wr := [oX xo d ps bs wt ki]) (As := [.int (iI i), .int (iI v)]) (rest := []) (q := (RX1, TX1, 10)) (ci := 1) ⟨hx, hb, hml, hown, hts⟩ M_28 1 rfl rfl (cwV 2 hts gX5_misread_X1_mark rfl rfl rfl (by decide +kernel) ⟨Nat.le_of_ble_eq_true rfl, Nat.le_of_ble_eq_true rfl⟩) hN hK hP hD hS hA [1, 2, 3, 4, 5, 6, 7, 8] [0] rfl rfl (by decide) (by decide) (by decide) rfl hl.1 rfl (Nat.le_of_ble_eq_true rfl) dX5_misread_28 ⟨Nat.le_of_ble_eq_true rfl, Nat.le_of_ble_eq_true rfl⟩ (fun u_28 H locs hw_28 hP hD hS => ?_)
      replace hP : va_P D vwCl [oX xo d ps bs wt ki, oD d lt mn (vs + 1), ai (cy 0) (d 1) 24 pt, ai (cy 0) (d 2) 24 tk, ai (cy 0) (d 3) 24 (ud mr i v), ai (cy 0) (d 4) 10 od, ai (cy 0) (d 5) 10 pl, ai (cy 0) (d 6) 4 rm, ai (cy 0) (d 7) 10 cd] H := hP
      replace hD : va_D A [oX xo d ps bs wt ki, oD d lt mn (vs + 1), ai (cy 0) (d 1) 24 pt, ai (cy 0) (d 2) 24 tk, ai (cy 0) (d 3) 24 (ud mr i v), ai (cy 0) (d 4) 10 od, ai (cy 0) (d 5) 10 pl, ai (cy 0) (d 6) 4 rm, ai (cy 0) (d 7) 10 cd] := hD
      refine lv_aload_n hx hb dX5_misread_31 rfl (lv_at hl 0 rfl) ?_
      refine va_get (D := D) (C := RX5) (T := TX5) (N := 6) (ci := 5) (v := .ref (d 0)) hx hb hts iw_X5_misread_5 hown hK hP 0 rfl rfl 0 (by decide) (hts _ fl_X5_misread_10) (fun _ h9 => h9) rfl dX5_misread_32 ?_
      have M_35 := k_X1_countMisread l D cy d H.size lt mn (vs + 1) pt tk (ud mr i v) od pl rm cd (⟨⟨⟨hlt0, hlt1⟩, hmn0, hmn1⟩, ⟨hpt, htk, ud_b hmr (by omega) (by omega)⟩, ⟨hod, hpl, hpo, hop⟩, hrm, hcd⟩)
      refine kV_i (wr := [oX xo d ps bs wt ki]) (As := []) (rest := []) (q := (RX1, TX1, 10)) (ci := 1) ⟨hx, hb, hml, hown, hts⟩ M_35 1 rfl rfl (cwV 0 hts gX5_misread_X1_countMisread rfl rfl rfl (by decide +kernel) ⟨Nat.le_of_ble_eq_true rfl, Nat.le_of_ble_eq_true rfl⟩) hN hK hP hD hS hA [1, 2, 3, 4, 5, 6, 7, 8] [0] rfl rfl (by decide) (by decide) (by decide) rfl hl.1 rfl (Nat.le_of_ble_eq_true rfl) dX5_misread_35 ⟨Nat.le_of_ble_eq_true rfl, Nat.le_of_ble_eq_true rfl⟩ (fun r_35 u_35 H locs hw_35 hP hD hS => ?_)
      replace hP : va_P D vwCl [oX xo d ps bs wt ki, oD d lt mn (vs + 1), ai (cy 0) (d 1) 24 pt, ai (cy 0) (d 2) 24 tk, ai (cy 0) (d 3) 24 (ud mr i v), ai (cy 0) (d 4) 10 od, ai (cy 0) (d 5) 10 pl, ai (cy 0) (d 6) 4 rm, ai (cy 0) (d 7) 10 cd] H := hP
      replace hD : va_D A [oX xo d ps bs wt ki, oD d lt mn (vs + 1), ai (cy 0) (d 1) 24 pt, ai (cy 0) (d 2) 24 tk, ai (cy 0) (d 3) 24 (ud mr i v), ai (cy 0) (d 4) 10 od, ai (cy 0) (d 5) 10 pl, ai (cy 0) (d 6) 4 rm, ai (cy 0) (d 7) 10 cd] := hD
      exact hret [0, 1, 2, 3, 4, 5, 6, 7, 8] ((vs + 1), (ud mr i v)) dX5_misread_38 hP hD hS (by decide) rfl (⟨by unfold fMisread; (repeat' split) <;> omega, by first | exact Or.inl ⟨by omega, rfl⟩ | exact Or.inr ⟨by omega, rfl⟩⟩)
    ·
      refine r_bip hx hb (-2) dX5_misread_19 (by decide) ?_
      exact hret [0, 1, 2, 3, 4, 5, 6, 7, 8] (vs, mr) dX5_misread_21 hP hD hS (by decide) rfl (⟨by unfold fMisread; (repeat' split) <;> omega, by first | exact Or.inl ⟨by omega, rfl⟩ | exact Or.inr ⟨by omega, rfl⟩⟩)
  ·
    refine r_const hx hb dX5_misread_8 ?_
    exact hret [0, 1, 2, 3, 4, 5, 6, 7, 8] (vs, mr) dX5_misread_9 hP hD hS (by decide) rfl (⟨by unfold fMisread; (repeat' split) <;> omega, by first | exact Or.inl ⟨by omega, rfl⟩ | exact Or.inr ⟨by omega, rfl⟩⟩)
abbrev rm_X5_drop : Room := { frames := 2, cells := 0, slots := 0, locals := 43 }
theorem fl_X5_drop_10 : Cond.fieldLink RX5 10 "WalkPasses" "desk" "LWalkPasses$Desk;" ∈ wsX5_drop := by decide +kernel
theorem iw_X5_drop_1 : ∀ w ∈ u_ws RX1 TX1 10, w ∈ wsX5_drop := by decide +kernel
theorem iw_X5_drop_5 : ∀ w ∈ u_ws RX5 TX5 6, w ∈ wsX5_drop := by decide +kernel
set_option maxHeartbeats 4000000 in
set_option maxRecDepth 100000 in
theorem k_X5_drop (l : Launch) (D : va_G) (cy : Nat → ClassId) (xo d ps bs wt : Nat → Nat) (z : Nat) (ki : Int) (lt mn vs : Int) (pt tk mr od pl rm cd : Int → Int) (i : Int) (hI : DI lt mn pt tk mr od pl rm cd) (hi : inR i) : CtI l yX5_drop wsX5_drop rm_X5_drop D (tyL cy) [.ref (xo 0), .int (iI i)] [oX xo d ps bs wt ki, oD d lt mn vs, ai (cy 0) (d 1) 24 pt, ai (cy 0) (d 2) 24 tk, ai (cy 0) (d 3) 24 mr, ai (cy 0) (d 4) 10 od, ai (cy 0) (d 5) 10 pl, ai (cy 0) (d 6) 4 rm, ai (cy 0) (d 7) 10 cd] z (fun (r : Int) (u : Int × Int × (Int → Int) × (Int → Int) × (Int → Int)) => r = fDrop lt i ∧ (((0 ≤ i ∧ i < lt) ∧ u = (lt - 1, vs + 1, shf pt i (lt - 1), shf tk i (lt - 1), shf mr i (lt - 1))) ∨ (¬ (0 ≤ i ∧ i < lt) ∧ u = (lt, vs, pt, tk, mr)))) (fun (u : Int × Int × (Int → Int) × (Int → Int) × (Int → Int)) => [oX xo d ps bs wt ki, oD d u.1 mn u.2.1, ai (cy 0) (d 1) 24 u.2.2.1, ai (cy 0) (d 2) 24 u.2.2.2.1, ai (cy 0) (d 3) 24 u.2.2.2.2, ai (cy 0) (d 4) 10 od, ai (cy 0) (d 5) 10 pl, ai (cy 0) (d 6) 4 rm, ai (cy 0) (d 7) 10 cd]) 0 0 := by
  refine ct_i (cc := cX5_drop) (maxL := 2) (by decide) rfl (Nat.le_of_ble_eq_true rfl) ?_
  intro p e s m args below meth c A Q H locs ls hx hb hml hown hin hts hK hN hP hD hS hA hl hret
  replace hl : lv_has ls 2 [(0, .ref (xo 0)), (1, .int (iI i))] := hl
  replace hown : s.vm.findClass RX5 = some m.cls := hown
  obtain ⟨⟨⟨hlt0, hlt1⟩, hmn0, hmn1⟩, ⟨hpt, htk, hmr⟩, ⟨hod, hpl, hpo, hop⟩, hrm, hcd⟩ := id hI
  refine lv_aload_n hx hb dX5_drop_0 rfl (lv_at hl 0 rfl) ?_
  refine lv_iload_n hx hb dX5_drop_1 rfl (lv_at hl 1 rfl) ?_
  have M_2 := k_X5_isLetter l D cy xo d ps bs wt H.size ki lt mn vs pt tk mr od pl rm cd i (by omega) (hi)
  refine kV_i (wr := []) (As := [.int (iI i)]) (rest := []) (q := (RX5, TX5, 6)) (ci := 5) ⟨hx, hb, hml, hown, hts⟩ M_2 0 rfl rfl (cwV 1 hts gX5_drop_X5_isLetter rfl rfl rfl (by decide +kernel) ⟨Nat.le_of_ble_eq_true rfl, Nat.le_of_ble_eq_true rfl⟩) hN hK hP hD hS hA [0, 1, 2, 3, 4, 5, 6, 7, 8] [] rfl rfl (by decide) (by decide) (by decide) rfl hl.1 rfl (Nat.le_of_ble_eq_true rfl) dX5_drop_2 ⟨Nat.le_of_ble_eq_true rfl, Nat.le_of_ble_eq_true rfl⟩ (fun r_2 u_2 H locs hw_2 hP hD hS => ?_)
  replace hP : va_P D vwCl [oX xo d ps bs wt ki, oD d lt mn vs, ai (cy 0) (d 1) 24 pt, ai (cy 0) (d 2) 24 tk, ai (cy 0) (d 3) 24 mr, ai (cy 0) (d 4) 10 od, ai (cy 0) (d 5) 10 pl, ai (cy 0) (d 6) 4 rm, ai (cy 0) (d 7) 10 cd] H := hP
  replace hD : va_D A [oX xo d ps bs wt ki, oD d lt mn vs, ai (cy 0) (d 1) 24 pt, ai (cy 0) (d 2) 24 tk, ai (cy 0) (d 3) 24 mr, ai (cy 0) (d 4) 10 od, ai (cy 0) (d 5) 10 pl, ai (cy 0) (d 6) 4 rm, ai (cy 0) (d 7) 10 cd] := hD
  refine r_ne0 hx hb 10 dX5_drop_5 (by decide) ⟨by omega, by omega⟩ (fun c_5 => ?_) (fun c_5 => ?_)
  ·
    refine lv_aload_n hx hb dX5_drop_10 rfl (lv_at hl 0 rfl) ?_
    refine va_get (D := D) (C := RX5) (T := TX5) (N := 6) (ci := 5) (v := .ref (d 0)) hx hb hts iw_X5_drop_5 hown hK hP 0 rfl rfl 0 (by decide) (hts _ fl_X5_drop_10) (fun _ h9 => h9) rfl dX5_drop_11 ?_
    refine lv_iload_n hx hb dX5_drop_14 rfl (lv_at hl 1 rfl) ?_
    have M_15 := k_X1_remove l D cy d H.size lt mn vs pt tk mr od pl rm cd i (hI) (by omega)
    refine kV_v (wr := [oX xo d ps bs wt ki]) (As := [.int (iI i)]) (rest := []) (q := (RX1, TX1, 10)) (ci := 1) ⟨hx, hb, hml, hown, hts⟩ M_15 1 rfl rfl (cwV 1 hts gX5_drop_X1_remove rfl rfl rfl (by decide +kernel) ⟨Nat.le_of_ble_eq_true rfl, Nat.le_of_ble_eq_true rfl⟩) hN hK hP hD hS hA [1, 2, 3, 4, 5, 6, 7, 8] [0] rfl rfl (by decide) (by decide) (by decide) rfl hl.1 rfl (Nat.le_of_ble_eq_true rfl) dX5_drop_15 ⟨Nat.le_of_ble_eq_true rfl, Nat.le_of_ble_eq_true rfl⟩ (fun u_15 H locs hw_15 hP hD hS => ?_)
    replace hP : va_P D vwCl [oX xo d ps bs wt ki, oD d (lt - 1) mn (vs + 1), ai (cy 0) (d 1) 24 (shf pt i (lt - 1)), ai (cy 0) (d 2) 24 (shf tk i (lt - 1)), ai (cy 0) (d 3) 24 (shf mr i (lt - 1)), ai (cy 0) (d 4) 10 od, ai (cy 0) (d 5) 10 pl, ai (cy 0) (d 6) 4 rm, ai (cy 0) (d 7) 10 cd] H := hP
    replace hD : va_D A [oX xo d ps bs wt ki, oD d (lt - 1) mn (vs + 1), ai (cy 0) (d 1) 24 (shf pt i (lt - 1)), ai (cy 0) (d 2) 24 (shf tk i (lt - 1)), ai (cy 0) (d 3) 24 (shf mr i (lt - 1)), ai (cy 0) (d 4) 10 od, ai (cy 0) (d 5) 10 pl, ai (cy 0) (d 6) 4 rm, ai (cy 0) (d 7) 10 cd] := hD
    refine lv_aload_n hx hb dX5_drop_18 rfl (lv_at hl 0 rfl) ?_
    refine va_get (D := D) (C := RX5) (T := TX5) (N := 6) (ci := 5) (v := .ref (d 0)) hx hb hts iw_X5_drop_5 hown hK hP 0 rfl rfl 0 (by decide) (hts _ fl_X5_drop_10) (fun _ h9 => h9) rfl dX5_drop_19 ?_
    refine va_getN (D := D) (C := RX1) (T := TX1) (N := 10) (ci := 1) (v := .int (iI (lt - 1))) hx hb hts iw_X5_drop_1 hown hK hP 1 rfl rfl 0 (by decide) (nfX5_49 hN) (fun _ h9 => h9) rfl dX5_drop_22 ?_
    exact hret [0, 1, 2, 3, 4, 5, 6, 7, 8] (lt - 1, vs + 1, shf pt i (lt - 1), shf tk i (lt - 1), shf mr i (lt - 1)) dX5_drop_25 hP hD hS (by decide) rfl (⟨by unfold fDrop; (repeat' split) <;> omega, by first | exact Or.inl ⟨by omega, rfl⟩ | exact Or.inr ⟨by omega, rfl⟩⟩)
  ·
    refine r_const hx hb dX5_drop_8 ?_
    exact hret [0, 1, 2, 3, 4, 5, 6, 7, 8] (lt, vs, pt, tk, mr) dX5_drop_9 hP hD hS (by decide) rfl (⟨by unfold fDrop; (repeat' split) <;> omega, by first | exact Or.inl ⟨by omega, rfl⟩ | exact Or.inr ⟨by omega, rfl⟩⟩)
abbrev rm_X5_change : Room := { frames := 2, cells := 0, slots := 0, locals := 42 }
theorem fl_X5_change_10 : Cond.fieldLink RX5 10 "WalkPasses" "desk" "LWalkPasses$Desk;" ∈ wsX5_change := by decide +kernel
theorem iw_X5_change_1 : ∀ w ∈ u_ws RX1 TX1 10, w ∈ wsX5_change := by decide +kernel
theorem iw_X5_change_5 : ∀ w ∈ u_ws RX5 TX5 6, w ∈ wsX5_change := by decide +kernel
set_option maxHeartbeats 4000000 in
set_option maxRecDepth 100000 in
theorem k_X5_change (l : Launch) (D : va_G) (cy : Nat → ClassId) (xo d ps bs wt : Nat → Nat) (z : Nat) (ki : Int) (lt mn vs : Int) (pt tk mr od pl rm cd : Int → Int) (qa qb : Int) (hI : DI lt mn pt tk mr od pl rm cd) (hqa : inR qa) (hqb : inR qb) : CtI l yX5_change wsX5_change rm_X5_change D (tyL cy) [.ref (xo 0), .int (iI qa), .int (iI qb)] [oX xo d ps bs wt ki, oD d lt mn vs, ai (cy 0) (d 1) 24 pt, ai (cy 0) (d 2) 24 tk, ai (cy 0) (d 3) 24 mr, ai (cy 0) (d 4) 10 od, ai (cy 0) (d 5) 10 pl, ai (cy 0) (d 6) 4 rm, ai (cy 0) (d 7) 10 cd] z (fun (r : Int) (u : Int × (Int → Int) × (Int → Int)) => r = fChange pl qa qb ∧ ((((0 ≤ qa ∧ qa ≤ 9) ∧ (0 ≤ qb ∧ qb ≤ 9)) ∧ u = (vs + 1, ud (ud od (pl qb) qa) (pl qa) qb, ud (ud pl qa (pl qb)) qb (pl qa))) ∨ (¬ ((0 ≤ qa ∧ qa ≤ 9) ∧ (0 ≤ qb ∧ qb ≤ 9)) ∧ u = (vs, od, pl)))) (fun (u : Int × (Int → Int) × (Int → Int)) => [oX xo d ps bs wt ki, oD d lt mn u.1, ai (cy 0) (d 1) 24 pt, ai (cy 0) (d 2) 24 tk, ai (cy 0) (d 3) 24 mr, ai (cy 0) (d 4) 10 u.2.1, ai (cy 0) (d 5) 10 u.2.2, ai (cy 0) (d 6) 4 rm, ai (cy 0) (d 7) 10 cd]) 0 0 := by
  refine ct_i (cc := cX5_change) (maxL := 3) (by decide) rfl (Nat.le_of_ble_eq_true rfl) ?_
  intro p e s m args below meth c A Q H locs ls hx hb hml hown hin hts hK hN hP hD hS hA hl hret
  replace hl : lv_has ls 3 [(0, .ref (xo 0)), (1, .int (iI qa)), (2, .int (iI qb))] := hl
  replace hown : s.vm.findClass RX5 = some m.cls := hown
  obtain ⟨⟨⟨hlt0, hlt1⟩, hmn0, hmn1⟩, ⟨hpt, htk, hmr⟩, ⟨hod, hpl, hpo, hop⟩, hrm, hcd⟩ := id hI
  refine lv_iload_n hx hb dX5_change_0 rfl (lv_at hl 1 rfl) ?_
  have M_1 := k_X5_isPoint l D cy  H.size qa (hqa)
  refine kS_i (wr := [oX xo d ps bs wt ki, oD d lt mn vs, ai (cy 0) (d 1) 24 pt, ai (cy 0) (d 2) 24 tk, ai (cy 0) (d 3) 24 mr, ai (cy 0) (d 4) 10 od, ai (cy 0) (d 5) 10 pl, ai (cy 0) (d 6) 4 rm, ai (cy 0) (d 7) 10 cd]) (As := [.int (iI qa)]) (rest := []) ⟨hx, hb, hml, hown, hts⟩ M_1 (va_cwS 1 hts gX5_change_X5_isPoint rfl rfl rfl (by decide +kernel) ⟨Nat.le_of_ble_eq_true rfl, Nat.le_of_ble_eq_true rfl⟩) hN hK hP hD hS hA [] [0, 1, 2, 3, 4, 5, 6, 7, 8] rfl rfl (by decide) (by decide) (by decide) rfl hl.1 rfl (Nat.le_of_ble_eq_true rfl) dX5_change_1 ⟨Nat.le_of_ble_eq_true rfl, Nat.le_of_ble_eq_true rfl⟩ (fun r_1 u_1 H locs hw_1 hP hD hS => ?_)
  replace hP : va_P D vwCl [oX xo d ps bs wt ki, oD d lt mn vs, ai (cy 0) (d 1) 24 pt, ai (cy 0) (d 2) 24 tk, ai (cy 0) (d 3) 24 mr, ai (cy 0) (d 4) 10 od, ai (cy 0) (d 5) 10 pl, ai (cy 0) (d 6) 4 rm, ai (cy 0) (d 7) 10 cd] H := hP
  replace hD : va_D A [oX xo d ps bs wt ki, oD d lt mn vs, ai (cy 0) (d 1) 24 pt, ai (cy 0) (d 2) 24 tk, ai (cy 0) (d 3) 24 mr, ai (cy 0) (d 4) 10 od, ai (cy 0) (d 5) 10 pl, ai (cy 0) (d 6) 4 rm, ai (cy 0) (d 7) 10 cd] := hD
  refine r_eq0 hx hb 14 dX5_change_4 (by decide) ⟨by omega, by omega⟩ (fun c_4 => ?_) (fun c_4 => ?_)
  ·
    refine r_const hx hb dX5_change_14 ?_
    exact hret [0, 1, 2, 3, 4, 5, 6, 7, 8] (vs, od, pl) dX5_change_15 hP hD hS (by decide) rfl (⟨by unfold fChange; (repeat' split) <;> omega, by first | exact Or.inl ⟨by omega, rfl⟩ | exact Or.inr ⟨by omega, rfl⟩⟩)
  ·
    refine lv_iload_n hx hb dX5_change_7 rfl (lv_at hl 2 rfl) ?_
    have M_8 := k_X5_isPoint l D cy  H.size qb (hqb)
    refine kS_i (wr := [oX xo d ps bs wt ki, oD d lt mn vs, ai (cy 0) (d 1) 24 pt, ai (cy 0) (d 2) 24 tk, ai (cy 0) (d 3) 24 mr, ai (cy 0) (d 4) 10 od, ai (cy 0) (d 5) 10 pl, ai (cy 0) (d 6) 4 rm, ai (cy 0) (d 7) 10 cd]) (As := [.int (iI qb)]) (rest := []) ⟨hx, hb, hml, hown, hts⟩ M_8 (va_cwS 1 hts gX5_change_X5_isPoint rfl rfl rfl (by decide +kernel) ⟨Nat.le_of_ble_eq_true rfl, Nat.le_of_ble_eq_true rfl⟩) hN hK hP hD hS hA [] [0, 1, 2, 3, 4, 5, 6, 7, 8] rfl rfl (by decide) (by decide) (by decide) rfl hl.1 rfl (Nat.le_of_ble_eq_true rfl) dX5_change_8 ⟨Nat.le_of_ble_eq_true rfl, Nat.le_of_ble_eq_true rfl⟩ (fun r_8 u_8 H locs hw_8 hP hD hS => ?_)
    replace hP : va_P D vwCl [oX xo d ps bs wt ki, oD d lt mn vs, ai (cy 0) (d 1) 24 pt, ai (cy 0) (d 2) 24 tk, ai (cy 0) (d 3) 24 mr, ai (cy 0) (d 4) 10 od, ai (cy 0) (d 5) 10 pl, ai (cy 0) (d 6) 4 rm, ai (cy 0) (d 7) 10 cd] H := hP
    replace hD : va_D A [oX xo d ps bs wt ki, oD d lt mn vs, ai (cy 0) (d 1) 24 pt, ai (cy 0) (d 2) 24 tk, ai (cy 0) (d 3) 24 mr, ai (cy 0) (d 4) 10 od, ai (cy 0) (d 5) 10 pl, ai (cy 0) (d 6) 4 rm, ai (cy 0) (d 7) 10 cd] := hD
    refine r_ne0 hx hb 16 dX5_change_11 (by decide) ⟨by omega, by omega⟩ (fun c_11 => ?_) (fun c_11 => ?_)
    ·
      refine lv_aload_n hx hb dX5_change_16 rfl (lv_at hl 0 rfl) ?_
      refine va_get (D := D) (C := RX5) (T := TX5) (N := 6) (ci := 5) (v := .ref (d 0)) hx hb hts iw_X5_change_5 hown hK hP 0 rfl rfl 0 (by decide) (hts _ fl_X5_change_10) (fun _ h9 => h9) rfl dX5_change_17 ?_
      refine lv_iload_n hx hb dX5_change_20 rfl (lv_at hl 1 rfl) ?_
      refine lv_iload_n hx hb dX5_change_21 rfl (lv_at hl 2 rfl) ?_
      have M_22 := k_X1_swap l D cy d H.size lt mn vs pt tk mr od pl rm cd qa qb (hI) (by omega) (by omega)
      refine kV_v (wr := [oX xo d ps bs wt ki]) (As := [.int (iI qa), .int (iI qb)]) (rest := []) (q := (RX1, TX1, 10)) (ci := 1) ⟨hx, hb, hml, hown, hts⟩ M_22 1 rfl rfl (cwV 2 hts gX5_change_X1_swap rfl rfl rfl (by decide +kernel) ⟨Nat.le_of_ble_eq_true rfl, Nat.le_of_ble_eq_true rfl⟩) hN hK hP hD hS hA [1, 2, 3, 4, 5, 6, 7, 8] [0] rfl rfl (by decide) (by decide) (by decide) rfl hl.1 rfl (Nat.le_of_ble_eq_true rfl) dX5_change_22 ⟨Nat.le_of_ble_eq_true rfl, Nat.le_of_ble_eq_true rfl⟩ (fun u_22 H locs hw_22 hP hD hS => ?_)
      replace hP : va_P D vwCl [oX xo d ps bs wt ki, oD d lt mn (vs + 1), ai (cy 0) (d 1) 24 pt, ai (cy 0) (d 2) 24 tk, ai (cy 0) (d 3) 24 mr, ai (cy 0) (d 4) 10 (ud (ud od ((ud (ud pl qa (pl qb)) qb (pl qa)) qa) qa) ((ud (ud pl qa (pl qb)) qb (pl qa)) qb) qb), ai (cy 0) (d 5) 10 (ud (ud pl qa (pl qb)) qb (pl qa)), ai (cy 0) (d 6) 4 rm, ai (cy 0) (d 7) 10 cd] H := hP
      replace hD : va_D A [oX xo d ps bs wt ki, oD d lt mn (vs + 1), ai (cy 0) (d 1) 24 pt, ai (cy 0) (d 2) 24 tk, ai (cy 0) (d 3) 24 mr, ai (cy 0) (d 4) 10 (ud (ud od ((ud (ud pl qa (pl qb)) qb (pl qa)) qa) qa) ((ud (ud pl qa (pl qb)) qb (pl qa)) qb) qb), ai (cy 0) (d 5) 10 (ud (ud pl qa (pl qb)) qb (pl qa)), ai (cy 0) (d 6) 4 rm, ai (cy 0) (d 7) 10 cd] := hD
      refine lv_aload_n hx hb dX5_change_25 rfl (lv_at hl 0 rfl) ?_
      refine va_get (D := D) (C := RX5) (T := TX5) (N := 6) (ci := 5) (v := .ref (d 0)) hx hb hts iw_X5_change_5 hown hK hP 0 rfl rfl 0 (by decide) (hts _ fl_X5_change_10) (fun _ h9 => h9) rfl dX5_change_26 ?_
      refine va_getN (D := D) (C := RX1) (T := TX1) (N := 10) (ci := 1) (v := .ref (d 5)) hx hb hts iw_X5_change_1 hown hK hP 1 rfl rfl 5 (by decide) (nfX5_75 hN) (fun _ h9 => h9) rfl dX5_change_29 ?_
      refine lv_iload_n hx hb dX5_change_32 rfl (lv_at hl 1 rfl) ?_
      refine r_ald hx hb hK hP 6 rfl rfl ⟨by omega, by omega, by omega⟩ dX5_change_33 ?_
      refine r_top (pl qb) (swap_pl.1) ?_
      exact hret [0, 1, 2, 3, 4, 5, 6, 7, 8] (vs + 1, ud (ud od ((ud (ud pl qa (pl qb)) qb (pl qa)) qa) qa) ((ud (ud pl qa (pl qb)) qb (pl qa)) qb) qb, ud (ud pl qa (pl qb)) qb (pl qa)) dX5_change_34 hP hD hS (by decide) rfl (⟨by unfold fChange; (repeat' split) <;> omega, Or.inl ⟨by omega, by rw [swap_pl.1, swap_pl.2]⟩⟩)
    ·
      refine r_const hx hb dX5_change_14 ?_
      exact hret [0, 1, 2, 3, 4, 5, 6, 7, 8] (vs, od, pl) dX5_change_15 hP hD hS (by decide) rfl (⟨by unfold fChange; (repeat' split) <;> omega, by first | exact Or.inl ⟨by omega, rfl⟩ | exact Or.inr ⟨by omega, rfl⟩⟩)
abbrev rm_X5_walk : Room := { frames := 1, cells := 0, slots := 0, locals := 22 }
theorem fl_X5_walk_10 : Cond.fieldLink RX5 10 "WalkPasses" "desk" "LWalkPasses$Desk;" ∈ wsX5_walk := by decide +kernel
theorem iw_X5_walk_1 : ∀ w ∈ u_ws RX1 TX1 10, w ∈ wsX5_walk := by decide +kernel
theorem iw_X5_walk_5 : ∀ w ∈ u_ws RX5 TX5 6, w ∈ wsX5_walk := by decide +kernel
set_option maxHeartbeats 4000000 in
set_option maxRecDepth 100000 in
theorem k_X5_walk (l : Launch) (D : va_G) (cy : Nat → ClassId) (xo d ps bs wt : Nat → Nat) (z : Nat) (ki : Int) (lt mn vs : Int) (pt tk mr od pl rm cd : Int → Int) (i : Int) (hI : DI lt mn pt tk mr od pl rm cd) (hi : inR i) : CtI l yX5_walk wsX5_walk rm_X5_walk D (tyL cy) [.ref (xo 0), .int (iI i)] [oX xo d ps bs wt ki, oD d lt mn vs, ai (cy 0) (d 1) 24 pt, ai (cy 0) (d 2) 24 tk, ai (cy 0) (d 3) 24 mr, ai (cy 0) (d 4) 10 od, ai (cy 0) (d 5) 10 pl, ai (cy 0) (d 6) 4 rm, ai (cy 0) (d 7) 10 cd] z (fun (r : Int) (u : Unit) => r = fWalk od i) (fun (u : Unit) => [oX xo d ps bs wt ki, oD d lt mn vs, ai (cy 0) (d 1) 24 pt, ai (cy 0) (d 2) 24 tk, ai (cy 0) (d 3) 24 mr, ai (cy 0) (d 4) 10 od, ai (cy 0) (d 5) 10 pl, ai (cy 0) (d 6) 4 rm, ai (cy 0) (d 7) 10 cd]) 0 0 := by
  refine ct_i (cc := cX5_walk) (maxL := 2) (by decide) rfl (Nat.le_of_ble_eq_true rfl) ?_
  intro p e s m args below meth c A Q H locs ls hx hb hml hown hin hts hK hN hP hD hS hA hl hret
  replace hl : lv_has ls 2 [(0, .ref (xo 0)), (1, .int (iI i))] := hl
  replace hown : s.vm.findClass RX5 = some m.cls := hown
  obtain ⟨⟨⟨hlt0, hlt1⟩, hmn0, hmn1⟩, ⟨hpt, htk, hmr⟩, ⟨hod, hpl, hpo, hop⟩, hrm, hcd⟩ := id hI
  refine lv_iload_n hx hb dX5_walk_0 rfl (lv_at hl 1 rfl) ?_
  refine r_const hx hb dX5_walk_1 ?_
  refine r_bip hx hb (9) dX5_walk_2 (by decide) ?_
  have M_4 := k_X5_isWithin l D cy  H.size i 0 9 (hi) (⟨by omega, by omega⟩) (⟨by omega, by omega⟩)
  refine kS_i (wr := [oX xo d ps bs wt ki, oD d lt mn vs, ai (cy 0) (d 1) 24 pt, ai (cy 0) (d 2) 24 tk, ai (cy 0) (d 3) 24 mr, ai (cy 0) (d 4) 10 od, ai (cy 0) (d 5) 10 pl, ai (cy 0) (d 6) 4 rm, ai (cy 0) (d 7) 10 cd]) (As := [.int (iI i), .int (iI 0), .int (iI 9)]) (rest := []) ⟨hx, hb, hml, hown, hts⟩ M_4 (va_cwS 3 hts gX5_walk_X5_isWithin rfl rfl rfl (by decide +kernel) ⟨Nat.le_of_ble_eq_true rfl, Nat.le_of_ble_eq_true rfl⟩) hN hK hP hD hS hA [] [0, 1, 2, 3, 4, 5, 6, 7, 8] rfl rfl (by decide) (by decide) (by decide) rfl hl.1 rfl (Nat.le_of_ble_eq_true rfl) dX5_walk_4 ⟨Nat.le_of_ble_eq_true rfl, Nat.le_of_ble_eq_true rfl⟩ (fun r_4 u_4 H locs hw_4 hP hD hS => ?_)
  replace hP : va_P D vwCl [oX xo d ps bs wt ki, oD d lt mn vs, ai (cy 0) (d 1) 24 pt, ai (cy 0) (d 2) 24 tk, ai (cy 0) (d 3) 24 mr, ai (cy 0) (d 4) 10 od, ai (cy 0) (d 5) 10 pl, ai (cy 0) (d 6) 4 rm, ai (cy 0) (d 7) 10 cd] H := hP
  replace hD : va_D A [oX xo d ps bs wt ki, oD d lt mn vs, ai (cy 0) (d 1) 24 pt, ai (cy 0) (d 2) 24 tk, ai (cy 0) (d 3) 24 mr, ai (cy 0) (d 4) 10 od, ai (cy 0) (d 5) 10 pl, ai (cy 0) (d 6) 4 rm, ai (cy 0) (d 7) 10 cd] := hD
  refine r_ne0 hx hb 13 dX5_walk_7 (by decide) ⟨by omega, by omega⟩ (fun c_7 => ?_) (fun c_7 => ?_)
  ·
    refine lv_aload_n hx hb dX5_walk_13 rfl (lv_at hl 0 rfl) ?_
    refine va_get (D := D) (C := RX5) (T := TX5) (N := 6) (ci := 5) (v := .ref (d 0)) hx hb hts iw_X5_walk_5 hown hK hP 0 rfl rfl 0 (by decide) (hts _ fl_X5_walk_10) (fun _ h9 => h9) rfl dX5_walk_14 ?_
    refine va_getN (D := D) (C := RX1) (T := TX1) (N := 10) (ci := 1) (v := .ref (d 4)) hx hb hts iw_X5_walk_1 hown hK hP 1 rfl rfl 4 (by decide) (nfX5_79 hN) (fun _ h9 => h9) rfl dX5_walk_17 ?_
    refine lv_iload_n hx hb dX5_walk_20 rfl (lv_at hl 1 rfl) ?_
    refine r_ald hx hb hK hP 5 rfl rfl ⟨by omega, by omega, by omega⟩ dX5_walk_21 ?_
    exact hret [0, 1, 2, 3, 4, 5, 6, 7, 8] () dX5_walk_22 hP hD hS (by decide) rfl (by unfold fWalk; (repeat' split) <;> omega)
  ·
    refine r_bip hx hb (-2) dX5_walk_10 (by decide) ?_
    exact hret [0, 1, 2, 3, 4, 5, 6, 7, 8] () dX5_walk_12 hP hD hS (by decide) rfl (by unfold fWalk; (repeat' split) <;> omega)
abbrev rm_X5_stackers : Room := { frames := 1, cells := 0, slots := 0, locals := 22 }
theorem fl_X5_stackers_10 : Cond.fieldLink RX5 10 "WalkPasses" "desk" "LWalkPasses$Desk;" ∈ wsX5_stackers := by decide +kernel
theorem iw_X5_stackers_1 : ∀ w ∈ u_ws RX1 TX1 10, w ∈ wsX5_stackers := by decide +kernel
theorem iw_X5_stackers_5 : ∀ w ∈ u_ws RX5 TX5 6, w ∈ wsX5_stackers := by decide +kernel
set_option maxHeartbeats 4000000 in
set_option maxRecDepth 100000 in
theorem k_X5_stackers (l : Launch) (D : va_G) (cy : Nat → ClassId) (xo d ps bs wt : Nat → Nat) (z : Nat) (ki : Int) (lt mn vs : Int) (pt tk mr od pl rm cd : Int → Int) (v : Int) (hv : inR v) : CtI l yX5_stackers wsX5_stackers rm_X5_stackers D (tyL cy) [.ref (xo 0), .int (iI v)] [oX xo d ps bs wt ki, oD d lt mn vs, ai (cy 0) (d 1) 24 pt, ai (cy 0) (d 2) 24 tk, ai (cy 0) (d 3) 24 mr, ai (cy 0) (d 4) 10 od, ai (cy 0) (d 5) 10 pl, ai (cy 0) (d 6) 4 rm, ai (cy 0) (d 7) 10 cd] z (fun (r : Int) (u : Int × Int) => r = fStackers mn v ∧ (((2 ≤ v ∧ v ≤ 4) ∧ u = (v, vs + 1)) ∨ (¬ (2 ≤ v ∧ v ≤ 4) ∧ u = (mn, vs)))) (fun (u : Int × Int) => [oX xo d ps bs wt ki, oD d lt u.1 u.2, ai (cy 0) (d 1) 24 pt, ai (cy 0) (d 2) 24 tk, ai (cy 0) (d 3) 24 mr, ai (cy 0) (d 4) 10 od, ai (cy 0) (d 5) 10 pl, ai (cy 0) (d 6) 4 rm, ai (cy 0) (d 7) 10 cd]) 0 0 := by
  refine ct_i (cc := cX5_stackers) (maxL := 3) (by decide) rfl (Nat.le_of_ble_eq_true rfl) ?_
  intro p e s m args below meth c A Q H locs ls hx hb hml hown hin hts hK hN hP hD hS hA hl hret
  replace hl : lv_has ls 3 [(0, .ref (xo 0)), (1, .int (iI v))] := hl
  replace hown : s.vm.findClass RX5 = some m.cls := hown
  refine lv_iload_n hx hb dX5_stackers_0 rfl (lv_at hl 1 rfl) ?_
  refine r_const hx hb dX5_stackers_1 ?_
  refine r_const hx hb dX5_stackers_2 ?_
  have M_3 := k_X5_isWithin l D cy  H.size v 2 4 (hv) (⟨by omega, by omega⟩) (⟨by omega, by omega⟩)
  refine kS_i (wr := [oX xo d ps bs wt ki, oD d lt mn vs, ai (cy 0) (d 1) 24 pt, ai (cy 0) (d 2) 24 tk, ai (cy 0) (d 3) 24 mr, ai (cy 0) (d 4) 10 od, ai (cy 0) (d 5) 10 pl, ai (cy 0) (d 6) 4 rm, ai (cy 0) (d 7) 10 cd]) (As := [.int (iI v), .int (iI 2), .int (iI 4)]) (rest := []) ⟨hx, hb, hml, hown, hts⟩ M_3 (va_cwS 3 hts gX5_stackers_X5_isWithin rfl rfl rfl (by decide +kernel) ⟨Nat.le_of_ble_eq_true rfl, Nat.le_of_ble_eq_true rfl⟩) hN hK hP hD hS hA [] [0, 1, 2, 3, 4, 5, 6, 7, 8] rfl rfl (by decide) (by decide) (by decide) rfl hl.1 rfl (Nat.le_of_ble_eq_true rfl) dX5_stackers_3 ⟨Nat.le_of_ble_eq_true rfl, Nat.le_of_ble_eq_true rfl⟩ (fun r_3 u_3 H locs hw_3 hP hD hS => ?_)
  replace hP : va_P D vwCl [oX xo d ps bs wt ki, oD d lt mn vs, ai (cy 0) (d 1) 24 pt, ai (cy 0) (d 2) 24 tk, ai (cy 0) (d 3) 24 mr, ai (cy 0) (d 4) 10 od, ai (cy 0) (d 5) 10 pl, ai (cy 0) (d 6) 4 rm, ai (cy 0) (d 7) 10 cd] H := hP
  replace hD : va_D A [oX xo d ps bs wt ki, oD d lt mn vs, ai (cy 0) (d 1) 24 pt, ai (cy 0) (d 2) 24 tk, ai (cy 0) (d 3) 24 mr, ai (cy 0) (d 4) 10 od, ai (cy 0) (d 5) 10 pl, ai (cy 0) (d 6) 4 rm, ai (cy 0) (d 7) 10 cd] := hD
  refine r_ne0 hx hb 12 dX5_stackers_6 (by decide) ⟨by omega, by omega⟩ (fun c_6 => ?_) (fun c_6 => ?_)
  ·
    refine lv_aload_n hx hb dX5_stackers_12 rfl (lv_at hl 0 rfl) ?_
    refine va_get (D := D) (C := RX5) (T := TX5) (N := 6) (ci := 5) (v := .ref (d 0)) hx hb hts iw_X5_stackers_5 hown hK hP 0 rfl rfl 0 (by decide) (hts _ fl_X5_stackers_10) (fun _ h9 => h9) rfl dX5_stackers_13 ?_
    refine va_getN (D := D) (C := RX1) (T := TX1) (N := 10) (ci := 1) (v := .int (iI mn)) hx hb hts iw_X5_stackers_1 hown hK hP 1 rfl rfl 6 (by decide) (nfX5_82 hN) (fun _ h9 => h9) rfl dX5_stackers_16 ?_
    refine lv_istore_n (lv' := [(2, .int (iI mn)), (0, .ref (xo 0)), (1, .int (iI v))]) hx hb dX5_stackers_19 rfl hl (by decide) rfl (fun ls hl => ?_)
    refine lv_aload_n hx hb dX5_stackers_20 rfl (lv_at hl 1 rfl) ?_
    refine va_get (D := D) (C := RX5) (T := TX5) (N := 6) (ci := 5) (v := .ref (d 0)) hx hb hts iw_X5_stackers_5 hown hK hP 0 rfl rfl 0 (by decide) (hts _ fl_X5_stackers_10) (fun _ h9 => h9) rfl dX5_stackers_21 ?_
    refine lv_iload_n hx hb dX5_stackers_24 rfl (lv_at hl 2 rfl) ?_
    have M_25 := k_X1_setMany l D cy d H.size lt mn vs pt tk mr od pl rm cd v 
    refine kV_v (wr := [oX xo d ps bs wt ki]) (As := [.int (iI v)]) (rest := []) (q := (RX1, TX1, 10)) (ci := 1) ⟨hx, hb, hml, hown, hts⟩ M_25 1 rfl rfl (cwV 1 hts gX5_stackers_X1_setMany rfl rfl rfl (by decide +kernel) ⟨Nat.le_of_ble_eq_true rfl, Nat.le_of_ble_eq_true rfl⟩) hN hK hP hD hS hA [1, 2, 3, 4, 5, 6, 7, 8] [0] rfl rfl (by decide) (by decide) (by decide) rfl hl.1 rfl (Nat.le_of_ble_eq_true rfl) dX5_stackers_25 ⟨Nat.le_of_ble_eq_true rfl, Nat.le_of_ble_eq_true rfl⟩ (fun u_25 H locs hw_25 hP hD hS => ?_)
    replace hP : va_P D vwCl [oX xo d ps bs wt ki, oD d lt v (vs + 1), ai (cy 0) (d 1) 24 pt, ai (cy 0) (d 2) 24 tk, ai (cy 0) (d 3) 24 mr, ai (cy 0) (d 4) 10 od, ai (cy 0) (d 5) 10 pl, ai (cy 0) (d 6) 4 rm, ai (cy 0) (d 7) 10 cd] H := hP
    replace hD : va_D A [oX xo d ps bs wt ki, oD d lt v (vs + 1), ai (cy 0) (d 1) 24 pt, ai (cy 0) (d 2) 24 tk, ai (cy 0) (d 3) 24 mr, ai (cy 0) (d 4) 10 od, ai (cy 0) (d 5) 10 pl, ai (cy 0) (d 6) 4 rm, ai (cy 0) (d 7) 10 cd] := hD
    refine lv_iload_n hx hb dX5_stackers_28 rfl (lv_at hl 0 rfl) ?_
    exact hret [0, 1, 2, 3, 4, 5, 6, 7, 8] (v, vs + 1) dX5_stackers_29 hP hD hS (by decide) rfl (⟨by unfold fStackers; (repeat' split) <;> omega, by first | exact Or.inl ⟨by omega, rfl⟩ | exact Or.inr ⟨by omega, rfl⟩⟩)
  ·
    refine r_bip hx hb (-2) dX5_stackers_9 (by decide) ?_
    exact hret [0, 1, 2, 3, 4, 5, 6, 7, 8] (mn, vs) dX5_stackers_11 hP hD hS (by decide) rfl (⟨by unfold fStackers; (repeat' split) <;> omega, by first | exact Or.inl ⟨by omega, rfl⟩ | exact Or.inr ⟨by omega, rfl⟩⟩)
abbrev rm_X5_room : Room := { frames := 2, cells := 0, slots := 0, locals := 43 }
theorem fl_X5_room_10 : Cond.fieldLink RX5 10 "WalkPasses" "desk" "LWalkPasses$Desk;" ∈ wsX5_room := by decide +kernel
theorem iw_X5_room_1 : ∀ w ∈ u_ws RX1 TX1 10, w ∈ wsX5_room := by decide +kernel
theorem iw_X5_room_5 : ∀ w ∈ u_ws RX5 TX5 6, w ∈ wsX5_room := by decide +kernel
set_option maxHeartbeats 4000000 in
set_option maxRecDepth 100000 in
theorem k_X5_room (l : Launch) (D : va_G) (cy : Nat → ClassId) (xo d ps bs wt : Nat → Nat) (z : Nat) (ki : Int) (lt mn vs : Int) (pt tk mr od pl rm cd : Int → Int) (i v : Int) (hI : DI lt mn pt tk mr od pl rm cd) (hi : inR i) (hv : inR v) : CtI l yX5_room wsX5_room rm_X5_room D (tyL cy) [.ref (xo 0), .int (iI i), .int (iI v)] [oX xo d ps bs wt ki, oD d lt mn vs, ai (cy 0) (d 1) 24 pt, ai (cy 0) (d 2) 24 tk, ai (cy 0) (d 3) 24 mr, ai (cy 0) (d 4) 10 od, ai (cy 0) (d 5) 10 pl, ai (cy 0) (d 6) 4 rm, ai (cy 0) (d 7) 10 cd] z (fun (r : Int) (u : Int × (Int → Int)) => r = fRoom mn rm i v ∧ ((((0 ≤ i ∧ i < mn) ∧ (1 ≤ v ∧ v ≤ 99)) ∧ u = (vs + 1, ud rm i v)) ∨ (¬ ((0 ≤ i ∧ i < mn) ∧ (1 ≤ v ∧ v ≤ 99)) ∧ u = (vs, rm)))) (fun (u : Int × (Int → Int)) => [oX xo d ps bs wt ki, oD d lt mn u.1, ai (cy 0) (d 1) 24 pt, ai (cy 0) (d 2) 24 tk, ai (cy 0) (d 3) 24 mr, ai (cy 0) (d 4) 10 od, ai (cy 0) (d 5) 10 pl, ai (cy 0) (d 6) 4 u.2, ai (cy 0) (d 7) 10 cd]) 0 0 := by
  refine ct_i (cc := cX5_room) (maxL := 4) (by decide) rfl (Nat.le_of_ble_eq_true rfl) ?_
  intro p e s m args below meth c A Q H locs ls hx hb hml hown hin hts hK hN hP hD hS hA hl hret
  replace hl : lv_has ls 4 [(0, .ref (xo 0)), (1, .int (iI i)), (2, .int (iI v))] := hl
  replace hown : s.vm.findClass RX5 = some m.cls := hown
  obtain ⟨⟨⟨hlt0, hlt1⟩, hmn0, hmn1⟩, ⟨hpt, htk, hmr⟩, ⟨hod, hpl, hpo, hop⟩, hrm, hcd⟩ := id hI
  refine lv_aload_n hx hb dX5_room_0 rfl (lv_at hl 0 rfl) ?_
  refine lv_iload_n hx hb dX5_room_1 rfl (lv_at hl 1 rfl) ?_
  have M_2 := k_X5_isStacker l D cy xo d ps bs wt H.size ki lt mn vs pt tk mr od pl rm cd i (by omega) (hi)
  refine kV_i (wr := []) (As := [.int (iI i)]) (rest := []) (q := (RX5, TX5, 6)) (ci := 5) ⟨hx, hb, hml, hown, hts⟩ M_2 0 rfl rfl (cwV 1 hts gX5_room_X5_isStacker rfl rfl rfl (by decide +kernel) ⟨Nat.le_of_ble_eq_true rfl, Nat.le_of_ble_eq_true rfl⟩) hN hK hP hD hS hA [0, 1, 2, 3, 4, 5, 6, 7, 8] [] rfl rfl (by decide) (by decide) (by decide) rfl hl.1 rfl (Nat.le_of_ble_eq_true rfl) dX5_room_2 ⟨Nat.le_of_ble_eq_true rfl, Nat.le_of_ble_eq_true rfl⟩ (fun r_2 u_2 H locs hw_2 hP hD hS => ?_)
  replace hP : va_P D vwCl [oX xo d ps bs wt ki, oD d lt mn vs, ai (cy 0) (d 1) 24 pt, ai (cy 0) (d 2) 24 tk, ai (cy 0) (d 3) 24 mr, ai (cy 0) (d 4) 10 od, ai (cy 0) (d 5) 10 pl, ai (cy 0) (d 6) 4 rm, ai (cy 0) (d 7) 10 cd] H := hP
  replace hD : va_D A [oX xo d ps bs wt ki, oD d lt mn vs, ai (cy 0) (d 1) 24 pt, ai (cy 0) (d 2) 24 tk, ai (cy 0) (d 3) 24 mr, ai (cy 0) (d 4) 10 od, ai (cy 0) (d 5) 10 pl, ai (cy 0) (d 6) 4 rm, ai (cy 0) (d 7) 10 cd] := hD
  refine r_ne0 hx hb 10 dX5_room_5 (by decide) ⟨by omega, by omega⟩ (fun c_5 => ?_) (fun c_5 => ?_)
  ·
    refine lv_iload_n hx hb dX5_room_10 rfl (lv_at hl 2 rfl) ?_
    refine r_const hx hb dX5_room_11 ?_
    refine r_bip hx hb (99) dX5_room_12 (by decide) ?_
    have M_14 := k_X5_isWithin l D cy  H.size v 1 99 (hv) (⟨by omega, by omega⟩) (⟨by omega, by omega⟩)
    refine kS_i (wr := [oX xo d ps bs wt ki, oD d lt mn vs, ai (cy 0) (d 1) 24 pt, ai (cy 0) (d 2) 24 tk, ai (cy 0) (d 3) 24 mr, ai (cy 0) (d 4) 10 od, ai (cy 0) (d 5) 10 pl, ai (cy 0) (d 6) 4 rm, ai (cy 0) (d 7) 10 cd]) (As := [.int (iI v), .int (iI 1), .int (iI 99)]) (rest := []) ⟨hx, hb, hml, hown, hts⟩ M_14 (va_cwS 3 hts gX5_room_X5_isWithin rfl rfl rfl (by decide +kernel) ⟨Nat.le_of_ble_eq_true rfl, Nat.le_of_ble_eq_true rfl⟩) hN hK hP hD hS hA [] [0, 1, 2, 3, 4, 5, 6, 7, 8] rfl rfl (by decide) (by decide) (by decide) rfl hl.1 rfl (Nat.le_of_ble_eq_true rfl) dX5_room_14 ⟨Nat.le_of_ble_eq_true rfl, Nat.le_of_ble_eq_true rfl⟩ (fun r_14 u_14 H locs hw_14 hP hD hS => ?_)
    replace hP : va_P D vwCl [oX xo d ps bs wt ki, oD d lt mn vs, ai (cy 0) (d 1) 24 pt, ai (cy 0) (d 2) 24 tk, ai (cy 0) (d 3) 24 mr, ai (cy 0) (d 4) 10 od, ai (cy 0) (d 5) 10 pl, ai (cy 0) (d 6) 4 rm, ai (cy 0) (d 7) 10 cd] H := hP
    replace hD : va_D A [oX xo d ps bs wt ki, oD d lt mn vs, ai (cy 0) (d 1) 24 pt, ai (cy 0) (d 2) 24 tk, ai (cy 0) (d 3) 24 mr, ai (cy 0) (d 4) 10 od, ai (cy 0) (d 5) 10 pl, ai (cy 0) (d 6) 4 rm, ai (cy 0) (d 7) 10 cd] := hD
    refine r_ne0 hx hb 23 dX5_room_17 (by decide) ⟨by omega, by omega⟩ (fun c_17 => ?_) (fun c_17 => ?_)
    ·
      refine lv_aload_n hx hb dX5_room_23 rfl (lv_at hl 0 rfl) ?_
      refine va_get (D := D) (C := RX5) (T := TX5) (N := 6) (ci := 5) (v := .ref (d 0)) hx hb hts iw_X5_room_5 hown hK hP 0 rfl rfl 0 (by decide) (hts _ fl_X5_room_10) (fun _ h9 => h9) rfl dX5_room_24 ?_
      refine va_getN (D := D) (C := RX1) (T := TX1) (N := 10) (ci := 1) (v := .ref (d 6)) hx hb hts iw_X5_room_1 hown hK hP 1 rfl rfl 7 (by decide) (nfX5_91 hN) (fun _ h9 => h9) rfl dX5_room_27 ?_
      refine lv_iload_n hx hb dX5_room_30 rfl (lv_at hl 1 rfl) ?_
      refine r_ald hx hb hK hP 7 rfl rfl ⟨by omega, by omega, by omega⟩ dX5_room_31 ?_
      refine lv_istore_n (lv' := [(3, .int (iI (rm i))), (0, .ref (xo 0)), (1, .int (iI i)), (2, .int (iI v))]) hx hb dX5_room_32 rfl hl (by decide) rfl (fun ls hl => ?_)
      refine lv_aload_n hx hb dX5_room_33 rfl (lv_at hl 1 rfl) ?_
      refine va_get (D := D) (C := RX5) (T := TX5) (N := 6) (ci := 5) (v := .ref (d 0)) hx hb hts iw_X5_room_5 hown hK hP 0 rfl rfl 0 (by decide) (hts _ fl_X5_room_10) (fun _ h9 => h9) rfl dX5_room_34 ?_
      refine lv_iload_n hx hb dX5_room_37 rfl (lv_at hl 2 rfl) ?_
      refine lv_iload_n hx hb dX5_room_38 rfl (lv_at hl 3 rfl) ?_
      have M_39 := k_X1_setRoom l D cy d H.size lt mn vs pt tk mr od pl rm cd i v (by omega)
      refine kV_v (wr := [oX xo d ps bs wt ki]) (As := [.int (iI i), .int (iI v)]) (rest := []) (q := (RX1, TX1, 10)) (ci := 1) ⟨hx, hb, hml, hown, hts⟩ M_39 1 rfl rfl (cwV 2 hts gX5_room_X1_setRoom rfl rfl rfl (by decide +kernel) ⟨Nat.le_of_ble_eq_true rfl, Nat.le_of_ble_eq_true rfl⟩) hN hK hP hD hS hA [1, 2, 3, 4, 5, 6, 7, 8] [0] rfl rfl (by decide) (by decide) (by decide) rfl hl.1 rfl (Nat.le_of_ble_eq_true rfl) dX5_room_39 ⟨Nat.le_of_ble_eq_true rfl, Nat.le_of_ble_eq_true rfl⟩ (fun u_39 H locs hw_39 hP hD hS => ?_)
      replace hP : va_P D vwCl [oX xo d ps bs wt ki, oD d lt mn (vs + 1), ai (cy 0) (d 1) 24 pt, ai (cy 0) (d 2) 24 tk, ai (cy 0) (d 3) 24 mr, ai (cy 0) (d 4) 10 od, ai (cy 0) (d 5) 10 pl, ai (cy 0) (d 6) 4 (ud rm i v), ai (cy 0) (d 7) 10 cd] H := hP
      replace hD : va_D A [oX xo d ps bs wt ki, oD d lt mn (vs + 1), ai (cy 0) (d 1) 24 pt, ai (cy 0) (d 2) 24 tk, ai (cy 0) (d 3) 24 mr, ai (cy 0) (d 4) 10 od, ai (cy 0) (d 5) 10 pl, ai (cy 0) (d 6) 4 (ud rm i v), ai (cy 0) (d 7) 10 cd] := hD
      refine lv_iload_n hx hb dX5_room_42 rfl (lv_at hl 0 rfl) ?_
      exact hret [0, 1, 2, 3, 4, 5, 6, 7, 8] (vs + 1, ud rm i v) dX5_room_43 hP hD hS (by decide) rfl (⟨by unfold fRoom; (repeat' split) <;> omega, by first | exact Or.inl ⟨by omega, rfl⟩ | exact Or.inr ⟨by omega, rfl⟩⟩)
    ·
      refine r_bip hx hb (-2) dX5_room_20 (by decide) ?_
      exact hret [0, 1, 2, 3, 4, 5, 6, 7, 8] (vs, rm) dX5_room_22 hP hD hS (by decide) rfl (⟨by unfold fRoom; (repeat' split) <;> omega, by first | exact Or.inl ⟨by omega, rfl⟩ | exact Or.inr ⟨by omega, rfl⟩⟩)
  ·
    refine r_const hx hb dX5_room_8 ?_
    exact hret [0, 1, 2, 3, 4, 5, 6, 7, 8] (vs, rm) dX5_room_9 hP hD hS (by decide) rfl (⟨by unfold fRoom; (repeat' split) <;> omega, by first | exact Or.inl ⟨by omega, rfl⟩ | exact Or.inr ⟨by omega, rfl⟩⟩)
abbrev rm_X5_code : Room := { frames := 2, cells := 0, slots := 0, locals := 42 }
theorem fl_X5_code_10 : Cond.fieldLink RX5 10 "WalkPasses" "desk" "LWalkPasses$Desk;" ∈ wsX5_code := by decide +kernel
theorem iw_X5_code_1 : ∀ w ∈ u_ws RX1 TX1 10, w ∈ wsX5_code := by decide +kernel
theorem iw_X5_code_5 : ∀ w ∈ u_ws RX5 TX5 6, w ∈ wsX5_code := by decide +kernel
set_option maxHeartbeats 4000000 in
set_option maxRecDepth 100000 in
theorem k_X5_code (l : Launch) (D : va_G) (cy : Nat → ClassId) (xo d ps bs wt : Nat → Nat) (z : Nat) (ki : Int) (lt mn vs : Int) (pt tk mr od pl rm cd : Int → Int) (q v : Int) (hI : DI lt mn pt tk mr od pl rm cd) (hq : inR q) (hv : inR v) : CtI l yX5_code wsX5_code rm_X5_code D (tyL cy) [.ref (xo 0), .int (iI q), .int (iI v)] [oX xo d ps bs wt ki, oD d lt mn vs, ai (cy 0) (d 1) 24 pt, ai (cy 0) (d 2) 24 tk, ai (cy 0) (d 3) 24 mr, ai (cy 0) (d 4) 10 od, ai (cy 0) (d 5) 10 pl, ai (cy 0) (d 6) 4 rm, ai (cy 0) (d 7) 10 cd] z (fun (r : Int) (u : Int → Int) => r = fCode cd q v ∧ ((((0 ≤ q ∧ q ≤ 9) ∧ (0 ≤ v ∧ v ≤ 63)) ∧ u = (ud cd q v)) ∨ (¬ ((0 ≤ q ∧ q ≤ 9) ∧ (0 ≤ v ∧ v ≤ 63)) ∧ u = (cd)))) (fun (u : Int → Int) => [oX xo d ps bs wt ki, oD d lt mn vs, ai (cy 0) (d 1) 24 pt, ai (cy 0) (d 2) 24 tk, ai (cy 0) (d 3) 24 mr, ai (cy 0) (d 4) 10 od, ai (cy 0) (d 5) 10 pl, ai (cy 0) (d 6) 4 rm, ai (cy 0) (d 7) 10 u]) 0 0 := by
  refine ct_i (cc := cX5_code) (maxL := 4) (by decide) rfl (Nat.le_of_ble_eq_true rfl) ?_
  intro p e s m args below meth c A Q H locs ls hx hb hml hown hin hts hK hN hP hD hS hA hl hret
  replace hl : lv_has ls 4 [(0, .ref (xo 0)), (1, .int (iI q)), (2, .int (iI v))] := hl
  replace hown : s.vm.findClass RX5 = some m.cls := hown
  obtain ⟨⟨⟨hlt0, hlt1⟩, hmn0, hmn1⟩, ⟨hpt, htk, hmr⟩, ⟨hod, hpl, hpo, hop⟩, hrm, hcd⟩ := id hI
  refine lv_iload_n hx hb dX5_code_0 rfl (lv_at hl 1 rfl) ?_
  have M_1 := k_X5_isPoint l D cy  H.size q (hq)
  refine kS_i (wr := [oX xo d ps bs wt ki, oD d lt mn vs, ai (cy 0) (d 1) 24 pt, ai (cy 0) (d 2) 24 tk, ai (cy 0) (d 3) 24 mr, ai (cy 0) (d 4) 10 od, ai (cy 0) (d 5) 10 pl, ai (cy 0) (d 6) 4 rm, ai (cy 0) (d 7) 10 cd]) (As := [.int (iI q)]) (rest := []) ⟨hx, hb, hml, hown, hts⟩ M_1 (va_cwS 1 hts gX5_code_X5_isPoint rfl rfl rfl (by decide +kernel) ⟨Nat.le_of_ble_eq_true rfl, Nat.le_of_ble_eq_true rfl⟩) hN hK hP hD hS hA [] [0, 1, 2, 3, 4, 5, 6, 7, 8] rfl rfl (by decide) (by decide) (by decide) rfl hl.1 rfl (Nat.le_of_ble_eq_true rfl) dX5_code_1 ⟨Nat.le_of_ble_eq_true rfl, Nat.le_of_ble_eq_true rfl⟩ (fun r_1 u_1 H locs hw_1 hP hD hS => ?_)
  replace hP : va_P D vwCl [oX xo d ps bs wt ki, oD d lt mn vs, ai (cy 0) (d 1) 24 pt, ai (cy 0) (d 2) 24 tk, ai (cy 0) (d 3) 24 mr, ai (cy 0) (d 4) 10 od, ai (cy 0) (d 5) 10 pl, ai (cy 0) (d 6) 4 rm, ai (cy 0) (d 7) 10 cd] H := hP
  replace hD : va_D A [oX xo d ps bs wt ki, oD d lt mn vs, ai (cy 0) (d 1) 24 pt, ai (cy 0) (d 2) 24 tk, ai (cy 0) (d 3) 24 mr, ai (cy 0) (d 4) 10 od, ai (cy 0) (d 5) 10 pl, ai (cy 0) (d 6) 4 rm, ai (cy 0) (d 7) 10 cd] := hD
  refine r_ne0 hx hb 9 dX5_code_4 (by decide) ⟨by omega, by omega⟩ (fun c_4 => ?_) (fun c_4 => ?_)
  ·
    refine lv_iload_n hx hb dX5_code_9 rfl (lv_at hl 2 rfl) ?_
    refine r_const hx hb dX5_code_10 ?_
    refine r_bip hx hb (63) dX5_code_11 (by decide) ?_
    have M_13 := k_X5_isWithin l D cy  H.size v 0 63 (hv) (⟨by omega, by omega⟩) (⟨by omega, by omega⟩)
    refine kS_i (wr := [oX xo d ps bs wt ki, oD d lt mn vs, ai (cy 0) (d 1) 24 pt, ai (cy 0) (d 2) 24 tk, ai (cy 0) (d 3) 24 mr, ai (cy 0) (d 4) 10 od, ai (cy 0) (d 5) 10 pl, ai (cy 0) (d 6) 4 rm, ai (cy 0) (d 7) 10 cd]) (As := [.int (iI v), .int (iI 0), .int (iI 63)]) (rest := []) ⟨hx, hb, hml, hown, hts⟩ M_13 (va_cwS 3 hts gX5_code_X5_isWithin rfl rfl rfl (by decide +kernel) ⟨Nat.le_of_ble_eq_true rfl, Nat.le_of_ble_eq_true rfl⟩) hN hK hP hD hS hA [] [0, 1, 2, 3, 4, 5, 6, 7, 8] rfl rfl (by decide) (by decide) (by decide) rfl hl.1 rfl (Nat.le_of_ble_eq_true rfl) dX5_code_13 ⟨Nat.le_of_ble_eq_true rfl, Nat.le_of_ble_eq_true rfl⟩ (fun r_13 u_13 H locs hw_13 hP hD hS => ?_)
    replace hP : va_P D vwCl [oX xo d ps bs wt ki, oD d lt mn vs, ai (cy 0) (d 1) 24 pt, ai (cy 0) (d 2) 24 tk, ai (cy 0) (d 3) 24 mr, ai (cy 0) (d 4) 10 od, ai (cy 0) (d 5) 10 pl, ai (cy 0) (d 6) 4 rm, ai (cy 0) (d 7) 10 cd] H := hP
    replace hD : va_D A [oX xo d ps bs wt ki, oD d lt mn vs, ai (cy 0) (d 1) 24 pt, ai (cy 0) (d 2) 24 tk, ai (cy 0) (d 3) 24 mr, ai (cy 0) (d 4) 10 od, ai (cy 0) (d 5) 10 pl, ai (cy 0) (d 6) 4 rm, ai (cy 0) (d 7) 10 cd] := hD
    refine r_ne0 hx hb 22 dX5_code_16 (by decide) ⟨by omega, by omega⟩ (fun c_16 => ?_) (fun c_16 => ?_)
    ·
      refine lv_aload_n hx hb dX5_code_22 rfl (lv_at hl 0 rfl) ?_
      refine va_get (D := D) (C := RX5) (T := TX5) (N := 6) (ci := 5) (v := .ref (d 0)) hx hb hts iw_X5_code_5 hown hK hP 0 rfl rfl 0 (by decide) (hts _ fl_X5_code_10) (fun _ h9 => h9) rfl dX5_code_23 ?_
      refine va_getN (D := D) (C := RX1) (T := TX1) (N := 10) (ci := 1) (v := .ref (d 7)) hx hb hts iw_X5_code_1 hown hK hP 1 rfl rfl 8 (by decide) (nfX5_97 hN) (fun _ h9 => h9) rfl dX5_code_26 ?_
      refine lv_iload_n hx hb dX5_code_29 rfl (lv_at hl 1 rfl) ?_
      refine r_ald hx hb hK hP 8 rfl rfl ⟨by omega, by omega, by omega⟩ dX5_code_30 ?_
      refine lv_istore_n (lv' := [(3, .int (iI (cd q))), (0, .ref (xo 0)), (1, .int (iI q)), (2, .int (iI v))]) hx hb dX5_code_31 rfl hl (by decide) rfl (fun ls hl => ?_)
      refine lv_aload_n hx hb dX5_code_32 rfl (lv_at hl 1 rfl) ?_
      refine va_get (D := D) (C := RX5) (T := TX5) (N := 6) (ci := 5) (v := .ref (d 0)) hx hb hts iw_X5_code_5 hown hK hP 0 rfl rfl 0 (by decide) (hts _ fl_X5_code_10) (fun _ h9 => h9) rfl dX5_code_33 ?_
      refine va_getN (D := D) (C := RX1) (T := TX1) (N := 10) (ci := 1) (v := .ref (d 7)) hx hb hts iw_X5_code_1 hown hK hP 1 rfl rfl 8 (by decide) (nfX5_97 hN) (fun _ h9 => h9) rfl dX5_code_36 ?_
      refine lv_iload_n hx hb dX5_code_39 rfl (lv_at hl 2 rfl) ?_
      refine lv_iload_n hx hb dX5_code_40 rfl (lv_at hl 3 rfl) ?_
      refine r_ast hx hb hK hP hD hS 8 rfl rfl ⟨by omega, by omega, by omega⟩ dX5_code_41 (fun H locs hP hD hS => ?_)
      replace hP : va_P D vwCl [oX xo d ps bs wt ki, oD d lt mn vs, ai (cy 0) (d 1) 24 pt, ai (cy 0) (d 2) 24 tk, ai (cy 0) (d 3) 24 mr, ai (cy 0) (d 4) 10 od, ai (cy 0) (d 5) 10 pl, ai (cy 0) (d 6) 4 rm, ai (cy 0) (d 7) 10 (ud cd q v)] H := hP
      replace hD : va_D A [oX xo d ps bs wt ki, oD d lt mn vs, ai (cy 0) (d 1) 24 pt, ai (cy 0) (d 2) 24 tk, ai (cy 0) (d 3) 24 mr, ai (cy 0) (d 4) 10 od, ai (cy 0) (d 5) 10 pl, ai (cy 0) (d 6) 4 rm, ai (cy 0) (d 7) 10 (ud cd q v)] := hD
      refine lv_iload_n hx hb dX5_code_42 rfl (lv_at hl 0 rfl) ?_
      exact hret [0, 1, 2, 3, 4, 5, 6, 7, 8] (ud cd q v) dX5_code_43 hP hD hS (by decide) rfl (⟨by unfold fCode; (repeat' split) <;> omega, by first | exact Or.inl ⟨by omega, rfl⟩ | exact Or.inr ⟨by omega, rfl⟩⟩)
    ·
      refine r_bip hx hb (-2) dX5_code_19 (by decide) ?_
      exact hret [0, 1, 2, 3, 4, 5, 6, 7, 8] cd dX5_code_21 hP hD hS (by decide) rfl (⟨by unfold fCode; (repeat' split) <;> omega, by first | exact Or.inl ⟨by omega, rfl⟩ | exact Or.inr ⟨by omega, rfl⟩⟩)
  ·
    refine r_const hx hb dX5_code_7 ?_
    exact hret [0, 1, 2, 3, 4, 5, 6, 7, 8] cd dX5_code_8 hP hD hS (by decide) rfl (⟨by unfold fCode; (repeat' split) <;> omega, by first | exact Or.inl ⟨by omega, rfl⟩ | exact Or.inr ⟨by omega, rfl⟩⟩)
abbrev rm_X5_dense : Room := { frames := 2, cells := 0, slots := 0, locals := 45 }
theorem fl_X5_dense_10 : Cond.fieldLink RX5 10 "WalkPasses" "desk" "LWalkPasses$Desk;" ∈ wsX5_dense := by decide +kernel
theorem iw_X5_dense_5 : ∀ w ∈ u_ws RX5 TX5 6, w ∈ wsX5_dense := by decide +kernel
set_option maxHeartbeats 4000000 in
set_option maxRecDepth 100000 in
theorem k_X5_dense (l : Launch) (D : va_G) (cy : Nat → ClassId) (xo d ps bs wt : Nat → Nat) (z : Nat) (ki : Int) (lt mn vs : Int) (pt tk mr od pl rm cd : Int → Int) (hI : DI lt mn pt tk mr od pl rm cd) : CtI l yX5_dense wsX5_dense rm_X5_dense D (tyL cy) [.ref (xo 0)] [oX xo d ps bs wt ki, oD d lt mn vs, ai (cy 0) (d 1) 24 pt, ai (cy 0) (d 2) 24 tk, ai (cy 0) (d 3) 24 mr, ai (cy 0) (d 4) 10 od, ai (cy 0) (d 5) 10 pl, ai (cy 0) (d 6) 4 rm, ai (cy 0) (d 7) 10 cd] z (fun (r : Int) (u : Unit) => r = denN (hasI pt lt) od 10) (fun (u : Unit) => [oX xo d ps bs wt ki, oD d lt mn vs, ai (cy 0) (d 1) 24 pt, ai (cy 0) (d 2) 24 tk, ai (cy 0) (d 3) 24 mr, ai (cy 0) (d 4) 10 od, ai (cy 0) (d 5) 10 pl, ai (cy 0) (d 6) 4 rm, ai (cy 0) (d 7) 10 (denC (hasI pt lt) od cd 10)]) 0 0 := by
  refine ct_i (cc := cX5_dense) (maxL := 1) (by decide) rfl (Nat.le_of_ble_eq_true rfl) ?_
  intro p e s m args below meth c A Q H locs ls hx hb hml hown hin hts hK hN hP hD hS hA hl hret
  replace hl : lv_has ls 1 [(0, .ref (xo 0))] := hl
  replace hown : s.vm.findClass RX5 = some m.cls := hown
  obtain ⟨⟨⟨hlt0, hlt1⟩, hmn0, hmn1⟩, ⟨hpt, htk, hmr⟩, ⟨hod, hpl, hpo, hop⟩, hrm, hcd⟩ := id hI
  refine lv_aload_n hx hb dX5_dense_0 rfl (lv_at hl 0 rfl) ?_
  refine va_get (D := D) (C := RX5) (T := TX5) (N := 6) (ci := 5) (v := .ref (d 0)) hx hb hts iw_X5_dense_5 hown hK hP 0 rfl rfl 0 (by decide) (hts _ fl_X5_dense_10) (fun _ h9 => h9) rfl dX5_dense_1 ?_
  have M_4 := k_X1_codeDensely l D cy d H.size lt mn vs pt tk mr od pl rm cd (hI)
  refine kV_i (wr := [oX xo d ps bs wt ki]) (As := []) (rest := []) (q := (RX1, TX1, 10)) (ci := 1) ⟨hx, hb, hml, hown, hts⟩ M_4 1 rfl rfl (cwV 0 hts gX5_dense_X1_codeDensely rfl rfl rfl (by decide +kernel) ⟨Nat.le_of_ble_eq_true rfl, Nat.le_of_ble_eq_true rfl⟩) hN hK hP hD hS hA [1, 2, 3, 4, 5, 6, 7, 8] [0] rfl rfl (by decide) (by decide) (by decide) rfl hl.1 rfl (Nat.le_of_ble_eq_true rfl) dX5_dense_4 ⟨Nat.le_of_ble_eq_true rfl, Nat.le_of_ble_eq_true rfl⟩ (fun r_4 u_4 H locs hw_4 hP hD hS => ?_)
  replace hP : va_P D vwCl [oX xo d ps bs wt ki, oD d lt mn vs, ai (cy 0) (d 1) 24 pt, ai (cy 0) (d 2) 24 tk, ai (cy 0) (d 3) 24 mr, ai (cy 0) (d 4) 10 od, ai (cy 0) (d 5) 10 pl, ai (cy 0) (d 6) 4 rm, ai (cy 0) (d 7) 10 (denC (hasI pt lt) od cd 10)] H := hP
  replace hD : va_D A [oX xo d ps bs wt ki, oD d lt mn vs, ai (cy 0) (d 1) 24 pt, ai (cy 0) (d 2) 24 tk, ai (cy 0) (d 3) 24 mr, ai (cy 0) (d 4) 10 od, ai (cy 0) (d 5) 10 pl, ai (cy 0) (d 6) 4 rm, ai (cy 0) (d 7) 10 (denC (hasI pt lt) od cd 10)] := hD
  exact hret [0, 1, 2, 3, 4, 5, 6, 7, 8] () dX5_dense_7 hP hD hS (by decide) rfl (hw_4)
abbrev rm_X5_of : Room := { frames := 2, cells := 0, slots := 0, locals := 43 }
theorem fl_X5_of_10 : Cond.fieldLink RX5 10 "WalkPasses" "desk" "LWalkPasses$Desk;" ∈ wsX5_of := by decide +kernel
theorem iw_X5_of_1 : ∀ w ∈ u_ws RX1 TX1 10, w ∈ wsX5_of := by decide +kernel
theorem iw_X5_of_5 : ∀ w ∈ u_ws RX5 TX5 6, w ∈ wsX5_of := by decide +kernel
set_option maxHeartbeats 4000000 in
set_option maxRecDepth 100000 in
theorem k_X5_of (l : Launch) (D : va_G) (cy : Nat → ClassId) (xo d ps bs wt : Nat → Nat) (z : Nat) (ki : Int) (lt mn vs : Int) (pt tk mr od pl rm cd : Int → Int) (i v : Int) (hI : DI lt mn pt tk mr od pl rm cd) (hi : inR i) (hv : inR v) : CtI l yX5_of wsX5_of rm_X5_of D (tyL cy) [.ref (xo 0), .int (iI i), .int (iI v)] [oX xo d ps bs wt ki, oD d lt mn vs, ai (cy 0) (d 1) 24 pt, ai (cy 0) (d 2) 24 tk, ai (cy 0) (d 3) 24 mr, ai (cy 0) (d 4) 10 od, ai (cy 0) (d 5) 10 pl, ai (cy 0) (d 6) 4 rm, ai (cy 0) (d 7) 10 cd] z (fun (r : Int) (u : Unit) => r = fOf lt pt tk mr i v) (fun (u : Unit) => [oX xo d ps bs wt ki, oD d lt mn vs, ai (cy 0) (d 1) 24 pt, ai (cy 0) (d 2) 24 tk, ai (cy 0) (d 3) 24 mr, ai (cy 0) (d 4) 10 od, ai (cy 0) (d 5) 10 pl, ai (cy 0) (d 6) 4 rm, ai (cy 0) (d 7) 10 cd]) 0 0 := by
  refine ct_i (cc := cX5_of) (maxL := 3) (by decide) rfl (Nat.le_of_ble_eq_true rfl) ?_
  intro p e s m args below meth c A Q H locs ls hx hb hml hown hin hts hK hN hP hD hS hA hl hret
  replace hl : lv_has ls 3 [(0, .ref (xo 0)), (1, .int (iI i)), (2, .int (iI v))] := hl
  replace hown : s.vm.findClass RX5 = some m.cls := hown
  obtain ⟨⟨⟨hlt0, hlt1⟩, hmn0, hmn1⟩, ⟨hpt, htk, hmr⟩, ⟨hod, hpl, hpo, hop⟩, hrm, hcd⟩ := id hI
  refine lv_aload_n hx hb dX5_of_0 rfl (lv_at hl 0 rfl) ?_
  refine lv_iload_n hx hb dX5_of_1 rfl (lv_at hl 1 rfl) ?_
  have M_2 := k_X5_isLetter l D cy xo d ps bs wt H.size ki lt mn vs pt tk mr od pl rm cd i (by omega) (hi)
  refine kV_i (wr := []) (As := [.int (iI i)]) (rest := []) (q := (RX5, TX5, 6)) (ci := 5) ⟨hx, hb, hml, hown, hts⟩ M_2 0 rfl rfl (cwV 1 hts gX5_of_X5_isLetter rfl rfl rfl (by decide +kernel) ⟨Nat.le_of_ble_eq_true rfl, Nat.le_of_ble_eq_true rfl⟩) hN hK hP hD hS hA [0, 1, 2, 3, 4, 5, 6, 7, 8] [] rfl rfl (by decide) (by decide) (by decide) rfl hl.1 rfl (Nat.le_of_ble_eq_true rfl) dX5_of_2 ⟨Nat.le_of_ble_eq_true rfl, Nat.le_of_ble_eq_true rfl⟩ (fun r_2 u_2 H locs hw_2 hP hD hS => ?_)
  replace hP : va_P D vwCl [oX xo d ps bs wt ki, oD d lt mn vs, ai (cy 0) (d 1) 24 pt, ai (cy 0) (d 2) 24 tk, ai (cy 0) (d 3) 24 mr, ai (cy 0) (d 4) 10 od, ai (cy 0) (d 5) 10 pl, ai (cy 0) (d 6) 4 rm, ai (cy 0) (d 7) 10 cd] H := hP
  replace hD : va_D A [oX xo d ps bs wt ki, oD d lt mn vs, ai (cy 0) (d 1) 24 pt, ai (cy 0) (d 2) 24 tk, ai (cy 0) (d 3) 24 mr, ai (cy 0) (d 4) 10 od, ai (cy 0) (d 5) 10 pl, ai (cy 0) (d 6) 4 rm, ai (cy 0) (d 7) 10 cd] := hD
  refine r_ne0 hx hb 10 dX5_of_5 (by decide) ⟨by omega, by omega⟩ (fun c_5 => ?_) (fun c_5 => ?_)
  ·
    refine lv_iload_n hx hb dX5_of_10 rfl (lv_at hl 2 rfl) ?_
    have hr_11 : inR v := hv
    by_cases c_11 : v < 0 ∨ 2 < v
    · refine lv_tableOut (tgt := 66) hx hb dX5_of_11 (by rw [iI_toInt hr_11]; exact c_11) (by decide) ?_
      refine r_bip hx hb (-2) dX5_of_66 (by decide) ?_
      exact hret [0, 1, 2, 3, 4, 5, 6, 7, 8] () dX5_of_68 hP hD hS (by decide) rfl (by unfold fOf; (repeat' split) <;> omega)
    by_cases c_11_0 : v = 0
    · refine lv_tableIn (tgt := 36) hx hb dX5_of_11 (by rw [iI_toInt hr_11]; omega) (by rw [iI_toInt hr_11]; omega) (off := 25) (by rw [iI_toInt hr_11, c_11_0]; rfl) (by decide) ?_
      refine lv_aload_n hx hb dX5_of_36 rfl (lv_at hl 0 rfl) ?_
      refine va_get (D := D) (C := RX5) (T := TX5) (N := 6) (ci := 5) (v := .ref (d 0)) hx hb hts iw_X5_of_5 hown hK hP 0 rfl rfl 0 (by decide) (hts _ fl_X5_of_10) (fun _ h9 => h9) rfl dX5_of_37 ?_
      refine va_getN (D := D) (C := RX1) (T := TX1) (N := 10) (ci := 1) (v := .ref (d 1)) hx hb hts iw_X5_of_1 hown hK hP 1 rfl rfl 1 (by decide) (nfX5_103 hN) (fun _ h9 => h9) rfl dX5_of_40 ?_
      refine lv_iload_n hx hb dX5_of_43 rfl (lv_at hl 1 rfl) ?_
      refine r_ald hx hb hK hP 2 rfl rfl ⟨by omega, by omega, by omega⟩ dX5_of_44 ?_
      exact hret [0, 1, 2, 3, 4, 5, 6, 7, 8] () dX5_of_45 hP hD hS (by decide) rfl (by unfold fOf; (repeat' split) <;> omega)
    by_cases c_11_1 : v = 1
    · refine lv_tableIn (tgt := 46) hx hb dX5_of_11 (by rw [iI_toInt hr_11]; omega) (by rw [iI_toInt hr_11]; omega) (off := 35) (by rw [iI_toInt hr_11, c_11_1]; rfl) (by decide) ?_
      refine lv_aload_n hx hb dX5_of_46 rfl (lv_at hl 0 rfl) ?_
      refine va_get (D := D) (C := RX5) (T := TX5) (N := 6) (ci := 5) (v := .ref (d 0)) hx hb hts iw_X5_of_5 hown hK hP 0 rfl rfl 0 (by decide) (hts _ fl_X5_of_10) (fun _ h9 => h9) rfl dX5_of_47 ?_
      refine va_getN (D := D) (C := RX1) (T := TX1) (N := 10) (ci := 1) (v := .ref (d 2)) hx hb hts iw_X5_of_1 hown hK hP 1 rfl rfl 2 (by decide) (nfX5_106 hN) (fun _ h9 => h9) rfl dX5_of_50 ?_
      refine lv_iload_n hx hb dX5_of_53 rfl (lv_at hl 1 rfl) ?_
      refine r_ald hx hb hK hP 3 rfl rfl ⟨by omega, by omega, by omega⟩ dX5_of_54 ?_
      exact hret [0, 1, 2, 3, 4, 5, 6, 7, 8] () dX5_of_55 hP hD hS (by decide) rfl (by unfold fOf; (repeat' split) <;> omega)
    by_cases c_11_2 : v = 2
    · refine lv_tableIn (tgt := 56) hx hb dX5_of_11 (by rw [iI_toInt hr_11]; omega) (by rw [iI_toInt hr_11]; omega) (off := 45) (by rw [iI_toInt hr_11, c_11_2]; rfl) (by decide) ?_
      refine lv_aload_n hx hb dX5_of_56 rfl (lv_at hl 0 rfl) ?_
      refine va_get (D := D) (C := RX5) (T := TX5) (N := 6) (ci := 5) (v := .ref (d 0)) hx hb hts iw_X5_of_5 hown hK hP 0 rfl rfl 0 (by decide) (hts _ fl_X5_of_10) (fun _ h9 => h9) rfl dX5_of_57 ?_
      refine va_getN (D := D) (C := RX1) (T := TX1) (N := 10) (ci := 1) (v := .ref (d 3)) hx hb hts iw_X5_of_1 hown hK hP 1 rfl rfl 3 (by decide) (nfX5_109 hN) (fun _ h9 => h9) rfl dX5_of_60 ?_
      refine lv_iload_n hx hb dX5_of_63 rfl (lv_at hl 1 rfl) ?_
      refine r_ald hx hb hK hP 4 rfl rfl ⟨by omega, by omega, by omega⟩ dX5_of_64 ?_
      exact hret [0, 1, 2, 3, 4, 5, 6, 7, 8] () dX5_of_65 hP hD hS (by decide) rfl (by unfold fOf; (repeat' split) <;> omega)
    exact absurd c_11 (by omega)
  ·
    refine r_const hx hb dX5_of_8 ?_
    exact hret [0, 1, 2, 3, 4, 5, 6, 7, 8] () dX5_of_9 hP hD hS (by decide) rfl (by unfold fOf; (repeat' split) <;> omega)
abbrev rm_X2_perform : Room := { frames := 3, cells := 0, slots := 0, locals := 88 }
set_option maxHeartbeats 4000000 in
set_option maxRecDepth 100000 in
theorem k_X2_perform (l : Launch) (D : va_G) (cy : Nat → ClassId) (ps d : Nat → Nat) (z : Nat) (cm : Int) (or sa so g0 g1 g2 g3 ht ld : Int → Int) (lt mn vs : Int) (pt tk mr od pl rm cd : Int → Int) (k : Int) (hI : DI lt mn pt tk mr od pl rm cd) (hk : 1 ≤ k ∧ k ≤ 3) : CtV l yX2_perform wsX2_perform rm_X2_perform D (tyL cy) [.ref (ps 0), .ref (d 0), .ref (d 7), .int (iI k)] [oP ps cm, ai (cy 0) (ps 1) 24 or, ai (cy 0) (ps 2) 24 sa, ai (cy 0) (ps 3) 10 so, aq (cy 3) (ps 4) 4 (fun ix => ps (5 + ix)), ai (cy 0) (ps 5) 24 g0, ai (cy 0) (ps 6) 24 g1, ai (cy 0) (ps 7) 24 g2, ai (cy 0) (ps 8) 24 g3, ai (cy 0) (ps 9) 4 ht, ai (cy 0) (ps 10) 4 ld, oD d lt mn vs, ai (cy 0) (d 1) 24 pt, ai (cy 0) (d 2) 24 tk, ai (cy 0) (d 3) 24 mr, ai (cy 0) (d 4) 10 od, ai (cy 0) (d 5) 10 pl, ai (cy 0) (d 6) 4 rm, ai (cy 0) (d 7) 10 cd] z (fun (u : Int × (Int → Int) × (Int → Int) × (Int → Int) × (Int → Int) × (Int → Int) × (Int → Int) × (Int → Int) × (Int → Int) × (Int → Int)) => RnP lt mn pt tk mr rm cd k.toNat u.1 u.2.1 u.2.2.1 u.2.2.2.2.2.2.2.2.2) (fun (u : Int × (Int → Int) × (Int → Int) × (Int → Int) × (Int → Int) × (Int → Int) × (Int → Int) × (Int → Int) × (Int → Int) × (Int → Int)) => [oP ps u.1, ai (cy 0) (ps 1) 24 u.2.1, ai (cy 0) (ps 2) 24 u.2.2.1, ai (cy 0) (ps 3) 10 u.2.2.2.1, aq (cy 3) (ps 4) 4 (fun ix => ps (5 + ix)), ai (cy 0) (ps 5) 24 u.2.2.2.2.1, ai (cy 0) (ps 6) 24 u.2.2.2.2.2.1, ai (cy 0) (ps 7) 24 u.2.2.2.2.2.2.1, ai (cy 0) (ps 8) 24 u.2.2.2.2.2.2.2.1, ai (cy 0) (ps 9) 4 u.2.2.2.2.2.2.2.2.1, ai (cy 0) (ps 10) 4 u.2.2.2.2.2.2.2.2.2, oD d lt mn vs, ai (cy 0) (d 1) 24 pt, ai (cy 0) (d 2) 24 tk, ai (cy 0) (d 3) 24 mr, ai (cy 0) (d 4) 10 od, ai (cy 0) (d 5) 10 pl, ai (cy 0) (d 6) 4 rm, ai (cy 0) (d 7) 10 cd]) 0 0 := by
  refine ct_v (cc := cX2_perform) (maxL := 4) (by decide) rfl (Nat.le_of_ble_eq_true rfl) ?_
  intro p e s m args below meth c A Q H locs ls hx hb hml hown hin hts hK hN hP hD hS hA hl hret
  replace hl : lv_has ls 4 [(0, .ref (ps 0)), (1, .ref (d 0)), (2, .ref (d 7)), (3, .int (iI k))] := hl
  replace hown : s.vm.findClass RX2 = some m.cls := hown
  obtain ⟨⟨⟨hlt0, hlt1⟩, hmn0, hmn1⟩, ⟨hpt, htk, hmr⟩, ⟨hod, hpl, hpo, hop⟩, hrm, hcd⟩ := id hI
  refine lv_aload_n hx hb dX2_perform_0 rfl (lv_at hl 0 rfl) ?_
  refine lv_aload_n hx hb dX2_perform_1 rfl (lv_at hl 1 rfl) ?_
  refine lv_aload_n hx hb dX2_perform_2 rfl (lv_at hl 2 rfl) ?_
  refine lv_iload_n hx hb dX2_perform_3 rfl (lv_at hl 3 rfl) ?_
  refine r_bip hx hb (24) dX2_perform_4 (by decide) ?_
  have M_6 := k_X2_countSpilledUpTo_o l D cy ps d H.size cm or sa so g0 g1 g2 g3 ht ld lt mn vs pt tk mr od pl rm cd k 24 (hI) (hk) (by omega)
  refine kV_i (wr := []) (As := [.ref (d 0), .ref (d 7), .int (iI k), .int (iI 24)]) (rest := []) (q := (RX2, TX2, 7)) (ci := 2) ⟨hx, hb, hml, hown, hts⟩ M_6 0 rfl rfl (cwV 4 hts gX2_perform_X2_countSpilledUpTo rfl rfl rfl (by decide +kernel) ⟨Nat.le_of_ble_eq_true rfl, Nat.le_of_ble_eq_true rfl⟩) hN hK hP hD hS hA [0, 1, 2, 3, 4, 5, 6, 7, 8, 9, 10, 11, 12, 13, 14, 15, 16, 17, 18] [] rfl rfl (by decide) (by decide) (by decide) rfl hl.1 rfl (Nat.le_of_ble_eq_true rfl) dX2_perform_6 ⟨Nat.le_of_ble_eq_true rfl, Nat.le_of_ble_eq_true rfl⟩ (fun r_6 u_6 H locs hw_6 hP hD hS => ?_)
  obtain ⟨v_1, v_2, v_3, v_4, v_5, v_6, v_7, v_8, v_9, v_10⟩ := u_6
  try dsimp only at hw_6
  replace hP : va_P D vwCl [oP ps v_1, ai (cy 0) (ps 1) 24 v_2, ai (cy 0) (ps 2) 24 v_3, ai (cy 0) (ps 3) 10 v_4, aq (cy 3) (ps 4) 4 (fun ix => ps (5 + ix)), ai (cy 0) (ps 5) 24 v_5, ai (cy 0) (ps 6) 24 v_6, ai (cy 0) (ps 7) 24 v_7, ai (cy 0) (ps 8) 24 v_8, ai (cy 0) (ps 9) 4 v_9, ai (cy 0) (ps 10) 4 v_10, oD d lt mn vs, ai (cy 0) (d 1) 24 pt, ai (cy 0) (d 2) 24 tk, ai (cy 0) (d 3) 24 mr, ai (cy 0) (d 4) 10 od, ai (cy 0) (d 5) 10 pl, ai (cy 0) (d 6) 4 rm, ai (cy 0) (d 7) 10 cd] H := hP
  replace hD : va_D A [oP ps v_1, ai (cy 0) (ps 1) 24 v_2, ai (cy 0) (ps 2) 24 v_3, ai (cy 0) (ps 3) 10 v_4, aq (cy 3) (ps 4) 4 (fun ix => ps (5 + ix)), ai (cy 0) (ps 5) 24 v_5, ai (cy 0) (ps 6) 24 v_6, ai (cy 0) (ps 7) 24 v_7, ai (cy 0) (ps 8) 24 v_8, ai (cy 0) (ps 9) 4 v_9, ai (cy 0) (ps 10) 4 v_10, oD d lt mn vs, ai (cy 0) (d 1) 24 pt, ai (cy 0) (d 2) 24 tk, ai (cy 0) (d 3) 24 mr, ai (cy 0) (d 4) 10 od, ai (cy 0) (d 5) 10 pl, ai (cy 0) (d 6) 4 rm, ai (cy 0) (d 7) 10 cd] := hD
  refine lv_pop hx hb dX2_perform_9 rfl ?_
  have hrl := rn_len lt mn pt tk mr rm cd hlt0 k.toNat
  exact hret [0, 1, 2, 3, 4, 5, 6, 7, 8, 9, 10, 11, 12, 13, 14, 15, 16, 17, 18] (v_1, v_2, v_3, v_4, v_5, v_6, v_7, v_8, v_9, v_10) dX2_perform_10 hP hD hS (by decide) rfl ((hw_6.1 (by omega)).2)
abbrev rm_X5_run : Room := { frames := 4, cells := 0, slots := 0, locals := 111 }
theorem fl_X5_run_10 : Cond.fieldLink RX5 10 "WalkPasses" "desk" "LWalkPasses$Desk;" ∈ wsX5_run := by decide +kernel
theorem fl_X5_run_23 : Cond.fieldLink RX5 23 "WalkPasses" "passes" "LWalkPasses$Passes;" ∈ wsX5_run := by decide +kernel
theorem iw_X5_run_1 : ∀ w ∈ u_ws RX1 TX1 10, w ∈ wsX5_run := by decide +kernel
theorem iw_X5_run_2 : ∀ w ∈ u_ws RX2 TX2 7, w ∈ wsX5_run := by decide +kernel
theorem iw_X5_run_5 : ∀ w ∈ u_ws RX5 TX5 6, w ∈ wsX5_run := by decide +kernel
set_option maxHeartbeats 4000000 in
set_option maxRecDepth 100000 in
theorem k_X5_run (l : Launch) (D : va_G) (cy : Nat → ClassId) (xo d ps bs wt : Nat → Nat) (z : Nat) (ki : Int) (lt mn vs : Int) (pt tk mr od pl rm cd : Int → Int) (cm : Int) (or sa so g0 g1 g2 g3 ht ld : Int → Int) (k v : Int) (hI : DI lt mn pt tk mr od pl rm cd) (hk9 : inR k) (hv : inR v) : CtI l yX5_run wsX5_run rm_X5_run D (tyL cy) [.ref (xo 0), .int (iI k), .int (iI v)] [oX xo d ps bs wt ki, oD d lt mn vs, ai (cy 0) (d 1) 24 pt, ai (cy 0) (d 2) 24 tk, ai (cy 0) (d 3) 24 mr, ai (cy 0) (d 4) 10 od, ai (cy 0) (d 5) 10 pl, ai (cy 0) (d 6) 4 rm, ai (cy 0) (d 7) 10 cd, oP ps cm, ai (cy 0) (ps 1) 24 or, ai (cy 0) (ps 2) 24 sa, ai (cy 0) (ps 3) 10 so, aq (cy 3) (ps 4) 4 (fun ix => ps (5 + ix)), ai (cy 0) (ps 5) 24 g0, ai (cy 0) (ps 6) 24 g1, ai (cy 0) (ps 7) 24 g2, ai (cy 0) (ps 8) 24 g3, ai (cy 0) (ps 9) 4 ht, ai (cy 0) (ps 10) 4 ld] z (fun (r : Int) (u : Int × (Int → Int) × (Int → Int) × (Int → Int) × (Int → Int) × (Int → Int) × (Int → Int) × (Int → Int) × (Int → Int) × (Int → Int)) => r = fRun lt mn pt tk mr pl rm cd k v) (fun (u : Int × (Int → Int) × (Int → Int) × (Int → Int) × (Int → Int) × (Int → Int) × (Int → Int) × (Int → Int) × (Int → Int) × (Int → Int)) => [oX xo d ps bs wt ki, oD d lt mn vs, ai (cy 0) (d 1) 24 pt, ai (cy 0) (d 2) 24 tk, ai (cy 0) (d 3) 24 mr, ai (cy 0) (d 4) 10 od, ai (cy 0) (d 5) 10 pl, ai (cy 0) (d 6) 4 rm, ai (cy 0) (d 7) 10 cd, oP ps u.1, ai (cy 0) (ps 1) 24 u.2.1, ai (cy 0) (ps 2) 24 u.2.2.1, ai (cy 0) (ps 3) 10 u.2.2.2.1, aq (cy 3) (ps 4) 4 (fun ix => ps (5 + ix)), ai (cy 0) (ps 5) 24 u.2.2.2.2.1, ai (cy 0) (ps 6) 24 u.2.2.2.2.2.1, ai (cy 0) (ps 7) 24 u.2.2.2.2.2.2.1, ai (cy 0) (ps 8) 24 u.2.2.2.2.2.2.2.1, ai (cy 0) (ps 9) 4 u.2.2.2.2.2.2.2.2.1, ai (cy 0) (ps 10) 4 u.2.2.2.2.2.2.2.2.2]) 0 0 := by
  refine ct_i (cc := cX5_run) (maxL := 3) (by decide) rfl (Nat.le_of_ble_eq_true rfl) ?_
  intro p e s m args below meth c A Q H locs ls hx hb hml hown hin hts hK hN hP hD hS hA hl hret
  replace hl : lv_has ls 3 [(0, .ref (xo 0)), (1, .int (iI k)), (2, .int (iI v))] := hl
  replace hown : s.vm.findClass RX5 = some m.cls := hown
  obtain ⟨⟨⟨hlt0, hlt1⟩, hmn0, hmn1⟩, ⟨hpt, htk, hmr⟩, ⟨hod, hpl, hpo, hop⟩, hrm, hcd⟩ := id hI
  refine lv_iload_n hx hb dX5_run_0 rfl (lv_at hl 1 rfl) ?_
  have M_1 := k_X5_isPasses l D cy  H.size k (hk9)
  refine kS_i (wr := [oX xo d ps bs wt ki, oD d lt mn vs, ai (cy 0) (d 1) 24 pt, ai (cy 0) (d 2) 24 tk, ai (cy 0) (d 3) 24 mr, ai (cy 0) (d 4) 10 od, ai (cy 0) (d 5) 10 pl, ai (cy 0) (d 6) 4 rm, ai (cy 0) (d 7) 10 cd, oP ps cm, ai (cy 0) (ps 1) 24 or, ai (cy 0) (ps 2) 24 sa, ai (cy 0) (ps 3) 10 so, aq (cy 3) (ps 4) 4 (fun ix => ps (5 + ix)), ai (cy 0) (ps 5) 24 g0, ai (cy 0) (ps 6) 24 g1, ai (cy 0) (ps 7) 24 g2, ai (cy 0) (ps 8) 24 g3, ai (cy 0) (ps 9) 4 ht, ai (cy 0) (ps 10) 4 ld]) (As := [.int (iI k)]) (rest := []) ⟨hx, hb, hml, hown, hts⟩ M_1 (va_cwS 1 hts gX5_run_X5_isPasses rfl rfl rfl (by decide +kernel) ⟨Nat.le_of_ble_eq_true rfl, Nat.le_of_ble_eq_true rfl⟩) hN hK hP hD hS hA [] [0, 1, 2, 3, 4, 5, 6, 7, 8, 9, 10, 11, 12, 13, 14, 15, 16, 17, 18, 19] rfl rfl (by decide) (by decide) (by decide) rfl hl.1 rfl (Nat.le_of_ble_eq_true rfl) dX5_run_1 ⟨Nat.le_of_ble_eq_true rfl, Nat.le_of_ble_eq_true rfl⟩ (fun r_1 u_1 H locs hw_1 hP hD hS => ?_)
  replace hP : va_P D vwCl [oX xo d ps bs wt ki, oD d lt mn vs, ai (cy 0) (d 1) 24 pt, ai (cy 0) (d 2) 24 tk, ai (cy 0) (d 3) 24 mr, ai (cy 0) (d 4) 10 od, ai (cy 0) (d 5) 10 pl, ai (cy 0) (d 6) 4 rm, ai (cy 0) (d 7) 10 cd, oP ps cm, ai (cy 0) (ps 1) 24 or, ai (cy 0) (ps 2) 24 sa, ai (cy 0) (ps 3) 10 so, aq (cy 3) (ps 4) 4 (fun ix => ps (5 + ix)), ai (cy 0) (ps 5) 24 g0, ai (cy 0) (ps 6) 24 g1, ai (cy 0) (ps 7) 24 g2, ai (cy 0) (ps 8) 24 g3, ai (cy 0) (ps 9) 4 ht, ai (cy 0) (ps 10) 4 ld] H := hP
  replace hD : va_D A [oX xo d ps bs wt ki, oD d lt mn vs, ai (cy 0) (d 1) 24 pt, ai (cy 0) (d 2) 24 tk, ai (cy 0) (d 3) 24 mr, ai (cy 0) (d 4) 10 od, ai (cy 0) (d 5) 10 pl, ai (cy 0) (d 6) 4 rm, ai (cy 0) (d 7) 10 cd, oP ps cm, ai (cy 0) (ps 1) 24 or, ai (cy 0) (ps 2) 24 sa, ai (cy 0) (ps 3) 10 so, aq (cy 3) (ps 4) 4 (fun ix => ps (5 + ix)), ai (cy 0) (ps 5) 24 g0, ai (cy 0) (ps 6) 24 g1, ai (cy 0) (ps 7) 24 g2, ai (cy 0) (ps 8) 24 g3, ai (cy 0) (ps 9) 4 ht, ai (cy 0) (ps 10) 4 ld] := hD
  refine r_eq0 hx hb 16 dX5_run_4 (by decide) ⟨by omega, by omega⟩ (fun c_4 => ?_) (fun c_4 => ?_)
  ·
    refine r_bip hx hb (-2) dX5_run_16 (by decide) ?_
    exact hret [0, 1, 2, 3, 4, 5, 6, 7, 8, 9, 10, 11, 12, 13, 14, 15, 16, 17, 18, 19] (cm, or, sa, so, g0, g1, g2, g3, ht, ld) dX5_run_18 hP hD hS (by decide) rfl (by unfold fRun; (repeat' split) <;> omega)
  ·
    refine lv_iload_n hx hb dX5_run_7 rfl (lv_at hl 2 rfl) ?_
    refine r_const hx hb dX5_run_8 ?_
    refine r_const hx hb dX5_run_9 ?_
    have M_10 := k_X5_isWithin l D cy  H.size v 0 3 (hv) (⟨by omega, by omega⟩) (⟨by omega, by omega⟩)
    refine kS_i (wr := [oX xo d ps bs wt ki, oD d lt mn vs, ai (cy 0) (d 1) 24 pt, ai (cy 0) (d 2) 24 tk, ai (cy 0) (d 3) 24 mr, ai (cy 0) (d 4) 10 od, ai (cy 0) (d 5) 10 pl, ai (cy 0) (d 6) 4 rm, ai (cy 0) (d 7) 10 cd, oP ps cm, ai (cy 0) (ps 1) 24 or, ai (cy 0) (ps 2) 24 sa, ai (cy 0) (ps 3) 10 so, aq (cy 3) (ps 4) 4 (fun ix => ps (5 + ix)), ai (cy 0) (ps 5) 24 g0, ai (cy 0) (ps 6) 24 g1, ai (cy 0) (ps 7) 24 g2, ai (cy 0) (ps 8) 24 g3, ai (cy 0) (ps 9) 4 ht, ai (cy 0) (ps 10) 4 ld]) (As := [.int (iI v), .int (iI 0), .int (iI 3)]) (rest := []) ⟨hx, hb, hml, hown, hts⟩ M_10 (va_cwS 3 hts gX5_run_X5_isWithin rfl rfl rfl (by decide +kernel) ⟨Nat.le_of_ble_eq_true rfl, Nat.le_of_ble_eq_true rfl⟩) hN hK hP hD hS hA [] [0, 1, 2, 3, 4, 5, 6, 7, 8, 9, 10, 11, 12, 13, 14, 15, 16, 17, 18, 19] rfl rfl (by decide) (by decide) (by decide) rfl hl.1 rfl (Nat.le_of_ble_eq_true rfl) dX5_run_10 ⟨Nat.le_of_ble_eq_true rfl, Nat.le_of_ble_eq_true rfl⟩ (fun r_10 u_10 H locs hw_10 hP hD hS => ?_)
    replace hP : va_P D vwCl [oX xo d ps bs wt ki, oD d lt mn vs, ai (cy 0) (d 1) 24 pt, ai (cy 0) (d 2) 24 tk, ai (cy 0) (d 3) 24 mr, ai (cy 0) (d 4) 10 od, ai (cy 0) (d 5) 10 pl, ai (cy 0) (d 6) 4 rm, ai (cy 0) (d 7) 10 cd, oP ps cm, ai (cy 0) (ps 1) 24 or, ai (cy 0) (ps 2) 24 sa, ai (cy 0) (ps 3) 10 so, aq (cy 3) (ps 4) 4 (fun ix => ps (5 + ix)), ai (cy 0) (ps 5) 24 g0, ai (cy 0) (ps 6) 24 g1, ai (cy 0) (ps 7) 24 g2, ai (cy 0) (ps 8) 24 g3, ai (cy 0) (ps 9) 4 ht, ai (cy 0) (ps 10) 4 ld] H := hP
    replace hD : va_D A [oX xo d ps bs wt ki, oD d lt mn vs, ai (cy 0) (d 1) 24 pt, ai (cy 0) (d 2) 24 tk, ai (cy 0) (d 3) 24 mr, ai (cy 0) (d 4) 10 od, ai (cy 0) (d 5) 10 pl, ai (cy 0) (d 6) 4 rm, ai (cy 0) (d 7) 10 cd, oP ps cm, ai (cy 0) (ps 1) 24 or, ai (cy 0) (ps 2) 24 sa, ai (cy 0) (ps 3) 10 so, aq (cy 3) (ps 4) 4 (fun ix => ps (5 + ix)), ai (cy 0) (ps 5) 24 g0, ai (cy 0) (ps 6) 24 g1, ai (cy 0) (ps 7) 24 g2, ai (cy 0) (ps 8) 24 g3, ai (cy 0) (ps 9) 4 ht, ai (cy 0) (ps 10) 4 ld] := hD
    refine r_ne0 hx hb 19 dX5_run_13 (by decide) ⟨by omega, by omega⟩ (fun c_13 => ?_) (fun c_13 => ?_)
    ·
      refine lv_aload_n hx hb dX5_run_19 rfl (lv_at hl 0 rfl) ?_
      refine va_get (D := D) (C := RX5) (T := TX5) (N := 6) (ci := 5) (v := .ref (ps 0)) hx hb hts iw_X5_run_5 hown hK hP 0 rfl rfl 3 (by decide) (hts _ fl_X5_run_23) (fun _ h9 => h9) rfl dX5_run_20 ?_
      refine lv_aload_n hx hb dX5_run_23 rfl (lv_at hl 0 rfl) ?_
      refine va_get (D := D) (C := RX5) (T := TX5) (N := 6) (ci := 5) (v := .ref (d 0)) hx hb hts iw_X5_run_5 hown hK hP 0 rfl rfl 0 (by decide) (hts _ fl_X5_run_10) (fun _ h9 => h9) rfl dX5_run_24 ?_
      refine lv_aload_n hx hb dX5_run_27 rfl (lv_at hl 0 rfl) ?_
      refine va_get (D := D) (C := RX5) (T := TX5) (N := 6) (ci := 5) (v := .ref (d 0)) hx hb hts iw_X5_run_5 hown hK hP 0 rfl rfl 0 (by decide) (hts _ fl_X5_run_10) (fun _ h9 => h9) rfl dX5_run_28 ?_
      refine va_getN (D := D) (C := RX1) (T := TX1) (N := 10) (ci := 1) (v := .ref (d 7)) hx hb hts iw_X5_run_1 hown hK hP 1 rfl rfl 8 (by decide) (nfX5_97 hN) (fun _ h9 => h9) rfl dX5_run_31 ?_
      refine lv_iload_n hx hb dX5_run_34 rfl (lv_at hl 1 rfl) ?_
      have M_35 := k_X2_perform l D cy ps d H.size cm or sa so g0 g1 g2 g3 ht ld lt mn vs pt tk mr od pl rm cd k (hI) (by omega)
      refine kV_v (wr := [oX xo d ps bs wt ki]) (As := [.ref (d 0), .ref (d 7), .int (iI k)]) (rest := []) (q := (RX2, TX2, 7)) (ci := 2) ⟨hx, hb, hml, hown, hts⟩ M_35 9 rfl rfl (cwV 3 hts gX5_run_X2_perform rfl rfl rfl (by decide +kernel) ⟨Nat.le_of_ble_eq_true rfl, Nat.le_of_ble_eq_true rfl⟩) hN hK hP hD hS hA [9, 10, 11, 12, 13, 14, 15, 16, 17, 18, 19, 1, 2, 3, 4, 5, 6, 7, 8] [0] rfl rfl (by decide) (by decide) (by decide) rfl hl.1 rfl (Nat.le_of_ble_eq_true rfl) dX5_run_35 ⟨Nat.le_of_ble_eq_true rfl, Nat.le_of_ble_eq_true rfl⟩ (fun u_35 H locs hw_35 hP hD hS => ?_)
      obtain ⟨v_1, v_2, v_3, v_4, v_5, v_6, v_7, v_8, v_9, v_10⟩ := u_35
      try dsimp only at hw_35
      replace hP : va_P D vwCl [oX xo d ps bs wt ki, oP ps v_1, ai (cy 0) (ps 1) 24 v_2, ai (cy 0) (ps 2) 24 v_3, ai (cy 0) (ps 3) 10 v_4, aq (cy 3) (ps 4) 4 (fun ix => ps (5 + ix)), ai (cy 0) (ps 5) 24 v_5, ai (cy 0) (ps 6) 24 v_6, ai (cy 0) (ps 7) 24 v_7, ai (cy 0) (ps 8) 24 v_8, ai (cy 0) (ps 9) 4 v_9, ai (cy 0) (ps 10) 4 v_10, oD d lt mn vs, ai (cy 0) (d 1) 24 pt, ai (cy 0) (d 2) 24 tk, ai (cy 0) (d 3) 24 mr, ai (cy 0) (d 4) 10 od, ai (cy 0) (d 5) 10 pl, ai (cy 0) (d 6) 4 rm, ai (cy 0) (d 7) 10 cd] H := hP
      replace hD : va_D A [oX xo d ps bs wt ki, oP ps v_1, ai (cy 0) (ps 1) 24 v_2, ai (cy 0) (ps 2) 24 v_3, ai (cy 0) (ps 3) 10 v_4, aq (cy 3) (ps 4) 4 (fun ix => ps (5 + ix)), ai (cy 0) (ps 5) 24 v_5, ai (cy 0) (ps 6) 24 v_6, ai (cy 0) (ps 7) 24 v_7, ai (cy 0) (ps 8) 24 v_8, ai (cy 0) (ps 9) 4 v_9, ai (cy 0) (ps 10) 4 v_10, oD d lt mn vs, ai (cy 0) (d 1) 24 pt, ai (cy 0) (d 2) 24 tk, ai (cy 0) (d 3) 24 mr, ai (cy 0) (d 4) 10 od, ai (cy 0) (d 5) 10 pl, ai (cy 0) (d 6) 4 rm, ai (cy 0) (d 7) 10 cd] := hD
      have hcm := RnP_cm hw_35
      have hrl := rn_len lt mn pt tk mr rm cd hlt0 k.toNat
      have hor := RnP_or hw_35
      refine lv_iload_n hx hb dX5_run_38 rfl (lv_at hl 2 rfl) ?_
      have hr_39 : inR v := hv
      by_cases c_39 : v < 0 ∨ 2 < v
      · refine lv_tableOut (tgt := 100) hx hb dX5_run_39 (by rw [iI_toInt hr_39]; exact c_39) (by decide) ?_
        refine lv_aload_n hx hb dX5_run_100 rfl (lv_at hl 0 rfl) ?_
        refine va_get (D := D) (C := RX5) (T := TX5) (N := 6) (ci := 5) (v := .ref (ps 0)) hx hb hts iw_X5_run_5 hown hK hP 0 rfl rfl 3 (by decide) (hts _ fl_X5_run_23) (fun _ h9 => h9) rfl dX5_run_101 ?_
        refine lv_aload_n hx hb dX5_run_104 rfl (lv_at hl 0 rfl) ?_
        refine va_get (D := D) (C := RX5) (T := TX5) (N := 6) (ci := 5) (v := .ref (d 0)) hx hb hts iw_X5_run_5 hown hK hP 0 rfl rfl 0 (by decide) (hts _ fl_X5_run_10) (fun _ h9 => h9) rfl dX5_run_105 ?_
        refine lv_iload_n hx hb dX5_run_108 rfl (lv_at hl 1 rfl) ?_
        have M_109 := k_X2_countSpilledAt l D cy ps d H.size v_1 v_2 v_3 v_4 v_5 v_6 v_7 v_8 v_9 v_10 lt mn vs pt tk mr od pl rm cd k (by omega) (fun l q1 q2 => by have := rn_sa lt mn pt tk mr rm cd hmr k.toNat l; rw [hw_35.2.2.1 l q1 q2]; omega) (by omega)
        refine kV_i (wr := [oX xo d ps bs wt ki]) (As := [.ref (d 0), .int (iI k)]) (rest := []) (q := (RX2, TX2, 7)) (ci := 2) ⟨hx, hb, hml, hown, hts⟩ M_109 1 rfl rfl (cwV 2 hts gX5_run_X2_countSpilledAt rfl rfl rfl (by decide +kernel) ⟨Nat.le_of_ble_eq_true rfl, Nat.le_of_ble_eq_true rfl⟩) hN hK hP hD hS hA [1, 2, 3, 4, 5, 6, 7, 8, 9, 10, 11, 12, 13, 14, 15, 16, 17, 18, 19] [0] rfl rfl (by decide) (by decide) (by decide) rfl hl.1 rfl (Nat.le_of_ble_eq_true rfl) dX5_run_109 ⟨Nat.le_of_ble_eq_true rfl, Nat.le_of_ble_eq_true rfl⟩ (fun r_109 u_109 H locs hw_109 hP hD hS => ?_)
        replace hP : va_P D vwCl [oX xo d ps bs wt ki, oP ps v_1, ai (cy 0) (ps 1) 24 v_2, ai (cy 0) (ps 2) 24 v_3, ai (cy 0) (ps 3) 10 v_4, aq (cy 3) (ps 4) 4 (fun ix => ps (5 + ix)), ai (cy 0) (ps 5) 24 v_5, ai (cy 0) (ps 6) 24 v_6, ai (cy 0) (ps 7) 24 v_7, ai (cy 0) (ps 8) 24 v_8, ai (cy 0) (ps 9) 4 v_9, ai (cy 0) (ps 10) 4 v_10, oD d lt mn vs, ai (cy 0) (d 1) 24 pt, ai (cy 0) (d 2) 24 tk, ai (cy 0) (d 3) 24 mr, ai (cy 0) (d 4) 10 od, ai (cy 0) (d 5) 10 pl, ai (cy 0) (d 6) 4 rm, ai (cy 0) (d 7) 10 cd] H := hP
        replace hD : va_D A [oX xo d ps bs wt ki, oP ps v_1, ai (cy 0) (ps 1) 24 v_2, ai (cy 0) (ps 2) 24 v_3, ai (cy 0) (ps 3) 10 v_4, aq (cy 3) (ps 4) 4 (fun ix => ps (5 + ix)), ai (cy 0) (ps 5) 24 v_5, ai (cy 0) (ps 6) 24 v_6, ai (cy 0) (ps 7) 24 v_7, ai (cy 0) (ps 8) 24 v_8, ai (cy 0) (ps 9) 4 v_9, ai (cy 0) (ps 10) 4 v_10, oD d lt mn vs, ai (cy 0) (d 1) 24 pt, ai (cy 0) (d 2) 24 tk, ai (cy 0) (d 3) 24 mr, ai (cy 0) (d 4) 10 od, ai (cy 0) (d 5) 10 pl, ai (cy 0) (d 6) 4 rm, ai (cy 0) (d 7) 10 cd] := hD
        exact hret [0, 12, 13, 14, 15, 16, 17, 18, 19, 1, 2, 3, 4, 5, 6, 7, 8, 9, 10, 11] (v_1, v_2, v_3, v_4, v_5, v_6, v_7, v_8, v_9, v_10) dX5_run_112 hP hD hS (by decide) rfl (run_s (by omega) (by omega) hw_35 hw_109)
      by_cases c_39_0 : v = 0
      · refine lv_tableIn (tgt := 64) hx hb dX5_run_39 (by rw [iI_toInt hr_39]; omega) (by rw [iI_toInt hr_39]; omega) (off := 25) (by rw [iI_toInt hr_39, c_39_0]; rfl) (by decide) ?_
        refine lv_aload_n hx hb dX5_run_64 rfl (lv_at hl 0 rfl) ?_
        refine va_get (D := D) (C := RX5) (T := TX5) (N := 6) (ci := 5) (v := .ref (ps 0)) hx hb hts iw_X5_run_5 hown hK hP 0 rfl rfl 3 (by decide) (hts _ fl_X5_run_23) (fun _ h9 => h9) rfl dX5_run_65 ?_
        refine va_getN (D := D) (C := RX2) (T := TX2) (N := 7) (ci := 2) (v := .int (iI v_1)) hx hb hts iw_X5_run_2 hown hK hP 1 rfl rfl 1 (by decide) (nfX5_119 hN) (fun _ h9 => h9) rfl dX5_run_68 ?_
        exact hret [0, 12, 13, 14, 15, 16, 17, 18, 19, 1, 2, 3, 4, 5, 6, 7, 8, 9, 10, 11] (v_1, v_2, v_3, v_4, v_5, v_6, v_7, v_8, v_9, v_10) dX5_run_71 hP hD hS (by decide) rfl (by unfold fRun; (repeat' split) <;> omega)
      by_cases c_39_1 : v = 1
      · refine lv_tableIn (tgt := 72) hx hb dX5_run_39 (by rw [iI_toInt hr_39]; omega) (by rw [iI_toInt hr_39]; omega) (off := 33) (by rw [iI_toInt hr_39, c_39_1]; rfl) (by decide) ?_
        refine lv_aload_n hx hb dX5_run_72 rfl (lv_at hl 0 rfl) ?_
        refine va_get (D := D) (C := RX5) (T := TX5) (N := 6) (ci := 5) (v := .ref (d 0)) hx hb hts iw_X5_run_5 hown hK hP 0 rfl rfl 0 (by decide) (hts _ fl_X5_run_10) (fun _ h9 => h9) rfl dX5_run_73 ?_
        refine va_getN (D := D) (C := RX1) (T := TX1) (N := 10) (ci := 1) (v := .int (iI lt)) hx hb hts iw_X5_run_1 hown hK hP 12 rfl rfl 0 (by decide) (nfX5_49 hN) (fun _ h9 => h9) rfl dX5_run_76 ?_
        refine lv_aload_n hx hb dX5_run_79 rfl (lv_at hl 0 rfl) ?_
        refine va_get (D := D) (C := RX5) (T := TX5) (N := 6) (ci := 5) (v := .ref (ps 0)) hx hb hts iw_X5_run_5 hown hK hP 0 rfl rfl 3 (by decide) (hts _ fl_X5_run_23) (fun _ h9 => h9) rfl dX5_run_80 ?_
        refine va_getN (D := D) (C := RX2) (T := TX2) (N := 7) (ci := 2) (v := .int (iI v_1)) hx hb hts iw_X5_run_2 hown hK hP 1 rfl rfl 1 (by decide) (nfX5_119 hN) (fun _ h9 => h9) rfl dX5_run_83 ?_
        refine r_sub hx hb dX5_run_86 ?_
        exact hret [0, 12, 13, 14, 15, 16, 17, 18, 19, 1, 2, 3, 4, 5, 6, 7, 8, 9, 10, 11] (v_1, v_2, v_3, v_4, v_5, v_6, v_7, v_8, v_9, v_10) dX5_run_87 hP hD hS (by decide) rfl (by unfold fRun; (repeat' split) <;> omega)
      by_cases c_39_2 : v = 2
      · refine lv_tableIn (tgt := 88) hx hb dX5_run_39 (by rw [iI_toInt hr_39]; omega) (by rw [iI_toInt hr_39]; omega) (off := 49) (by rw [iI_toInt hr_39, c_39_2]; rfl) (by decide) ?_
        refine lv_aload_n hx hb dX5_run_88 rfl (lv_at hl 0 rfl) ?_
        refine va_get (D := D) (C := RX5) (T := TX5) (N := 6) (ci := 5) (v := .ref (ps 0)) hx hb hts iw_X5_run_5 hown hK hP 0 rfl rfl 3 (by decide) (hts _ fl_X5_run_23) (fun _ h9 => h9) rfl dX5_run_89 ?_
        refine lv_aload_n hx hb dX5_run_92 rfl (lv_at hl 0 rfl) ?_
        refine va_get (D := D) (C := RX5) (T := TX5) (N := 6) (ci := 5) (v := .ref (d 0)) hx hb hts iw_X5_run_5 hown hK hP 0 rfl rfl 0 (by decide) (hts _ fl_X5_run_10) (fun _ h9 => h9) rfl dX5_run_93 ?_
        have M_96 := k_X2_countWrong l D cy ps d H.size v_1 v_2 v_3 v_4 v_5 v_6 v_7 v_8 v_9 v_10 lt mn vs pt tk mr od pl rm cd (hI) (by omega) (hor)
        refine kV_i (wr := [oX xo d ps bs wt ki]) (As := [.ref (d 0)]) (rest := []) (q := (RX2, TX2, 7)) (ci := 2) ⟨hx, hb, hml, hown, hts⟩ M_96 1 rfl rfl (cwV 1 hts gX5_run_X2_countWrong rfl rfl rfl (by decide +kernel) ⟨Nat.le_of_ble_eq_true rfl, Nat.le_of_ble_eq_true rfl⟩) hN hK hP hD hS hA [1, 2, 3, 4, 5, 6, 7, 8, 9, 10, 11, 12, 13, 14, 15, 16, 17, 18, 19] [0] rfl rfl (by decide) (by decide) (by decide) rfl hl.1 rfl (Nat.le_of_ble_eq_true rfl) dX5_run_96 ⟨Nat.le_of_ble_eq_true rfl, Nat.le_of_ble_eq_true rfl⟩ (fun r_96 u_96 H locs hw_96 hP hD hS => ?_)
        replace hP : va_P D vwCl [oX xo d ps bs wt ki, oP ps v_1, ai (cy 0) (ps 1) 24 v_2, ai (cy 0) (ps 2) 24 v_3, ai (cy 0) (ps 3) 10 v_4, aq (cy 3) (ps 4) 4 (fun ix => ps (5 + ix)), ai (cy 0) (ps 5) 24 v_5, ai (cy 0) (ps 6) 24 v_6, ai (cy 0) (ps 7) 24 v_7, ai (cy 0) (ps 8) 24 v_8, ai (cy 0) (ps 9) 4 v_9, ai (cy 0) (ps 10) 4 v_10, oD d lt mn vs, ai (cy 0) (d 1) 24 pt, ai (cy 0) (d 2) 24 tk, ai (cy 0) (d 3) 24 mr, ai (cy 0) (d 4) 10 od, ai (cy 0) (d 5) 10 pl, ai (cy 0) (d 6) 4 rm, ai (cy 0) (d 7) 10 cd] H := hP
        replace hD : va_D A [oX xo d ps bs wt ki, oP ps v_1, ai (cy 0) (ps 1) 24 v_2, ai (cy 0) (ps 2) 24 v_3, ai (cy 0) (ps 3) 10 v_4, aq (cy 3) (ps 4) 4 (fun ix => ps (5 + ix)), ai (cy 0) (ps 5) 24 v_5, ai (cy 0) (ps 6) 24 v_6, ai (cy 0) (ps 7) 24 v_7, ai (cy 0) (ps 8) 24 v_8, ai (cy 0) (ps 9) 4 v_9, ai (cy 0) (ps 10) 4 v_10, oD d lt mn vs, ai (cy 0) (d 1) 24 pt, ai (cy 0) (d 2) 24 tk, ai (cy 0) (d 3) 24 mr, ai (cy 0) (d 4) 10 od, ai (cy 0) (d 5) 10 pl, ai (cy 0) (d 6) 4 rm, ai (cy 0) (d 7) 10 cd] := hD
        exact hret [0, 12, 13, 14, 15, 16, 17, 18, 19, 1, 2, 3, 4, 5, 6, 7, 8, 9, 10, 11] (v_1, v_2, v_3, v_4, v_5, v_6, v_7, v_8, v_9, v_10) dX5_run_99 hP hD hS (by decide) rfl (run_w (by omega) (by omega) hw_35 hw_96)
      exact absurd c_39 (by omega)
    ·
      refine r_bip hx hb (-2) dX5_run_16 (by decide) ?_
      exact hret [0, 1, 2, 3, 4, 5, 6, 7, 8, 9, 10, 11, 12, 13, 14, 15, 16, 17, 18, 19] (cm, or, sa, so, g0, g1, g2, g3, ht, ld) dX5_run_18 hP hD hS (by decide) rfl (by unfold fRun; (repeat' split) <;> omega)
abbrev rm_X5_out : Room := { frames := 4, cells := 0, slots := 0, locals := 111 }
theorem fl_X5_out_10 : Cond.fieldLink RX5 10 "WalkPasses" "desk" "LWalkPasses$Desk;" ∈ wsX5_out := by decide +kernel
theorem fl_X5_out_23 : Cond.fieldLink RX5 23 "WalkPasses" "passes" "LWalkPasses$Passes;" ∈ wsX5_out := by decide +kernel
theorem iw_X5_out_1 : ∀ w ∈ u_ws RX1 TX1 10, w ∈ wsX5_out := by decide +kernel
theorem iw_X5_out_2 : ∀ w ∈ u_ws RX2 TX2 7, w ∈ wsX5_out := by decide +kernel
theorem iw_X5_out_5 : ∀ w ∈ u_ws RX5 TX5 6, w ∈ wsX5_out := by decide +kernel
set_option maxHeartbeats 4000000 in
set_option maxRecDepth 100000 in
theorem k_X5_out (l : Launch) (D : va_G) (cy : Nat → ClassId) (xo d ps bs wt : Nat → Nat) (z : Nat) (ki : Int) (lt mn vs : Int) (pt tk mr od pl rm cd : Int → Int) (cm : Int) (or sa so g0 g1 g2 g3 ht ld : Int → Int) (k i : Int) (hI : DI lt mn pt tk mr od pl rm cd) (hk9 : inR k) (hv : inR i) : CtI l yX5_out wsX5_out rm_X5_out D (tyL cy) [.ref (xo 0), .int (iI k), .int (iI i)] [oX xo d ps bs wt ki, oD d lt mn vs, ai (cy 0) (d 1) 24 pt, ai (cy 0) (d 2) 24 tk, ai (cy 0) (d 3) 24 mr, ai (cy 0) (d 4) 10 od, ai (cy 0) (d 5) 10 pl, ai (cy 0) (d 6) 4 rm, ai (cy 0) (d 7) 10 cd, oP ps cm, ai (cy 0) (ps 1) 24 or, ai (cy 0) (ps 2) 24 sa, ai (cy 0) (ps 3) 10 so, aq (cy 3) (ps 4) 4 (fun ix => ps (5 + ix)), ai (cy 0) (ps 5) 24 g0, ai (cy 0) (ps 6) 24 g1, ai (cy 0) (ps 7) 24 g2, ai (cy 0) (ps 8) 24 g3, ai (cy 0) (ps 9) 4 ht, ai (cy 0) (ps 10) 4 ld] z (fun (r : Int) (u : Int × (Int → Int) × (Int → Int) × (Int → Int) × (Int → Int) × (Int → Int) × (Int → Int) × (Int → Int) × (Int → Int) × (Int → Int)) => r = fOut lt mn pt tk mr rm cd k i) (fun (u : Int × (Int → Int) × (Int → Int) × (Int → Int) × (Int → Int) × (Int → Int) × (Int → Int) × (Int → Int) × (Int → Int) × (Int → Int)) => [oX xo d ps bs wt ki, oD d lt mn vs, ai (cy 0) (d 1) 24 pt, ai (cy 0) (d 2) 24 tk, ai (cy 0) (d 3) 24 mr, ai (cy 0) (d 4) 10 od, ai (cy 0) (d 5) 10 pl, ai (cy 0) (d 6) 4 rm, ai (cy 0) (d 7) 10 cd, oP ps u.1, ai (cy 0) (ps 1) 24 u.2.1, ai (cy 0) (ps 2) 24 u.2.2.1, ai (cy 0) (ps 3) 10 u.2.2.2.1, aq (cy 3) (ps 4) 4 (fun ix => ps (5 + ix)), ai (cy 0) (ps 5) 24 u.2.2.2.2.1, ai (cy 0) (ps 6) 24 u.2.2.2.2.2.1, ai (cy 0) (ps 7) 24 u.2.2.2.2.2.2.1, ai (cy 0) (ps 8) 24 u.2.2.2.2.2.2.2.1, ai (cy 0) (ps 9) 4 u.2.2.2.2.2.2.2.2.1, ai (cy 0) (ps 10) 4 u.2.2.2.2.2.2.2.2.2]) 0 0 := by
  refine ct_i (cc := cX5_out) (maxL := 3) (by decide) rfl (Nat.le_of_ble_eq_true rfl) ?_
  intro p e s m args below meth c A Q H locs ls hx hb hml hown hin hts hK hN hP hD hS hA hl hret
  replace hl : lv_has ls 3 [(0, .ref (xo 0)), (1, .int (iI k)), (2, .int (iI i))] := hl
  replace hown : s.vm.findClass RX5 = some m.cls := hown
  obtain ⟨⟨⟨hlt0, hlt1⟩, hmn0, hmn1⟩, ⟨hpt, htk, hmr⟩, ⟨hod, hpl, hpo, hop⟩, hrm, hcd⟩ := id hI
  refine lv_iload_n hx hb dX5_out_0 rfl (lv_at hl 1 rfl) ?_
  have M_1 := k_X5_isPasses l D cy  H.size k (hk9)
  refine kS_i (wr := [oX xo d ps bs wt ki, oD d lt mn vs, ai (cy 0) (d 1) 24 pt, ai (cy 0) (d 2) 24 tk, ai (cy 0) (d 3) 24 mr, ai (cy 0) (d 4) 10 od, ai (cy 0) (d 5) 10 pl, ai (cy 0) (d 6) 4 rm, ai (cy 0) (d 7) 10 cd, oP ps cm, ai (cy 0) (ps 1) 24 or, ai (cy 0) (ps 2) 24 sa, ai (cy 0) (ps 3) 10 so, aq (cy 3) (ps 4) 4 (fun ix => ps (5 + ix)), ai (cy 0) (ps 5) 24 g0, ai (cy 0) (ps 6) 24 g1, ai (cy 0) (ps 7) 24 g2, ai (cy 0) (ps 8) 24 g3, ai (cy 0) (ps 9) 4 ht, ai (cy 0) (ps 10) 4 ld]) (As := [.int (iI k)]) (rest := []) ⟨hx, hb, hml, hown, hts⟩ M_1 (va_cwS 1 hts gX5_out_X5_isPasses rfl rfl rfl (by decide +kernel) ⟨Nat.le_of_ble_eq_true rfl, Nat.le_of_ble_eq_true rfl⟩) hN hK hP hD hS hA [] [0, 1, 2, 3, 4, 5, 6, 7, 8, 9, 10, 11, 12, 13, 14, 15, 16, 17, 18, 19] rfl rfl (by decide) (by decide) (by decide) rfl hl.1 rfl (Nat.le_of_ble_eq_true rfl) dX5_out_1 ⟨Nat.le_of_ble_eq_true rfl, Nat.le_of_ble_eq_true rfl⟩ (fun r_1 u_1 H locs hw_1 hP hD hS => ?_)
  replace hP : va_P D vwCl [oX xo d ps bs wt ki, oD d lt mn vs, ai (cy 0) (d 1) 24 pt, ai (cy 0) (d 2) 24 tk, ai (cy 0) (d 3) 24 mr, ai (cy 0) (d 4) 10 od, ai (cy 0) (d 5) 10 pl, ai (cy 0) (d 6) 4 rm, ai (cy 0) (d 7) 10 cd, oP ps cm, ai (cy 0) (ps 1) 24 or, ai (cy 0) (ps 2) 24 sa, ai (cy 0) (ps 3) 10 so, aq (cy 3) (ps 4) 4 (fun ix => ps (5 + ix)), ai (cy 0) (ps 5) 24 g0, ai (cy 0) (ps 6) 24 g1, ai (cy 0) (ps 7) 24 g2, ai (cy 0) (ps 8) 24 g3, ai (cy 0) (ps 9) 4 ht, ai (cy 0) (ps 10) 4 ld] H := hP
  replace hD : va_D A [oX xo d ps bs wt ki, oD d lt mn vs, ai (cy 0) (d 1) 24 pt, ai (cy 0) (d 2) 24 tk, ai (cy 0) (d 3) 24 mr, ai (cy 0) (d 4) 10 od, ai (cy 0) (d 5) 10 pl, ai (cy 0) (d 6) 4 rm, ai (cy 0) (d 7) 10 cd, oP ps cm, ai (cy 0) (ps 1) 24 or, ai (cy 0) (ps 2) 24 sa, ai (cy 0) (ps 3) 10 so, aq (cy 3) (ps 4) 4 (fun ix => ps (5 + ix)), ai (cy 0) (ps 5) 24 g0, ai (cy 0) (ps 6) 24 g1, ai (cy 0) (ps 7) 24 g2, ai (cy 0) (ps 8) 24 g3, ai (cy 0) (ps 9) 4 ht, ai (cy 0) (ps 10) 4 ld] := hD
  refine r_ne0 hx hb 10 dX5_out_4 (by decide) ⟨by omega, by omega⟩ (fun c_4 => ?_) (fun c_4 => ?_)
  ·
    refine lv_aload_n hx hb dX5_out_10 rfl (lv_at hl 0 rfl) ?_
    refine va_get (D := D) (C := RX5) (T := TX5) (N := 6) (ci := 5) (v := .ref (ps 0)) hx hb hts iw_X5_out_5 hown hK hP 0 rfl rfl 3 (by decide) (hts _ fl_X5_out_23) (fun _ h9 => h9) rfl dX5_out_11 ?_
    refine lv_aload_n hx hb dX5_out_14 rfl (lv_at hl 0 rfl) ?_
    refine va_get (D := D) (C := RX5) (T := TX5) (N := 6) (ci := 5) (v := .ref (d 0)) hx hb hts iw_X5_out_5 hown hK hP 0 rfl rfl 0 (by decide) (hts _ fl_X5_out_10) (fun _ h9 => h9) rfl dX5_out_15 ?_
    refine lv_aload_n hx hb dX5_out_18 rfl (lv_at hl 0 rfl) ?_
    refine va_get (D := D) (C := RX5) (T := TX5) (N := 6) (ci := 5) (v := .ref (d 0)) hx hb hts iw_X5_out_5 hown hK hP 0 rfl rfl 0 (by decide) (hts _ fl_X5_out_10) (fun _ h9 => h9) rfl dX5_out_19 ?_
    refine va_getN (D := D) (C := RX1) (T := TX1) (N := 10) (ci := 1) (v := .ref (d 7)) hx hb hts iw_X5_out_1 hown hK hP 1 rfl rfl 8 (by decide) (nfX5_97 hN) (fun _ h9 => h9) rfl dX5_out_22 ?_
    refine lv_iload_n hx hb dX5_out_25 rfl (lv_at hl 1 rfl) ?_
    have M_26 := k_X2_perform l D cy ps d H.size cm or sa so g0 g1 g2 g3 ht ld lt mn vs pt tk mr od pl rm cd k (hI) (by omega)
    refine kV_v (wr := [oX xo d ps bs wt ki]) (As := [.ref (d 0), .ref (d 7), .int (iI k)]) (rest := []) (q := (RX2, TX2, 7)) (ci := 2) ⟨hx, hb, hml, hown, hts⟩ M_26 9 rfl rfl (cwV 3 hts gX5_out_X2_perform rfl rfl rfl (by decide +kernel) ⟨Nat.le_of_ble_eq_true rfl, Nat.le_of_ble_eq_true rfl⟩) hN hK hP hD hS hA [9, 10, 11, 12, 13, 14, 15, 16, 17, 18, 19, 1, 2, 3, 4, 5, 6, 7, 8] [0] rfl rfl (by decide) (by decide) (by decide) rfl hl.1 rfl (Nat.le_of_ble_eq_true rfl) dX5_out_26 ⟨Nat.le_of_ble_eq_true rfl, Nat.le_of_ble_eq_true rfl⟩ (fun u_26 H locs hw_26 hP hD hS => ?_)
    obtain ⟨v_1, v_2, v_3, v_4, v_5, v_6, v_7, v_8, v_9, v_10⟩ := u_26
    try dsimp only at hw_26
    replace hP : va_P D vwCl [oX xo d ps bs wt ki, oP ps v_1, ai (cy 0) (ps 1) 24 v_2, ai (cy 0) (ps 2) 24 v_3, ai (cy 0) (ps 3) 10 v_4, aq (cy 3) (ps 4) 4 (fun ix => ps (5 + ix)), ai (cy 0) (ps 5) 24 v_5, ai (cy 0) (ps 6) 24 v_6, ai (cy 0) (ps 7) 24 v_7, ai (cy 0) (ps 8) 24 v_8, ai (cy 0) (ps 9) 4 v_9, ai (cy 0) (ps 10) 4 v_10, oD d lt mn vs, ai (cy 0) (d 1) 24 pt, ai (cy 0) (d 2) 24 tk, ai (cy 0) (d 3) 24 mr, ai (cy 0) (d 4) 10 od, ai (cy 0) (d 5) 10 pl, ai (cy 0) (d 6) 4 rm, ai (cy 0) (d 7) 10 cd] H := hP
    replace hD : va_D A [oX xo d ps bs wt ki, oP ps v_1, ai (cy 0) (ps 1) 24 v_2, ai (cy 0) (ps 2) 24 v_3, ai (cy 0) (ps 3) 10 v_4, aq (cy 3) (ps 4) 4 (fun ix => ps (5 + ix)), ai (cy 0) (ps 5) 24 v_5, ai (cy 0) (ps 6) 24 v_6, ai (cy 0) (ps 7) 24 v_7, ai (cy 0) (ps 8) 24 v_8, ai (cy 0) (ps 9) 4 v_9, ai (cy 0) (ps 10) 4 v_10, oD d lt mn vs, ai (cy 0) (d 1) 24 pt, ai (cy 0) (d 2) 24 tk, ai (cy 0) (d 3) 24 mr, ai (cy 0) (d 4) 10 od, ai (cy 0) (d 5) 10 pl, ai (cy 0) (d 6) 4 rm, ai (cy 0) (d 7) 10 cd] := hD
    have hcm := RnP_cm hw_26
    have hrl := rn_len lt mn pt tk mr rm cd hlt0 k.toNat
    have hor := RnP_or hw_26
    refine lv_iload_n hx hb dX5_out_29 rfl (lv_at hl 2 rfl) ?_
    refine r_const hx hb dX5_out_30 ?_
    refine lv_aload_n hx hb dX5_out_31 rfl (lv_at hl 0 rfl) ?_
    refine va_get (D := D) (C := RX5) (T := TX5) (N := 6) (ci := 5) (v := .ref (ps 0)) hx hb hts iw_X5_out_5 hown hK hP 0 rfl rfl 3 (by decide) (hts _ fl_X5_out_23) (fun _ h9 => h9) rfl dX5_out_32 ?_
    refine va_getN (D := D) (C := RX2) (T := TX2) (N := 7) (ci := 2) (v := .int (iI v_1)) hx hb hts iw_X5_out_2 hown hK hP 1 rfl rfl 1 (by decide) (nfX5_119 hN) (fun _ h9 => h9) rfl dX5_out_35 ?_
    refine r_const hx hb dX5_out_38 ?_
    refine r_sub hx hb dX5_out_39 ?_
    have M_40 := k_X5_isWithin l D cy  H.size i 0 (v_1 - 1) (hv) (⟨by omega, by omega⟩) (⟨by omega, by omega⟩)
    refine kS_i (wr := [oX xo d ps bs wt ki, oP ps v_1, ai (cy 0) (ps 1) 24 v_2, ai (cy 0) (ps 2) 24 v_3, ai (cy 0) (ps 3) 10 v_4, aq (cy 3) (ps 4) 4 (fun ix => ps (5 + ix)), ai (cy 0) (ps 5) 24 v_5, ai (cy 0) (ps 6) 24 v_6, ai (cy 0) (ps 7) 24 v_7, ai (cy 0) (ps 8) 24 v_8, ai (cy 0) (ps 9) 4 v_9, ai (cy 0) (ps 10) 4 v_10, oD d lt mn vs, ai (cy 0) (d 1) 24 pt, ai (cy 0) (d 2) 24 tk, ai (cy 0) (d 3) 24 mr, ai (cy 0) (d 4) 10 od, ai (cy 0) (d 5) 10 pl, ai (cy 0) (d 6) 4 rm, ai (cy 0) (d 7) 10 cd]) (As := [.int (iI i), .int (iI 0), .int (iI (v_1 - 1))]) (rest := []) ⟨hx, hb, hml, hown, hts⟩ M_40 (va_cwS 3 hts gX5_out_X5_isWithin rfl rfl rfl (by decide +kernel) ⟨Nat.le_of_ble_eq_true rfl, Nat.le_of_ble_eq_true rfl⟩) hN hK hP hD hS hA [] [0, 1, 2, 3, 4, 5, 6, 7, 8, 9, 10, 11, 12, 13, 14, 15, 16, 17, 18, 19] rfl rfl (by decide) (by decide) (by decide) rfl hl.1 rfl (Nat.le_of_ble_eq_true rfl) dX5_out_40 ⟨Nat.le_of_ble_eq_true rfl, Nat.le_of_ble_eq_true rfl⟩ (fun r_40 u_40 H locs hw_40 hP hD hS => ?_)
    replace hP : va_P D vwCl [oX xo d ps bs wt ki, oP ps v_1, ai (cy 0) (ps 1) 24 v_2, ai (cy 0) (ps 2) 24 v_3, ai (cy 0) (ps 3) 10 v_4, aq (cy 3) (ps 4) 4 (fun ix => ps (5 + ix)), ai (cy 0) (ps 5) 24 v_5, ai (cy 0) (ps 6) 24 v_6, ai (cy 0) (ps 7) 24 v_7, ai (cy 0) (ps 8) 24 v_8, ai (cy 0) (ps 9) 4 v_9, ai (cy 0) (ps 10) 4 v_10, oD d lt mn vs, ai (cy 0) (d 1) 24 pt, ai (cy 0) (d 2) 24 tk, ai (cy 0) (d 3) 24 mr, ai (cy 0) (d 4) 10 od, ai (cy 0) (d 5) 10 pl, ai (cy 0) (d 6) 4 rm, ai (cy 0) (d 7) 10 cd] H := hP
    replace hD : va_D A [oX xo d ps bs wt ki, oP ps v_1, ai (cy 0) (ps 1) 24 v_2, ai (cy 0) (ps 2) 24 v_3, ai (cy 0) (ps 3) 10 v_4, aq (cy 3) (ps 4) 4 (fun ix => ps (5 + ix)), ai (cy 0) (ps 5) 24 v_5, ai (cy 0) (ps 6) 24 v_6, ai (cy 0) (ps 7) 24 v_7, ai (cy 0) (ps 8) 24 v_8, ai (cy 0) (ps 9) 4 v_9, ai (cy 0) (ps 10) 4 v_10, oD d lt mn vs, ai (cy 0) (d 1) 24 pt, ai (cy 0) (d 2) 24 tk, ai (cy 0) (d 3) 24 mr, ai (cy 0) (d 4) 10 od, ai (cy 0) (d 5) 10 pl, ai (cy 0) (d 6) 4 rm, ai (cy 0) (d 7) 10 cd] := hD
    refine r_eq0 hx hb 58 dX5_out_43 (by decide) ⟨by omega, by omega⟩ (fun c_43 => ?_) (fun c_43 => ?_)
    ·
      refine r_bip hx hb (-6) dX5_out_58 (by decide) ?_
      exact hret [0, 12, 13, 14, 15, 16, 17, 18, 19, 1, 2, 3, 4, 5, 6, 7, 8, 9, 10, 11] (v_1, v_2, v_3, v_4, v_5, v_6, v_7, v_8, v_9, v_10) dX5_out_60 hP hD hS (by decide) rfl (by unfold fOut; (repeat' split) <;> first | omega | (exact lst_lg hw_26.2.1 (by omega) (by omega)))
    ·
      refine lv_aload_n hx hb dX5_out_46 rfl (lv_at hl 0 rfl) ?_
      refine va_get (D := D) (C := RX5) (T := TX5) (N := 6) (ci := 5) (v := .ref (ps 0)) hx hb hts iw_X5_out_5 hown hK hP 0 rfl rfl 3 (by decide) (hts _ fl_X5_out_23) (fun _ h9 => h9) rfl dX5_out_47 ?_
      refine va_getN (D := D) (C := RX2) (T := TX2) (N := 7) (ci := 2) (v := .ref (ps 1)) hx hb hts iw_X5_out_2 hown hK hP 1 rfl rfl 0 (by decide) (nfX5_130 hN) (fun _ h9 => h9) rfl dX5_out_50 ?_
      refine lv_iload_n hx hb dX5_out_53 rfl (lv_at hl 2 rfl) ?_
      refine r_ald hx hb hK hP 2 rfl rfl ⟨by omega, by omega, by omega⟩ dX5_out_54 ?_
      refine lv_goto (tgt := 60) hx hb dX5_out_55 (by decide) ?_
      exact hret [0, 12, 13, 14, 15, 16, 17, 18, 19, 1, 2, 3, 4, 5, 6, 7, 8, 9, 10, 11] (v_1, v_2, v_3, v_4, v_5, v_6, v_7, v_8, v_9, v_10) dX5_out_60 hP hD hS (by decide) rfl (by unfold fOut; (repeat' split) <;> first | omega | (exact lst_lg hw_26.2.1 (by omega) (by omega)))
  ·
    refine r_bip hx hb (-2) dX5_out_7 (by decide) ?_
    exact hret [0, 1, 2, 3, 4, 5, 6, 7, 8, 9, 10, 11, 12, 13, 14, 15, 16, 17, 18, 19] (cm, or, sa, so, g0, g1, g2, g3, ht, ld) dX5_out_9 hP hD hS (by decide) rfl (by unfold fOut; (repeat' split) <;> first | omega | (exact lst_lg hw_26.2.1 (by omega) (by omega)))
abbrev rm_X5_spilled : Room := { frames := 4, cells := 0, slots := 0, locals := 111 }
theorem fl_X5_spilled_10 : Cond.fieldLink RX5 10 "WalkPasses" "desk" "LWalkPasses$Desk;" ∈ wsX5_spilled := by decide +kernel
theorem fl_X5_spilled_23 : Cond.fieldLink RX5 23 "WalkPasses" "passes" "LWalkPasses$Passes;" ∈ wsX5_spilled := by decide +kernel
theorem iw_X5_spilled_1 : ∀ w ∈ u_ws RX1 TX1 10, w ∈ wsX5_spilled := by decide +kernel
theorem iw_X5_spilled_2 : ∀ w ∈ u_ws RX2 TX2 7, w ∈ wsX5_spilled := by decide +kernel
theorem iw_X5_spilled_5 : ∀ w ∈ u_ws RX5 TX5 6, w ∈ wsX5_spilled := by decide +kernel
set_option maxHeartbeats 4000000 in
set_option maxRecDepth 100000 in
theorem k_X5_spilled (l : Launch) (D : va_G) (cy : Nat → ClassId) (xo d ps bs wt : Nat → Nat) (z : Nat) (ki : Int) (lt mn vs : Int) (pt tk mr od pl rm cd : Int → Int) (cm : Int) (or sa so g0 g1 g2 g3 ht ld : Int → Int) (k i : Int) (hI : DI lt mn pt tk mr od pl rm cd) (hk9 : inR k) (hv : inR i) : CtI l yX5_spilled wsX5_spilled rm_X5_spilled D (tyL cy) [.ref (xo 0), .int (iI k), .int (iI i)] [oX xo d ps bs wt ki, oD d lt mn vs, ai (cy 0) (d 1) 24 pt, ai (cy 0) (d 2) 24 tk, ai (cy 0) (d 3) 24 mr, ai (cy 0) (d 4) 10 od, ai (cy 0) (d 5) 10 pl, ai (cy 0) (d 6) 4 rm, ai (cy 0) (d 7) 10 cd, oP ps cm, ai (cy 0) (ps 1) 24 or, ai (cy 0) (ps 2) 24 sa, ai (cy 0) (ps 3) 10 so, aq (cy 3) (ps 4) 4 (fun ix => ps (5 + ix)), ai (cy 0) (ps 5) 24 g0, ai (cy 0) (ps 6) 24 g1, ai (cy 0) (ps 7) 24 g2, ai (cy 0) (ps 8) 24 g3, ai (cy 0) (ps 9) 4 ht, ai (cy 0) (ps 10) 4 ld] z (fun (r : Int) (u : Int × (Int → Int) × (Int → Int) × (Int → Int) × (Int → Int) × (Int → Int) × (Int → Int) × (Int → Int) × (Int → Int) × (Int → Int)) => r = fSpilled lt mn pt tk mr rm cd k i) (fun (u : Int × (Int → Int) × (Int → Int) × (Int → Int) × (Int → Int) × (Int → Int) × (Int → Int) × (Int → Int) × (Int → Int) × (Int → Int)) => [oX xo d ps bs wt ki, oD d lt mn vs, ai (cy 0) (d 1) 24 pt, ai (cy 0) (d 2) 24 tk, ai (cy 0) (d 3) 24 mr, ai (cy 0) (d 4) 10 od, ai (cy 0) (d 5) 10 pl, ai (cy 0) (d 6) 4 rm, ai (cy 0) (d 7) 10 cd, oP ps u.1, ai (cy 0) (ps 1) 24 u.2.1, ai (cy 0) (ps 2) 24 u.2.2.1, ai (cy 0) (ps 3) 10 u.2.2.2.1, aq (cy 3) (ps 4) 4 (fun ix => ps (5 + ix)), ai (cy 0) (ps 5) 24 u.2.2.2.2.1, ai (cy 0) (ps 6) 24 u.2.2.2.2.2.1, ai (cy 0) (ps 7) 24 u.2.2.2.2.2.2.1, ai (cy 0) (ps 8) 24 u.2.2.2.2.2.2.2.1, ai (cy 0) (ps 9) 4 u.2.2.2.2.2.2.2.2.1, ai (cy 0) (ps 10) 4 u.2.2.2.2.2.2.2.2.2]) 0 0 := by
  refine ct_i (cc := cX5_spilled) (maxL := 3) (by decide) rfl (Nat.le_of_ble_eq_true rfl) ?_
  intro p e s m args below meth c A Q H locs ls hx hb hml hown hin hts hK hN hP hD hS hA hl hret
  replace hl : lv_has ls 3 [(0, .ref (xo 0)), (1, .int (iI k)), (2, .int (iI i))] := hl
  replace hown : s.vm.findClass RX5 = some m.cls := hown
  obtain ⟨⟨⟨hlt0, hlt1⟩, hmn0, hmn1⟩, ⟨hpt, htk, hmr⟩, ⟨hod, hpl, hpo, hop⟩, hrm, hcd⟩ := id hI
  refine lv_iload_n hx hb dX5_spilled_0 rfl (lv_at hl 1 rfl) ?_
  have M_1 := k_X5_isPasses l D cy  H.size k (hk9)
  refine kS_i (wr := [oX xo d ps bs wt ki, oD d lt mn vs, ai (cy 0) (d 1) 24 pt, ai (cy 0) (d 2) 24 tk, ai (cy 0) (d 3) 24 mr, ai (cy 0) (d 4) 10 od, ai (cy 0) (d 5) 10 pl, ai (cy 0) (d 6) 4 rm, ai (cy 0) (d 7) 10 cd, oP ps cm, ai (cy 0) (ps 1) 24 or, ai (cy 0) (ps 2) 24 sa, ai (cy 0) (ps 3) 10 so, aq (cy 3) (ps 4) 4 (fun ix => ps (5 + ix)), ai (cy 0) (ps 5) 24 g0, ai (cy 0) (ps 6) 24 g1, ai (cy 0) (ps 7) 24 g2, ai (cy 0) (ps 8) 24 g3, ai (cy 0) (ps 9) 4 ht, ai (cy 0) (ps 10) 4 ld]) (As := [.int (iI k)]) (rest := []) ⟨hx, hb, hml, hown, hts⟩ M_1 (va_cwS 1 hts gX5_spilled_X5_isPasses rfl rfl rfl (by decide +kernel) ⟨Nat.le_of_ble_eq_true rfl, Nat.le_of_ble_eq_true rfl⟩) hN hK hP hD hS hA [] [0, 1, 2, 3, 4, 5, 6, 7, 8, 9, 10, 11, 12, 13, 14, 15, 16, 17, 18, 19] rfl rfl (by decide) (by decide) (by decide) rfl hl.1 rfl (Nat.le_of_ble_eq_true rfl) dX5_spilled_1 ⟨Nat.le_of_ble_eq_true rfl, Nat.le_of_ble_eq_true rfl⟩ (fun r_1 u_1 H locs hw_1 hP hD hS => ?_)
  replace hP : va_P D vwCl [oX xo d ps bs wt ki, oD d lt mn vs, ai (cy 0) (d 1) 24 pt, ai (cy 0) (d 2) 24 tk, ai (cy 0) (d 3) 24 mr, ai (cy 0) (d 4) 10 od, ai (cy 0) (d 5) 10 pl, ai (cy 0) (d 6) 4 rm, ai (cy 0) (d 7) 10 cd, oP ps cm, ai (cy 0) (ps 1) 24 or, ai (cy 0) (ps 2) 24 sa, ai (cy 0) (ps 3) 10 so, aq (cy 3) (ps 4) 4 (fun ix => ps (5 + ix)), ai (cy 0) (ps 5) 24 g0, ai (cy 0) (ps 6) 24 g1, ai (cy 0) (ps 7) 24 g2, ai (cy 0) (ps 8) 24 g3, ai (cy 0) (ps 9) 4 ht, ai (cy 0) (ps 10) 4 ld] H := hP
  replace hD : va_D A [oX xo d ps bs wt ki, oD d lt mn vs, ai (cy 0) (d 1) 24 pt, ai (cy 0) (d 2) 24 tk, ai (cy 0) (d 3) 24 mr, ai (cy 0) (d 4) 10 od, ai (cy 0) (d 5) 10 pl, ai (cy 0) (d 6) 4 rm, ai (cy 0) (d 7) 10 cd, oP ps cm, ai (cy 0) (ps 1) 24 or, ai (cy 0) (ps 2) 24 sa, ai (cy 0) (ps 3) 10 so, aq (cy 3) (ps 4) 4 (fun ix => ps (5 + ix)), ai (cy 0) (ps 5) 24 g0, ai (cy 0) (ps 6) 24 g1, ai (cy 0) (ps 7) 24 g2, ai (cy 0) (ps 8) 24 g3, ai (cy 0) (ps 9) 4 ht, ai (cy 0) (ps 10) 4 ld] := hD
  refine r_ne0 hx hb 10 dX5_spilled_4 (by decide) ⟨by omega, by omega⟩ (fun c_4 => ?_) (fun c_4 => ?_)
  ·
    refine lv_aload_n hx hb dX5_spilled_10 rfl (lv_at hl 0 rfl) ?_
    refine lv_iload_n hx hb dX5_spilled_11 rfl (lv_at hl 2 rfl) ?_
    have M_12 := k_X5_isLetter l D cy xo d ps bs wt H.size ki lt mn vs pt tk mr od pl rm cd i (by omega) (hv)
    refine kV_i (wr := [oP ps cm, ai (cy 0) (ps 1) 24 or, ai (cy 0) (ps 2) 24 sa, ai (cy 0) (ps 3) 10 so, aq (cy 3) (ps 4) 4 (fun ix => ps (5 + ix)), ai (cy 0) (ps 5) 24 g0, ai (cy 0) (ps 6) 24 g1, ai (cy 0) (ps 7) 24 g2, ai (cy 0) (ps 8) 24 g3, ai (cy 0) (ps 9) 4 ht, ai (cy 0) (ps 10) 4 ld]) (As := [.int (iI i)]) (rest := []) (q := (RX5, TX5, 6)) (ci := 5) ⟨hx, hb, hml, hown, hts⟩ M_12 0 rfl rfl (cwV 1 hts gX5_spilled_X5_isLetter rfl rfl rfl (by decide +kernel) ⟨Nat.le_of_ble_eq_true rfl, Nat.le_of_ble_eq_true rfl⟩) hN hK hP hD hS hA [0, 1, 2, 3, 4, 5, 6, 7, 8] [9, 10, 11, 12, 13, 14, 15, 16, 17, 18, 19] rfl rfl (by decide) (by decide) (by decide) rfl hl.1 rfl (Nat.le_of_ble_eq_true rfl) dX5_spilled_12 ⟨Nat.le_of_ble_eq_true rfl, Nat.le_of_ble_eq_true rfl⟩ (fun r_12 u_12 H locs hw_12 hP hD hS => ?_)
    replace hP : va_P D vwCl [oP ps cm, ai (cy 0) (ps 1) 24 or, ai (cy 0) (ps 2) 24 sa, ai (cy 0) (ps 3) 10 so, aq (cy 3) (ps 4) 4 (fun ix => ps (5 + ix)), ai (cy 0) (ps 5) 24 g0, ai (cy 0) (ps 6) 24 g1, ai (cy 0) (ps 7) 24 g2, ai (cy 0) (ps 8) 24 g3, ai (cy 0) (ps 9) 4 ht, ai (cy 0) (ps 10) 4 ld, oX xo d ps bs wt ki, oD d lt mn vs, ai (cy 0) (d 1) 24 pt, ai (cy 0) (d 2) 24 tk, ai (cy 0) (d 3) 24 mr, ai (cy 0) (d 4) 10 od, ai (cy 0) (d 5) 10 pl, ai (cy 0) (d 6) 4 rm, ai (cy 0) (d 7) 10 cd] H := hP
    replace hD : va_D A [oP ps cm, ai (cy 0) (ps 1) 24 or, ai (cy 0) (ps 2) 24 sa, ai (cy 0) (ps 3) 10 so, aq (cy 3) (ps 4) 4 (fun ix => ps (5 + ix)), ai (cy 0) (ps 5) 24 g0, ai (cy 0) (ps 6) 24 g1, ai (cy 0) (ps 7) 24 g2, ai (cy 0) (ps 8) 24 g3, ai (cy 0) (ps 9) 4 ht, ai (cy 0) (ps 10) 4 ld, oX xo d ps bs wt ki, oD d lt mn vs, ai (cy 0) (d 1) 24 pt, ai (cy 0) (d 2) 24 tk, ai (cy 0) (d 3) 24 mr, ai (cy 0) (d 4) 10 od, ai (cy 0) (d 5) 10 pl, ai (cy 0) (d 6) 4 rm, ai (cy 0) (d 7) 10 cd] := hD
    refine r_ne0 hx hb 20 dX5_spilled_15 (by decide) ⟨by omega, by omega⟩ (fun c_15 => ?_) (fun c_15 => ?_)
    ·
      refine lv_aload_n hx hb dX5_spilled_20 rfl (lv_at hl 0 rfl) ?_
      refine va_get (D := D) (C := RX5) (T := TX5) (N := 6) (ci := 5) (v := .ref (ps 0)) hx hb hts iw_X5_spilled_5 hown hK hP 11 rfl rfl 3 (by decide) (hts _ fl_X5_spilled_23) (fun _ h9 => h9) rfl dX5_spilled_21 ?_
      refine lv_aload_n hx hb dX5_spilled_24 rfl (lv_at hl 0 rfl) ?_
      refine va_get (D := D) (C := RX5) (T := TX5) (N := 6) (ci := 5) (v := .ref (d 0)) hx hb hts iw_X5_spilled_5 hown hK hP 11 rfl rfl 0 (by decide) (hts _ fl_X5_spilled_10) (fun _ h9 => h9) rfl dX5_spilled_25 ?_
      refine lv_aload_n hx hb dX5_spilled_28 rfl (lv_at hl 0 rfl) ?_
      refine va_get (D := D) (C := RX5) (T := TX5) (N := 6) (ci := 5) (v := .ref (d 0)) hx hb hts iw_X5_spilled_5 hown hK hP 11 rfl rfl 0 (by decide) (hts _ fl_X5_spilled_10) (fun _ h9 => h9) rfl dX5_spilled_29 ?_
      refine va_getN (D := D) (C := RX1) (T := TX1) (N := 10) (ci := 1) (v := .ref (d 7)) hx hb hts iw_X5_spilled_1 hown hK hP 12 rfl rfl 8 (by decide) (nfX5_97 hN) (fun _ h9 => h9) rfl dX5_spilled_32 ?_
      refine lv_iload_n hx hb dX5_spilled_35 rfl (lv_at hl 1 rfl) ?_
      have M_36 := k_X2_perform l D cy ps d H.size cm or sa so g0 g1 g2 g3 ht ld lt mn vs pt tk mr od pl rm cd k (hI) (by omega)
      refine kV_v (wr := [oX xo d ps bs wt ki]) (As := [.ref (d 0), .ref (d 7), .int (iI k)]) (rest := []) (q := (RX2, TX2, 7)) (ci := 2) ⟨hx, hb, hml, hown, hts⟩ M_36 0 rfl rfl (cwV 3 hts gX5_spilled_X2_perform rfl rfl rfl (by decide +kernel) ⟨Nat.le_of_ble_eq_true rfl, Nat.le_of_ble_eq_true rfl⟩) hN hK hP hD hS hA [0, 1, 2, 3, 4, 5, 6, 7, 8, 9, 10, 12, 13, 14, 15, 16, 17, 18, 19] [11] rfl rfl (by decide) (by decide) (by decide) rfl hl.1 rfl (Nat.le_of_ble_eq_true rfl) dX5_spilled_36 ⟨Nat.le_of_ble_eq_true rfl, Nat.le_of_ble_eq_true rfl⟩ (fun u_36 H locs hw_36 hP hD hS => ?_)
      obtain ⟨v_1, v_2, v_3, v_4, v_5, v_6, v_7, v_8, v_9, v_10⟩ := u_36
      try dsimp only at hw_36
      replace hP : va_P D vwCl [oX xo d ps bs wt ki, oP ps v_1, ai (cy 0) (ps 1) 24 v_2, ai (cy 0) (ps 2) 24 v_3, ai (cy 0) (ps 3) 10 v_4, aq (cy 3) (ps 4) 4 (fun ix => ps (5 + ix)), ai (cy 0) (ps 5) 24 v_5, ai (cy 0) (ps 6) 24 v_6, ai (cy 0) (ps 7) 24 v_7, ai (cy 0) (ps 8) 24 v_8, ai (cy 0) (ps 9) 4 v_9, ai (cy 0) (ps 10) 4 v_10, oD d lt mn vs, ai (cy 0) (d 1) 24 pt, ai (cy 0) (d 2) 24 tk, ai (cy 0) (d 3) 24 mr, ai (cy 0) (d 4) 10 od, ai (cy 0) (d 5) 10 pl, ai (cy 0) (d 6) 4 rm, ai (cy 0) (d 7) 10 cd] H := hP
      replace hD : va_D A [oX xo d ps bs wt ki, oP ps v_1, ai (cy 0) (ps 1) 24 v_2, ai (cy 0) (ps 2) 24 v_3, ai (cy 0) (ps 3) 10 v_4, aq (cy 3) (ps 4) 4 (fun ix => ps (5 + ix)), ai (cy 0) (ps 5) 24 v_5, ai (cy 0) (ps 6) 24 v_6, ai (cy 0) (ps 7) 24 v_7, ai (cy 0) (ps 8) 24 v_8, ai (cy 0) (ps 9) 4 v_9, ai (cy 0) (ps 10) 4 v_10, oD d lt mn vs, ai (cy 0) (d 1) 24 pt, ai (cy 0) (d 2) 24 tk, ai (cy 0) (d 3) 24 mr, ai (cy 0) (d 4) 10 od, ai (cy 0) (d 5) 10 pl, ai (cy 0) (d 6) 4 rm, ai (cy 0) (d 7) 10 cd] := hD
      have hcm := RnP_cm hw_36
      have hrl := rn_len lt mn pt tk mr rm cd hlt0 k.toNat
      have hor := RnP_or hw_36
      refine lv_aload_n hx hb dX5_spilled_39 rfl (lv_at hl 0 rfl) ?_
      refine va_get (D := D) (C := RX5) (T := TX5) (N := 6) (ci := 5) (v := .ref (ps 0)) hx hb hts iw_X5_spilled_5 hown hK hP 0 rfl rfl 3 (by decide) (hts _ fl_X5_spilled_23) (fun _ h9 => h9) rfl dX5_spilled_40 ?_
      refine va_getN (D := D) (C := RX2) (T := TX2) (N := 7) (ci := 2) (v := .ref (ps 2)) hx hb hts iw_X5_spilled_2 hown hK hP 1 rfl rfl 2 (by decide) (nfX5_131 hN) (fun _ h9 => h9) rfl dX5_spilled_43 ?_
      refine lv_iload_n hx hb dX5_spilled_46 rfl (lv_at hl 2 rfl) ?_
      refine r_ald hx hb hK hP 3 rfl rfl ⟨by omega, by omega, by omega⟩ dX5_spilled_47 ?_
      exact hret [0, 12, 13, 14, 15, 16, 17, 18, 19, 1, 2, 3, 4, 5, 6, 7, 8, 9, 10, 11] (v_1, v_2, v_3, v_4, v_5, v_6, v_7, v_8, v_9, v_10) dX5_spilled_48 hP hD hS (by decide) rfl (by unfold fSpilled; (repeat' split) <;> first | omega | (exact hw_36.2.2.1 i (by omega) (by omega)))
    ·
      refine r_const hx hb dX5_spilled_18 ?_
      exact hret [11, 12, 13, 14, 15, 16, 17, 18, 19, 0, 1, 2, 3, 4, 5, 6, 7, 8, 9, 10] (cm, or, sa, so, g0, g1, g2, g3, ht, ld) dX5_spilled_19 hP hD hS (by decide) rfl (by unfold fSpilled; (repeat' split) <;> first | omega | (exact hw_36.2.2.1 i (by omega) (by omega)))
  ·
    refine r_bip hx hb (-2) dX5_spilled_7 (by decide) ?_
    exact hret [0, 1, 2, 3, 4, 5, 6, 7, 8, 9, 10, 11, 12, 13, 14, 15, 16, 17, 18, 19] (cm, or, sa, so, g0, g1, g2, g3, ht, ld) dX5_spilled_9 hP hD hS (by decide) rfl (by unfold fSpilled; (repeat' split) <;> first | omega | (exact hw_36.2.2.1 i (by omega) (by omega)))
abbrev rm_X5_load : Room := { frames := 4, cells := 0, slots := 0, locals := 111 }
theorem fl_X5_load_10 : Cond.fieldLink RX5 10 "WalkPasses" "desk" "LWalkPasses$Desk;" ∈ wsX5_load := by decide +kernel
theorem fl_X5_load_23 : Cond.fieldLink RX5 23 "WalkPasses" "passes" "LWalkPasses$Passes;" ∈ wsX5_load := by decide +kernel
theorem iw_X5_load_1 : ∀ w ∈ u_ws RX1 TX1 10, w ∈ wsX5_load := by decide +kernel
theorem iw_X5_load_2 : ∀ w ∈ u_ws RX2 TX2 7, w ∈ wsX5_load := by decide +kernel
theorem iw_X5_load_5 : ∀ w ∈ u_ws RX5 TX5 6, w ∈ wsX5_load := by decide +kernel
set_option maxHeartbeats 4000000 in
set_option maxRecDepth 100000 in
theorem k_X5_load (l : Launch) (D : va_G) (cy : Nat → ClassId) (xo d ps bs wt : Nat → Nat) (z : Nat) (ki : Int) (lt mn vs : Int) (pt tk mr od pl rm cd : Int → Int) (cm : Int) (or sa so g0 g1 g2 g3 ht ld : Int → Int) (k i : Int) (hI : DI lt mn pt tk mr od pl rm cd) (hk9 : inR k) (hv : inR i) : CtI l yX5_load wsX5_load rm_X5_load D (tyL cy) [.ref (xo 0), .int (iI k), .int (iI i)] [oX xo d ps bs wt ki, oD d lt mn vs, ai (cy 0) (d 1) 24 pt, ai (cy 0) (d 2) 24 tk, ai (cy 0) (d 3) 24 mr, ai (cy 0) (d 4) 10 od, ai (cy 0) (d 5) 10 pl, ai (cy 0) (d 6) 4 rm, ai (cy 0) (d 7) 10 cd, oP ps cm, ai (cy 0) (ps 1) 24 or, ai (cy 0) (ps 2) 24 sa, ai (cy 0) (ps 3) 10 so, aq (cy 3) (ps 4) 4 (fun ix => ps (5 + ix)), ai (cy 0) (ps 5) 24 g0, ai (cy 0) (ps 6) 24 g1, ai (cy 0) (ps 7) 24 g2, ai (cy 0) (ps 8) 24 g3, ai (cy 0) (ps 9) 4 ht, ai (cy 0) (ps 10) 4 ld] z (fun (r : Int) (u : Int × (Int → Int) × (Int → Int) × (Int → Int) × (Int → Int) × (Int → Int) × (Int → Int) × (Int → Int) × (Int → Int) × (Int → Int)) => r = fLoad lt mn pt tk mr rm cd k i) (fun (u : Int × (Int → Int) × (Int → Int) × (Int → Int) × (Int → Int) × (Int → Int) × (Int → Int) × (Int → Int) × (Int → Int) × (Int → Int)) => [oX xo d ps bs wt ki, oD d lt mn vs, ai (cy 0) (d 1) 24 pt, ai (cy 0) (d 2) 24 tk, ai (cy 0) (d 3) 24 mr, ai (cy 0) (d 4) 10 od, ai (cy 0) (d 5) 10 pl, ai (cy 0) (d 6) 4 rm, ai (cy 0) (d 7) 10 cd, oP ps u.1, ai (cy 0) (ps 1) 24 u.2.1, ai (cy 0) (ps 2) 24 u.2.2.1, ai (cy 0) (ps 3) 10 u.2.2.2.1, aq (cy 3) (ps 4) 4 (fun ix => ps (5 + ix)), ai (cy 0) (ps 5) 24 u.2.2.2.2.1, ai (cy 0) (ps 6) 24 u.2.2.2.2.2.1, ai (cy 0) (ps 7) 24 u.2.2.2.2.2.2.1, ai (cy 0) (ps 8) 24 u.2.2.2.2.2.2.2.1, ai (cy 0) (ps 9) 4 u.2.2.2.2.2.2.2.2.1, ai (cy 0) (ps 10) 4 u.2.2.2.2.2.2.2.2.2]) 0 0 := by
  refine ct_i (cc := cX5_load) (maxL := 3) (by decide) rfl (Nat.le_of_ble_eq_true rfl) ?_
  intro p e s m args below meth c A Q H locs ls hx hb hml hown hin hts hK hN hP hD hS hA hl hret
  replace hl : lv_has ls 3 [(0, .ref (xo 0)), (1, .int (iI k)), (2, .int (iI i))] := hl
  replace hown : s.vm.findClass RX5 = some m.cls := hown
  obtain ⟨⟨⟨hlt0, hlt1⟩, hmn0, hmn1⟩, ⟨hpt, htk, hmr⟩, ⟨hod, hpl, hpo, hop⟩, hrm, hcd⟩ := id hI
  refine lv_iload_n hx hb dX5_load_0 rfl (lv_at hl 1 rfl) ?_
  have M_1 := k_X5_isPasses l D cy  H.size k (hk9)
  refine kS_i (wr := [oX xo d ps bs wt ki, oD d lt mn vs, ai (cy 0) (d 1) 24 pt, ai (cy 0) (d 2) 24 tk, ai (cy 0) (d 3) 24 mr, ai (cy 0) (d 4) 10 od, ai (cy 0) (d 5) 10 pl, ai (cy 0) (d 6) 4 rm, ai (cy 0) (d 7) 10 cd, oP ps cm, ai (cy 0) (ps 1) 24 or, ai (cy 0) (ps 2) 24 sa, ai (cy 0) (ps 3) 10 so, aq (cy 3) (ps 4) 4 (fun ix => ps (5 + ix)), ai (cy 0) (ps 5) 24 g0, ai (cy 0) (ps 6) 24 g1, ai (cy 0) (ps 7) 24 g2, ai (cy 0) (ps 8) 24 g3, ai (cy 0) (ps 9) 4 ht, ai (cy 0) (ps 10) 4 ld]) (As := [.int (iI k)]) (rest := []) ⟨hx, hb, hml, hown, hts⟩ M_1 (va_cwS 1 hts gX5_load_X5_isPasses rfl rfl rfl (by decide +kernel) ⟨Nat.le_of_ble_eq_true rfl, Nat.le_of_ble_eq_true rfl⟩) hN hK hP hD hS hA [] [0, 1, 2, 3, 4, 5, 6, 7, 8, 9, 10, 11, 12, 13, 14, 15, 16, 17, 18, 19] rfl rfl (by decide) (by decide) (by decide) rfl hl.1 rfl (Nat.le_of_ble_eq_true rfl) dX5_load_1 ⟨Nat.le_of_ble_eq_true rfl, Nat.le_of_ble_eq_true rfl⟩ (fun r_1 u_1 H locs hw_1 hP hD hS => ?_)
  replace hP : va_P D vwCl [oX xo d ps bs wt ki, oD d lt mn vs, ai (cy 0) (d 1) 24 pt, ai (cy 0) (d 2) 24 tk, ai (cy 0) (d 3) 24 mr, ai (cy 0) (d 4) 10 od, ai (cy 0) (d 5) 10 pl, ai (cy 0) (d 6) 4 rm, ai (cy 0) (d 7) 10 cd, oP ps cm, ai (cy 0) (ps 1) 24 or, ai (cy 0) (ps 2) 24 sa, ai (cy 0) (ps 3) 10 so, aq (cy 3) (ps 4) 4 (fun ix => ps (5 + ix)), ai (cy 0) (ps 5) 24 g0, ai (cy 0) (ps 6) 24 g1, ai (cy 0) (ps 7) 24 g2, ai (cy 0) (ps 8) 24 g3, ai (cy 0) (ps 9) 4 ht, ai (cy 0) (ps 10) 4 ld] H := hP
  replace hD : va_D A [oX xo d ps bs wt ki, oD d lt mn vs, ai (cy 0) (d 1) 24 pt, ai (cy 0) (d 2) 24 tk, ai (cy 0) (d 3) 24 mr, ai (cy 0) (d 4) 10 od, ai (cy 0) (d 5) 10 pl, ai (cy 0) (d 6) 4 rm, ai (cy 0) (d 7) 10 cd, oP ps cm, ai (cy 0) (ps 1) 24 or, ai (cy 0) (ps 2) 24 sa, ai (cy 0) (ps 3) 10 so, aq (cy 3) (ps 4) 4 (fun ix => ps (5 + ix)), ai (cy 0) (ps 5) 24 g0, ai (cy 0) (ps 6) 24 g1, ai (cy 0) (ps 7) 24 g2, ai (cy 0) (ps 8) 24 g3, ai (cy 0) (ps 9) 4 ht, ai (cy 0) (ps 10) 4 ld] := hD
  refine r_ne0 hx hb 10 dX5_load_4 (by decide) ⟨by omega, by omega⟩ (fun c_4 => ?_) (fun c_4 => ?_)
  ·
    refine lv_aload_n hx hb dX5_load_10 rfl (lv_at hl 0 rfl) ?_
    refine lv_iload_n hx hb dX5_load_11 rfl (lv_at hl 2 rfl) ?_
    have M_12 := k_X5_isStacker l D cy xo d ps bs wt H.size ki lt mn vs pt tk mr od pl rm cd i (by omega) (hv)
    refine kV_i (wr := [oP ps cm, ai (cy 0) (ps 1) 24 or, ai (cy 0) (ps 2) 24 sa, ai (cy 0) (ps 3) 10 so, aq (cy 3) (ps 4) 4 (fun ix => ps (5 + ix)), ai (cy 0) (ps 5) 24 g0, ai (cy 0) (ps 6) 24 g1, ai (cy 0) (ps 7) 24 g2, ai (cy 0) (ps 8) 24 g3, ai (cy 0) (ps 9) 4 ht, ai (cy 0) (ps 10) 4 ld]) (As := [.int (iI i)]) (rest := []) (q := (RX5, TX5, 6)) (ci := 5) ⟨hx, hb, hml, hown, hts⟩ M_12 0 rfl rfl (cwV 1 hts gX5_load_X5_isStacker rfl rfl rfl (by decide +kernel) ⟨Nat.le_of_ble_eq_true rfl, Nat.le_of_ble_eq_true rfl⟩) hN hK hP hD hS hA [0, 1, 2, 3, 4, 5, 6, 7, 8] [9, 10, 11, 12, 13, 14, 15, 16, 17, 18, 19] rfl rfl (by decide) (by decide) (by decide) rfl hl.1 rfl (Nat.le_of_ble_eq_true rfl) dX5_load_12 ⟨Nat.le_of_ble_eq_true rfl, Nat.le_of_ble_eq_true rfl⟩ (fun r_12 u_12 H locs hw_12 hP hD hS => ?_)
    replace hP : va_P D vwCl [oP ps cm, ai (cy 0) (ps 1) 24 or, ai (cy 0) (ps 2) 24 sa, ai (cy 0) (ps 3) 10 so, aq (cy 3) (ps 4) 4 (fun ix => ps (5 + ix)), ai (cy 0) (ps 5) 24 g0, ai (cy 0) (ps 6) 24 g1, ai (cy 0) (ps 7) 24 g2, ai (cy 0) (ps 8) 24 g3, ai (cy 0) (ps 9) 4 ht, ai (cy 0) (ps 10) 4 ld, oX xo d ps bs wt ki, oD d lt mn vs, ai (cy 0) (d 1) 24 pt, ai (cy 0) (d 2) 24 tk, ai (cy 0) (d 3) 24 mr, ai (cy 0) (d 4) 10 od, ai (cy 0) (d 5) 10 pl, ai (cy 0) (d 6) 4 rm, ai (cy 0) (d 7) 10 cd] H := hP
    replace hD : va_D A [oP ps cm, ai (cy 0) (ps 1) 24 or, ai (cy 0) (ps 2) 24 sa, ai (cy 0) (ps 3) 10 so, aq (cy 3) (ps 4) 4 (fun ix => ps (5 + ix)), ai (cy 0) (ps 5) 24 g0, ai (cy 0) (ps 6) 24 g1, ai (cy 0) (ps 7) 24 g2, ai (cy 0) (ps 8) 24 g3, ai (cy 0) (ps 9) 4 ht, ai (cy 0) (ps 10) 4 ld, oX xo d ps bs wt ki, oD d lt mn vs, ai (cy 0) (d 1) 24 pt, ai (cy 0) (d 2) 24 tk, ai (cy 0) (d 3) 24 mr, ai (cy 0) (d 4) 10 od, ai (cy 0) (d 5) 10 pl, ai (cy 0) (d 6) 4 rm, ai (cy 0) (d 7) 10 cd] := hD
    refine r_ne0 hx hb 20 dX5_load_15 (by decide) ⟨by omega, by omega⟩ (fun c_15 => ?_) (fun c_15 => ?_)
    ·
      refine lv_aload_n hx hb dX5_load_20 rfl (lv_at hl 0 rfl) ?_
      refine va_get (D := D) (C := RX5) (T := TX5) (N := 6) (ci := 5) (v := .ref (ps 0)) hx hb hts iw_X5_load_5 hown hK hP 11 rfl rfl 3 (by decide) (hts _ fl_X5_load_23) (fun _ h9 => h9) rfl dX5_load_21 ?_
      refine lv_aload_n hx hb dX5_load_24 rfl (lv_at hl 0 rfl) ?_
      refine va_get (D := D) (C := RX5) (T := TX5) (N := 6) (ci := 5) (v := .ref (d 0)) hx hb hts iw_X5_load_5 hown hK hP 11 rfl rfl 0 (by decide) (hts _ fl_X5_load_10) (fun _ h9 => h9) rfl dX5_load_25 ?_
      refine lv_aload_n hx hb dX5_load_28 rfl (lv_at hl 0 rfl) ?_
      refine va_get (D := D) (C := RX5) (T := TX5) (N := 6) (ci := 5) (v := .ref (d 0)) hx hb hts iw_X5_load_5 hown hK hP 11 rfl rfl 0 (by decide) (hts _ fl_X5_load_10) (fun _ h9 => h9) rfl dX5_load_29 ?_
      refine va_getN (D := D) (C := RX1) (T := TX1) (N := 10) (ci := 1) (v := .ref (d 7)) hx hb hts iw_X5_load_1 hown hK hP 12 rfl rfl 8 (by decide) (nfX5_97 hN) (fun _ h9 => h9) rfl dX5_load_32 ?_
      refine lv_iload_n hx hb dX5_load_35 rfl (lv_at hl 1 rfl) ?_
      have M_36 := k_X2_perform l D cy ps d H.size cm or sa so g0 g1 g2 g3 ht ld lt mn vs pt tk mr od pl rm cd k (hI) (by omega)
      refine kV_v (wr := [oX xo d ps bs wt ki]) (As := [.ref (d 0), .ref (d 7), .int (iI k)]) (rest := []) (q := (RX2, TX2, 7)) (ci := 2) ⟨hx, hb, hml, hown, hts⟩ M_36 0 rfl rfl (cwV 3 hts gX5_load_X2_perform rfl rfl rfl (by decide +kernel) ⟨Nat.le_of_ble_eq_true rfl, Nat.le_of_ble_eq_true rfl⟩) hN hK hP hD hS hA [0, 1, 2, 3, 4, 5, 6, 7, 8, 9, 10, 12, 13, 14, 15, 16, 17, 18, 19] [11] rfl rfl (by decide) (by decide) (by decide) rfl hl.1 rfl (Nat.le_of_ble_eq_true rfl) dX5_load_36 ⟨Nat.le_of_ble_eq_true rfl, Nat.le_of_ble_eq_true rfl⟩ (fun u_36 H locs hw_36 hP hD hS => ?_)
      obtain ⟨v_1, v_2, v_3, v_4, v_5, v_6, v_7, v_8, v_9, v_10⟩ := u_36
      try dsimp only at hw_36
      replace hP : va_P D vwCl [oX xo d ps bs wt ki, oP ps v_1, ai (cy 0) (ps 1) 24 v_2, ai (cy 0) (ps 2) 24 v_3, ai (cy 0) (ps 3) 10 v_4, aq (cy 3) (ps 4) 4 (fun ix => ps (5 + ix)), ai (cy 0) (ps 5) 24 v_5, ai (cy 0) (ps 6) 24 v_6, ai (cy 0) (ps 7) 24 v_7, ai (cy 0) (ps 8) 24 v_8, ai (cy 0) (ps 9) 4 v_9, ai (cy 0) (ps 10) 4 v_10, oD d lt mn vs, ai (cy 0) (d 1) 24 pt, ai (cy 0) (d 2) 24 tk, ai (cy 0) (d 3) 24 mr, ai (cy 0) (d 4) 10 od, ai (cy 0) (d 5) 10 pl, ai (cy 0) (d 6) 4 rm, ai (cy 0) (d 7) 10 cd] H := hP
      replace hD : va_D A [oX xo d ps bs wt ki, oP ps v_1, ai (cy 0) (ps 1) 24 v_2, ai (cy 0) (ps 2) 24 v_3, ai (cy 0) (ps 3) 10 v_4, aq (cy 3) (ps 4) 4 (fun ix => ps (5 + ix)), ai (cy 0) (ps 5) 24 v_5, ai (cy 0) (ps 6) 24 v_6, ai (cy 0) (ps 7) 24 v_7, ai (cy 0) (ps 8) 24 v_8, ai (cy 0) (ps 9) 4 v_9, ai (cy 0) (ps 10) 4 v_10, oD d lt mn vs, ai (cy 0) (d 1) 24 pt, ai (cy 0) (d 2) 24 tk, ai (cy 0) (d 3) 24 mr, ai (cy 0) (d 4) 10 od, ai (cy 0) (d 5) 10 pl, ai (cy 0) (d 6) 4 rm, ai (cy 0) (d 7) 10 cd] := hD
      have hcm := RnP_cm hw_36
      have hrl := rn_len lt mn pt tk mr rm cd hlt0 k.toNat
      have hor := RnP_or hw_36
      refine lv_aload_n hx hb dX5_load_39 rfl (lv_at hl 0 rfl) ?_
      refine va_get (D := D) (C := RX5) (T := TX5) (N := 6) (ci := 5) (v := .ref (ps 0)) hx hb hts iw_X5_load_5 hown hK hP 0 rfl rfl 3 (by decide) (hts _ fl_X5_load_23) (fun _ h9 => h9) rfl dX5_load_40 ?_
      refine va_getN (D := D) (C := RX2) (T := TX2) (N := 7) (ci := 2) (v := .ref (ps 10)) hx hb hts iw_X5_load_2 hown hK hP 1 rfl rfl 6 (by decide) (nfX5_134 hN) (fun _ h9 => h9) rfl dX5_load_43 ?_
      refine lv_iload_n hx hb dX5_load_46 rfl (lv_at hl 2 rfl) ?_
      refine r_ald hx hb hK hP 11 rfl rfl ⟨by omega, by omega, by omega⟩ dX5_load_47 ?_
      exact hret [0, 12, 13, 14, 15, 16, 17, 18, 19, 1, 2, 3, 4, 5, 6, 7, 8, 9, 10, 11] (v_1, v_2, v_3, v_4, v_5, v_6, v_7, v_8, v_9, v_10) dX5_load_48 hP hD hS (by decide) rfl (by unfold fLoad; (repeat' split) <;> first | omega | (rw [hw_36.2.2.2 (by omega)]))
    ·
      refine r_const hx hb dX5_load_18 ?_
      exact hret [11, 12, 13, 14, 15, 16, 17, 18, 19, 0, 1, 2, 3, 4, 5, 6, 7, 8, 9, 10] (cm, or, sa, so, g0, g1, g2, g3, ht, ld) dX5_load_19 hP hD hS (by decide) rfl (by unfold fLoad; (repeat' split) <;> first | omega | (rw [hw_36.2.2.2 (by omega)]))
  ·
    refine r_bip hx hb (-2) dX5_load_7 (by decide) ?_
    exact hret [0, 1, 2, 3, 4, 5, 6, 7, 8, 9, 10, 11, 12, 13, 14, 15, 16, 17, 18, 19] (cm, or, sa, so, g0, g1, g2, g3, ht, ld) dX5_load_9 hP hD hS (by decide) rfl (by unfold fLoad; (repeat' split) <;> first | omega | (rw [hw_36.2.2.2 (by omega)]))
abbrev rm_X5_rise : Room := { frames := 2, cells := 0, slots := 0, locals := 45 }
theorem fl_X5_rise_10 : Cond.fieldLink RX5 10 "WalkPasses" "desk" "LWalkPasses$Desk;" ∈ wsX5_rise := by decide +kernel
theorem iw_X5_rise_5 : ∀ w ∈ u_ws RX5 TX5 6, w ∈ wsX5_rise := by decide +kernel
set_option maxHeartbeats 4000000 in
set_option maxRecDepth 100000 in
theorem k_X5_rise (l : Launch) (D : va_G) (cy : Nat → ClassId) (xo d ps bs wt : Nat → Nat) (z : Nat) (ki : Int) (lt mn vs : Int) (pt tk mr od pl rm cd : Int → Int) (hI : DI lt mn pt tk mr od pl rm cd) : CtI l yX5_rise wsX5_rise rm_X5_rise D (tyL cy) [.ref (xo 0)] [oX xo d ps bs wt ki, oD d lt mn vs, ai (cy 0) (d 1) 24 pt, ai (cy 0) (d 2) 24 tk, ai (cy 0) (d 3) 24 mr, ai (cy 0) (d 4) 10 od, ai (cy 0) (d 5) 10 pl, ai (cy 0) (d 6) 4 rm, ai (cy 0) (d 7) 10 cd] z (fun (r : Int) (u : Unit) => r = rise (hasI pt lt) od cd 10 0 (-1)) (fun (u : Unit) => [oX xo d ps bs wt ki, oD d lt mn vs, ai (cy 0) (d 1) 24 pt, ai (cy 0) (d 2) 24 tk, ai (cy 0) (d 3) 24 mr, ai (cy 0) (d 4) 10 od, ai (cy 0) (d 5) 10 pl, ai (cy 0) (d 6) 4 rm, ai (cy 0) (d 7) 10 cd]) 0 0 := by
  refine ct_i (cc := cX5_rise) (maxL := 1) (by decide) rfl (Nat.le_of_ble_eq_true rfl) ?_
  intro p e s m args below meth c A Q H locs ls hx hb hml hown hin hts hK hN hP hD hS hA hl hret
  replace hl : lv_has ls 1 [(0, .ref (xo 0))] := hl
  replace hown : s.vm.findClass RX5 = some m.cls := hown
  obtain ⟨⟨⟨hlt0, hlt1⟩, hmn0, hmn1⟩, ⟨hpt, htk, hmr⟩, ⟨hod, hpl, hpo, hop⟩, hrm, hcd⟩ := id hI
  refine lv_aload_n hx hb dX5_rise_0 rfl (lv_at hl 0 rfl) ?_
  refine va_get (D := D) (C := RX5) (T := TX5) (N := 6) (ci := 5) (v := .ref (d 0)) hx hb hts iw_X5_rise_5 hown hK hP 0 rfl rfl 0 (by decide) (hts _ fl_X5_rise_10) (fun _ h9 => h9) rfl dX5_rise_1 ?_
  have M_4 := k_X1_codesRise l D cy d H.size lt mn vs pt tk mr od pl rm cd (hI)
  refine kV_i (wr := [oX xo d ps bs wt ki]) (As := []) (rest := []) (q := (RX1, TX1, 10)) (ci := 1) ⟨hx, hb, hml, hown, hts⟩ M_4 1 rfl rfl (cwV 0 hts gX5_rise_X1_codesRise rfl rfl rfl (by decide +kernel) ⟨Nat.le_of_ble_eq_true rfl, Nat.le_of_ble_eq_true rfl⟩) hN hK hP hD hS hA [1, 2, 3, 4, 5, 6, 7, 8] [0] rfl rfl (by decide) (by decide) (by decide) rfl hl.1 rfl (Nat.le_of_ble_eq_true rfl) dX5_rise_4 ⟨Nat.le_of_ble_eq_true rfl, Nat.le_of_ble_eq_true rfl⟩ (fun r_4 u_4 H locs hw_4 hP hD hS => ?_)
  replace hP : va_P D vwCl [oX xo d ps bs wt ki, oD d lt mn vs, ai (cy 0) (d 1) 24 pt, ai (cy 0) (d 2) 24 tk, ai (cy 0) (d 3) 24 mr, ai (cy 0) (d 4) 10 od, ai (cy 0) (d 5) 10 pl, ai (cy 0) (d 6) 4 rm, ai (cy 0) (d 7) 10 cd] H := hP
  replace hD : va_D A [oX xo d ps bs wt ki, oD d lt mn vs, ai (cy 0) (d 1) 24 pt, ai (cy 0) (d 2) 24 tk, ai (cy 0) (d 3) 24 mr, ai (cy 0) (d 4) 10 od, ai (cy 0) (d 5) 10 pl, ai (cy 0) (d 6) 4 rm, ai (cy 0) (d 7) 10 cd] := hD
  have hrb := rise_b (hasI pt lt) od cd 10 0 (-1)
  refine r_eq0 hx hb 14 dX5_rise_7 (by decide) ⟨by omega, by omega⟩ (fun c_7 => ?_) (fun c_7 => ?_)
  ·
    refine r_const hx hb dX5_rise_14 ?_
    exact hret [0, 1, 2, 3, 4, 5, 6, 7, 8] () dX5_rise_15 hP hD hS (by decide) rfl (by omega)
  ·
    refine r_const hx hb dX5_rise_10 ?_
    refine lv_goto (tgt := 15) hx hb dX5_rise_11 (by decide) ?_
    exact hret [0, 1, 2, 3, 4, 5, 6, 7, 8] () dX5_rise_15 hP hD hS (by decide) rfl (by omega)
abbrev rm_X5_count : Room := { frames := 2, cells := 0, slots := 0, locals := 44 }
theorem fl_X5_count_10 : Cond.fieldLink RX5 10 "WalkPasses" "desk" "LWalkPasses$Desk;" ∈ wsX5_count := by decide +kernel
theorem fl_X5_count_182 : Cond.fieldLink RX5 182 "WalkPasses" "keptImages" "I" ∈ wsX5_count := by decide +kernel
theorem iw_X5_count_1 : ∀ w ∈ u_ws RX1 TX1 10, w ∈ wsX5_count := by decide +kernel
theorem iw_X5_count_5 : ∀ w ∈ u_ws RX5 TX5 6, w ∈ wsX5_count := by decide +kernel
set_option maxHeartbeats 4000000 in
set_option maxRecDepth 100000 in
theorem k_X5_count (l : Launch) (D : va_G) (cy : Nat → ClassId) (xo d ps bs wt : Nat → Nat) (z : Nat) (ki : Int) (lt mn vs : Int) (pt tk mr od pl rm cd : Int → Int) (v : Int) (hI : DI lt mn pt tk mr od pl rm cd) (hv : inR v) : CtI l yX5_count wsX5_count rm_X5_count D (tyL cy) [.ref (xo 0), .int (iI v)] [oX xo d ps bs wt ki, oD d lt mn vs, ai (cy 0) (d 1) 24 pt, ai (cy 0) (d 2) 24 tk, ai (cy 0) (d 3) 24 mr, ai (cy 0) (d 4) 10 od, ai (cy 0) (d 5) 10 pl, ai (cy 0) (d 6) 4 rm, ai (cy 0) (d 7) 10 cd] z (fun (r : Int) (u : Unit) => r = fCount lt mn pt tk mr rm cd ki v) (fun (u : Unit) => [oX xo d ps bs wt ki, oD d lt mn vs, ai (cy 0) (d 1) 24 pt, ai (cy 0) (d 2) 24 tk, ai (cy 0) (d 3) 24 mr, ai (cy 0) (d 4) 10 od, ai (cy 0) (d 5) 10 pl, ai (cy 0) (d 6) 4 rm, ai (cy 0) (d 7) 10 cd]) 0 0 := by
  refine ct_i (cc := cX5_count) (maxL := 2) (by decide) rfl (Nat.le_of_ble_eq_true rfl) ?_
  intro p e s m args below meth c A Q H locs ls hx hb hml hown hin hts hK hN hP hD hS hA hl hret
  replace hl : lv_has ls 2 [(0, .ref (xo 0)), (1, .int (iI v))] := hl
  replace hown : s.vm.findClass RX5 = some m.cls := hown
  obtain ⟨⟨⟨hlt0, hlt1⟩, hmn0, hmn1⟩, ⟨hpt, htk, hmr⟩, ⟨hod, hpl, hpo, hop⟩, hrm, hcd⟩ := id hI
  refine lv_iload_n hx hb dX5_count_0 rfl (lv_at hl 1 rfl) ?_
  have M_1 := k_X5_asksCode l D cy  H.size v (hv)
  refine kS_i (wr := [oX xo d ps bs wt ki, oD d lt mn vs, ai (cy 0) (d 1) 24 pt, ai (cy 0) (d 2) 24 tk, ai (cy 0) (d 3) 24 mr, ai (cy 0) (d 4) 10 od, ai (cy 0) (d 5) 10 pl, ai (cy 0) (d 6) 4 rm, ai (cy 0) (d 7) 10 cd]) (As := [.int (iI v)]) (rest := []) ⟨hx, hb, hml, hown, hts⟩ M_1 (va_cwS 1 hts gX5_count_X5_asksCode rfl rfl rfl (by decide +kernel) ⟨Nat.le_of_ble_eq_true rfl, Nat.le_of_ble_eq_true rfl⟩) hN hK hP hD hS hA [] [0, 1, 2, 3, 4, 5, 6, 7, 8] rfl rfl (by decide) (by decide) (by decide) rfl hl.1 rfl (Nat.le_of_ble_eq_true rfl) dX5_count_1 ⟨Nat.le_of_ble_eq_true rfl, Nat.le_of_ble_eq_true rfl⟩ (fun r_1 u_1 H locs hw_1 hP hD hS => ?_)
  replace hP : va_P D vwCl [oX xo d ps bs wt ki, oD d lt mn vs, ai (cy 0) (d 1) 24 pt, ai (cy 0) (d 2) 24 tk, ai (cy 0) (d 3) 24 mr, ai (cy 0) (d 4) 10 od, ai (cy 0) (d 5) 10 pl, ai (cy 0) (d 6) 4 rm, ai (cy 0) (d 7) 10 cd] H := hP
  replace hD : va_D A [oX xo d ps bs wt ki, oD d lt mn vs, ai (cy 0) (d 1) 24 pt, ai (cy 0) (d 2) 24 tk, ai (cy 0) (d 3) 24 mr, ai (cy 0) (d 4) 10 od, ai (cy 0) (d 5) 10 pl, ai (cy 0) (d 6) 4 rm, ai (cy 0) (d 7) 10 cd] := hD
  refine r_eq0 hx hb 20 dX5_count_4 (by decide) ⟨by omega, by omega⟩ (fun c_4 => ?_) (fun c_4 => ?_)
  ·
    refine lv_iload_n hx hb dX5_count_20 rfl (lv_at hl 1 rfl) ?_
    have hr_21 : inR v := hv
    by_cases c_21 : v < 0 ∨ 6 < v
    · refine lv_tableOut (tgt := 117) hx hb dX5_count_21 (by rw [iI_toInt hr_21]; exact c_21) (by decide) ?_
      refine r_bip hx hb (-2) dX5_count_117 (by decide) ?_
      exact hret [0, 1, 2, 3, 4, 5, 6, 7, 8] () dX5_count_119 hP hD hS (by decide) rfl (by unfold fCount; (repeat' split) <;> omega)
    by_cases c_21_0 : v = 0
    · refine lv_tableIn (tgt := 64) hx hb dX5_count_21 (by rw [iI_toInt hr_21]; omega) (by rw [iI_toInt hr_21]; omega) (off := 43) (by rw [iI_toInt hr_21, c_21_0]; rfl) (by decide) ?_
      refine lv_aload_n hx hb dX5_count_64 rfl (lv_at hl 0 rfl) ?_
      refine va_get (D := D) (C := RX5) (T := TX5) (N := 6) (ci := 5) (v := .ref (d 0)) hx hb hts iw_X5_count_5 hown hK hP 0 rfl rfl 0 (by decide) (hts _ fl_X5_count_10) (fun _ h9 => h9) rfl dX5_count_65 ?_
      refine va_getN (D := D) (C := RX1) (T := TX1) (N := 10) (ci := 1) (v := .int (iI lt)) hx hb hts iw_X5_count_1 hown hK hP 1 rfl rfl 0 (by decide) (nfX5_49 hN) (fun _ h9 => h9) rfl dX5_count_68 ?_
      exact hret [0, 1, 2, 3, 4, 5, 6, 7, 8] () dX5_count_71 hP hD hS (by decide) rfl (by unfold fCount; (repeat' split) <;> omega)
    by_cases c_21_1 : v = 1
    · refine lv_tableIn (tgt := 72) hx hb dX5_count_21 (by rw [iI_toInt hr_21]; omega) (by rw [iI_toInt hr_21]; omega) (off := 51) (by rw [iI_toInt hr_21, c_21_1]; rfl) (by decide) ?_
      refine lv_aload_n hx hb dX5_count_72 rfl (lv_at hl 0 rfl) ?_
      refine va_get (D := D) (C := RX5) (T := TX5) (N := 6) (ci := 5) (v := .ref (d 0)) hx hb hts iw_X5_count_5 hown hK hP 0 rfl rfl 0 (by decide) (hts _ fl_X5_count_10) (fun _ h9 => h9) rfl dX5_count_73 ?_
      have M_76 := k_X1_countMisread l D cy d H.size lt mn vs pt tk mr od pl rm cd (hI)
      refine kV_i (wr := [oX xo d ps bs wt ki]) (As := []) (rest := []) (q := (RX1, TX1, 10)) (ci := 1) ⟨hx, hb, hml, hown, hts⟩ M_76 1 rfl rfl (cwV 0 hts gX5_count_X1_countMisread rfl rfl rfl (by decide +kernel) ⟨Nat.le_of_ble_eq_true rfl, Nat.le_of_ble_eq_true rfl⟩) hN hK hP hD hS hA [1, 2, 3, 4, 5, 6, 7, 8] [0] rfl rfl (by decide) (by decide) (by decide) rfl hl.1 rfl (Nat.le_of_ble_eq_true rfl) dX5_count_76 ⟨Nat.le_of_ble_eq_true rfl, Nat.le_of_ble_eq_true rfl⟩ (fun r_76 u_76 H locs hw_76 hP hD hS => ?_)
      replace hP : va_P D vwCl [oX xo d ps bs wt ki, oD d lt mn vs, ai (cy 0) (d 1) 24 pt, ai (cy 0) (d 2) 24 tk, ai (cy 0) (d 3) 24 mr, ai (cy 0) (d 4) 10 od, ai (cy 0) (d 5) 10 pl, ai (cy 0) (d 6) 4 rm, ai (cy 0) (d 7) 10 cd] H := hP
      replace hD : va_D A [oX xo d ps bs wt ki, oD d lt mn vs, ai (cy 0) (d 1) 24 pt, ai (cy 0) (d 2) 24 tk, ai (cy 0) (d 3) 24 mr, ai (cy 0) (d 4) 10 od, ai (cy 0) (d 5) 10 pl, ai (cy 0) (d 6) 4 rm, ai (cy 0) (d 7) 10 cd] := hD
      exact hret [0, 1, 2, 3, 4, 5, 6, 7, 8] () dX5_count_79 hP hD hS (by decide) rfl (by unfold fCount; (repeat' split) <;> omega)
    by_cases c_21_2 : v = 2
    · refine lv_tableIn (tgt := 80) hx hb dX5_count_21 (by rw [iI_toInt hr_21]; omega) (by rw [iI_toInt hr_21]; omega) (off := 59) (by rw [iI_toInt hr_21, c_21_2]; rfl) (by decide) ?_
      refine lv_aload_n hx hb dX5_count_80 rfl (lv_at hl 0 rfl) ?_
      refine va_get (D := D) (C := RX5) (T := TX5) (N := 6) (ci := 5) (v := .ref (d 0)) hx hb hts iw_X5_count_5 hown hK hP 0 rfl rfl 0 (by decide) (hts _ fl_X5_count_10) (fun _ h9 => h9) rfl dX5_count_81 ?_
      have M_84 := k_X1_countPoints l D cy d H.size lt mn vs pt tk mr od pl rm cd (⟨⟨hlt0, hlt1⟩, hpt⟩)
      refine kV_i (wr := [oX xo d ps bs wt ki]) (As := []) (rest := []) (q := (RX1, TX1, 10)) (ci := 1) ⟨hx, hb, hml, hown, hts⟩ M_84 1 rfl rfl (cwV 0 hts gX5_count_X1_countPoints rfl rfl rfl (by decide +kernel) ⟨Nat.le_of_ble_eq_true rfl, Nat.le_of_ble_eq_true rfl⟩) hN hK hP hD hS hA [1, 2, 3, 4, 5, 6, 7, 8] [0] rfl rfl (by decide) (by decide) (by decide) rfl hl.1 rfl (Nat.le_of_ble_eq_true rfl) dX5_count_84 ⟨Nat.le_of_ble_eq_true rfl, Nat.le_of_ble_eq_true rfl⟩ (fun r_84 u_84 H locs hw_84 hP hD hS => ?_)
      replace hP : va_P D vwCl [oX xo d ps bs wt ki, oD d lt mn vs, ai (cy 0) (d 1) 24 pt, ai (cy 0) (d 2) 24 tk, ai (cy 0) (d 3) 24 mr, ai (cy 0) (d 4) 10 od, ai (cy 0) (d 5) 10 pl, ai (cy 0) (d 6) 4 rm, ai (cy 0) (d 7) 10 cd] H := hP
      replace hD : va_D A [oX xo d ps bs wt ki, oD d lt mn vs, ai (cy 0) (d 1) 24 pt, ai (cy 0) (d 2) 24 tk, ai (cy 0) (d 3) 24 mr, ai (cy 0) (d 4) 10 od, ai (cy 0) (d 5) 10 pl, ai (cy 0) (d 6) 4 rm, ai (cy 0) (d 7) 10 cd] := hD
      exact hret [0, 1, 2, 3, 4, 5, 6, 7, 8] () dX5_count_87 hP hD hS (by decide) rfl (by unfold fCount; (repeat' split) <;> omega)
    by_cases c_21_3 : v = 3
    · refine lv_tableIn (tgt := 88) hx hb dX5_count_21 (by rw [iI_toInt hr_21]; omega) (by rw [iI_toInt hr_21]; omega) (off := 67) (by rw [iI_toInt hr_21, c_21_3]; rfl) (by decide) ?_
      refine lv_aload_n hx hb dX5_count_88 rfl (lv_at hl 0 rfl) ?_
      refine va_get (D := D) (C := RX5) (T := TX5) (N := 6) (ci := 5) (v := .ref (d 0)) hx hb hts iw_X5_count_5 hown hK hP 0 rfl rfl 0 (by decide) (hts _ fl_X5_count_10) (fun _ h9 => h9) rfl dX5_count_89 ?_
      refine va_getN (D := D) (C := RX1) (T := TX1) (N := 10) (ci := 1) (v := .int (iI mn)) hx hb hts iw_X5_count_1 hown hK hP 1 rfl rfl 6 (by decide) (nfX5_82 hN) (fun _ h9 => h9) rfl dX5_count_92 ?_
      exact hret [0, 1, 2, 3, 4, 5, 6, 7, 8] () dX5_count_95 hP hD hS (by decide) rfl (by unfold fCount; (repeat' split) <;> omega)
    by_cases c_21_4 : v = 4
    · refine lv_tableIn (tgt := 96) hx hb dX5_count_21 (by rw [iI_toInt hr_21]; omega) (by rw [iI_toInt hr_21]; omega) (off := 75) (by rw [iI_toInt hr_21, c_21_4]; rfl) (by decide) ?_
      refine lv_aload_n hx hb dX5_count_96 rfl (lv_at hl 0 rfl) ?_
      refine va_get (D := D) (C := RX5) (T := TX5) (N := 6) (ci := 5) (v := .ref (d 0)) hx hb hts iw_X5_count_5 hown hK hP 0 rfl rfl 0 (by decide) (hts _ fl_X5_count_10) (fun _ h9 => h9) rfl dX5_count_97 ?_
      have M_100 := k_X1_addThicks l D cy d H.size lt mn vs pt tk mr od pl rm cd (hI)
      refine kV_i (wr := [oX xo d ps bs wt ki]) (As := []) (rest := []) (q := (RX1, TX1, 10)) (ci := 1) ⟨hx, hb, hml, hown, hts⟩ M_100 1 rfl rfl (cwV 0 hts gX5_count_X1_addThicks rfl rfl rfl (by decide +kernel) ⟨Nat.le_of_ble_eq_true rfl, Nat.le_of_ble_eq_true rfl⟩) hN hK hP hD hS hA [1, 2, 3, 4, 5, 6, 7, 8] [0] rfl rfl (by decide) (by decide) (by decide) rfl hl.1 rfl (Nat.le_of_ble_eq_true rfl) dX5_count_100 ⟨Nat.le_of_ble_eq_true rfl, Nat.le_of_ble_eq_true rfl⟩ (fun r_100 u_100 H locs hw_100 hP hD hS => ?_)
      replace hP : va_P D vwCl [oX xo d ps bs wt ki, oD d lt mn vs, ai (cy 0) (d 1) 24 pt, ai (cy 0) (d 2) 24 tk, ai (cy 0) (d 3) 24 mr, ai (cy 0) (d 4) 10 od, ai (cy 0) (d 5) 10 pl, ai (cy 0) (d 6) 4 rm, ai (cy 0) (d 7) 10 cd] H := hP
      replace hD : va_D A [oX xo d ps bs wt ki, oD d lt mn vs, ai (cy 0) (d 1) 24 pt, ai (cy 0) (d 2) 24 tk, ai (cy 0) (d 3) 24 mr, ai (cy 0) (d 4) 10 od, ai (cy 0) (d 5) 10 pl, ai (cy 0) (d 6) 4 rm, ai (cy 0) (d 7) 10 cd] := hD
      exact hret [0, 1, 2, 3, 4, 5, 6, 7, 8] () dX5_count_103 hP hD hS (by decide) rfl (by unfold fCount; (repeat' split) <;> omega)
    by_cases c_21_5 : v = 5
    · refine lv_tableIn (tgt := 104) hx hb dX5_count_21 (by rw [iI_toInt hr_21]; omega) (by rw [iI_toInt hr_21]; omega) (off := 83) (by rw [iI_toInt hr_21, c_21_5]; rfl) (by decide) ?_
      refine lv_aload_n hx hb dX5_count_104 rfl (lv_at hl 0 rfl) ?_
      refine va_get (D := D) (C := RX5) (T := TX5) (N := 6) (ci := 5) (v := .ref (d 0)) hx hb hts iw_X5_count_5 hown hK hP 0 rfl rfl 0 (by decide) (hts _ fl_X5_count_10) (fun _ h9 => h9) rfl dX5_count_105 ?_
      have M_108 := k_X1_addRooms l D cy d H.size lt mn vs pt tk mr od pl rm cd (hI)
      refine kV_i (wr := [oX xo d ps bs wt ki]) (As := []) (rest := []) (q := (RX1, TX1, 10)) (ci := 1) ⟨hx, hb, hml, hown, hts⟩ M_108 1 rfl rfl (cwV 0 hts gX5_count_X1_addRooms rfl rfl rfl (by decide +kernel) ⟨Nat.le_of_ble_eq_true rfl, Nat.le_of_ble_eq_true rfl⟩) hN hK hP hD hS hA [1, 2, 3, 4, 5, 6, 7, 8] [0] rfl rfl (by decide) (by decide) (by decide) rfl hl.1 rfl (Nat.le_of_ble_eq_true rfl) dX5_count_108 ⟨Nat.le_of_ble_eq_true rfl, Nat.le_of_ble_eq_true rfl⟩ (fun r_108 u_108 H locs hw_108 hP hD hS => ?_)
      replace hP : va_P D vwCl [oX xo d ps bs wt ki, oD d lt mn vs, ai (cy 0) (d 1) 24 pt, ai (cy 0) (d 2) 24 tk, ai (cy 0) (d 3) 24 mr, ai (cy 0) (d 4) 10 od, ai (cy 0) (d 5) 10 pl, ai (cy 0) (d 6) 4 rm, ai (cy 0) (d 7) 10 cd] H := hP
      replace hD : va_D A [oX xo d ps bs wt ki, oD d lt mn vs, ai (cy 0) (d 1) 24 pt, ai (cy 0) (d 2) 24 tk, ai (cy 0) (d 3) 24 mr, ai (cy 0) (d 4) 10 od, ai (cy 0) (d 5) 10 pl, ai (cy 0) (d 6) 4 rm, ai (cy 0) (d 7) 10 cd] := hD
      exact hret [0, 1, 2, 3, 4, 5, 6, 7, 8] () dX5_count_111 hP hD hS (by decide) rfl (by unfold fCount; (repeat' split) <;> omega)
    by_cases c_21_6 : v = 6
    · refine lv_tableIn (tgt := 112) hx hb dX5_count_21 (by rw [iI_toInt hr_21]; omega) (by rw [iI_toInt hr_21]; omega) (off := 91) (by rw [iI_toInt hr_21, c_21_6]; rfl) (by decide) ?_
      refine lv_aload_n hx hb dX5_count_112 rfl (lv_at hl 0 rfl) ?_
      refine va_get (D := D) (C := RX5) (T := TX5) (N := 6) (ci := 5) (v := .int (iI ki)) hx hb hts iw_X5_count_5 hown hK hP 0 rfl rfl 2 (by decide) (hts _ fl_X5_count_182) (fun _ h9 => h9) rfl dX5_count_113 ?_
      exact hret [0, 1, 2, 3, 4, 5, 6, 7, 8] () dX5_count_116 hP hD hS (by decide) rfl (by unfold fCount; (repeat' split) <;> omega)
    exact absurd c_21 (by omega)
  ·
    refine lv_aload_n hx hb dX5_count_7 rfl (lv_at hl 0 rfl) ?_
    refine va_get (D := D) (C := RX5) (T := TX5) (N := 6) (ci := 5) (v := .ref (d 0)) hx hb hts iw_X5_count_5 hown hK hP 0 rfl rfl 0 (by decide) (hts _ fl_X5_count_10) (fun _ h9 => h9) rfl dX5_count_8 ?_
    refine va_getN (D := D) (C := RX1) (T := TX1) (N := 10) (ci := 1) (v := .ref (d 7)) hx hb hts iw_X5_count_1 hown hK hP 1 rfl rfl 8 (by decide) (nfX5_97 hN) (fun _ h9 => h9) rfl dX5_count_11 ?_
    refine lv_iload_n hx hb dX5_count_14 rfl (lv_at hl 1 rfl) ?_
    refine r_bip hx hb (10) dX5_count_15 (by decide) ?_
    refine r_sub hx hb dX5_count_17 ?_
    refine r_ald hx hb hK hP 8 rfl rfl ⟨by omega, by omega, by omega⟩ dX5_count_18 ?_
    exact hret [0, 1, 2, 3, 4, 5, 6, 7, 8] () dX5_count_19 hP hD hS (by decide) rfl (by unfold fCount; (repeat' split) <;> omega)
