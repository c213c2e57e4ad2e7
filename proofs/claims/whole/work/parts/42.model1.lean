abbrev rm_X6_in : Room := { frames := 0, cells := 0, slots := 0, locals := 0 }
set_option maxHeartbeats 4000000 in
set_option maxRecDepth 100000 in
theorem k_X6_in (l : Launch) (D : va_G) (cy : Nat → ClassId) (z : Nat) (v lo hi : Int) (hv : inR v) (hlo : inR lo) (hhi : inR hi) : CtI l yX6_in wsX6_in rm_X6_in D (tyL cy) [.int (iI v), .int (iI lo), .int (iI hi)] [] z (fun (r : Int) (u : Unit) => (r = 1 ∧ lo ≤ v ∧ v ≤ hi) ∨ (r = 0 ∧ (v < lo ∨ hi < v))) (fun (u : Unit) => []) 0 0 := by
  refine ct_z (cc := cX6_in) (maxL := 3) (by decide) rfl (Nat.le_of_ble_eq_true rfl) ?_
  intro p e s m args below meth c A Q H locs ls hx hb hml hown hin hts hK hN hP hD hS hA hl hret
  replace hl : lv_has ls 3 [(0, .int (iI v)), (1, .int (iI lo)), (2, .int (iI hi))] := hl
  replace hown : s.vm.findClass RX6 = some m.cls := hown
  refine lv_iload_n hx hb dX6_in_0 rfl (lv_at hl 0 rfl) ?_
  refine lv_iload_n hx hb dX6_in_1 rfl (lv_at hl 1 rfl) ?_
  refine r_lt hx hb 14 dX6_in_2 (by decide) ⟨by omega, by omega⟩ ⟨by omega, by omega⟩ (fun c_2 => ?_) (fun c_2 => ?_)
  ·
    refine r_const hx hb dX6_in_14 ?_
    exact hret [] () dX6_in_15 hP hD hS (by decide) rfl (by omega) (by omega)
  ·
    refine lv_iload_n hx hb dX6_in_5 rfl (lv_at hl 0 rfl) ?_
    refine lv_iload_n hx hb dX6_in_6 rfl (lv_at hl 2 rfl) ?_
    refine r_gt hx hb 14 dX6_in_7 (by decide) ⟨by omega, by omega⟩ ⟨by omega, by omega⟩ (fun c_7 => ?_) (fun c_7 => ?_)
    ·
      refine r_const hx hb dX6_in_14 ?_
      exact hret [] () dX6_in_15 hP hD hS (by decide) rfl (by omega) (by omega)
    ·
      refine r_const hx hb dX6_in_10 ?_
      refine lv_goto (tgt := 15) hx hb dX6_in_11 (by decide) ?_
      exact hret [] () dX6_in_15 hP hD hS (by decide) rfl (by omega) (by omega)
abbrev rm_X6_isPoint : Room := { frames := 1, cells := 0, slots := 0, locals := 22 }
set_option maxHeartbeats 4000000 in
set_option maxRecDepth 100000 in
theorem k_X6_isPoint (l : Launch) (D : va_G) (cy : Nat → ClassId) (z : Nat) (v : Int) (hv : inR v) : CtI l yX6_isPoint wsX6_isPoint rm_X6_isPoint D (tyL cy) [.int (iI v)] [] z (fun (r : Int) (u : Unit) => (r = 1 ∧ 0 ≤ v ∧ v ≤ 9) ∨ (r = 0 ∧ (v < 0 ∨ 9 < v))) (fun (u : Unit) => []) 0 0 := by
  refine ct_z (cc := cX6_isPoint) (maxL := 1) (by decide) rfl (Nat.le_of_ble_eq_true rfl) ?_
  intro p e s m args below meth c A Q H locs ls hx hb hml hown hin hts hK hN hP hD hS hA hl hret
  replace hl : lv_has ls 1 [(0, .int (iI v))] := hl
  replace hown : s.vm.findClass RX6 = some m.cls := hown
  refine lv_iload_n hx hb dX6_isPoint_0 rfl (lv_at hl 0 rfl) ?_
  refine r_const hx hb dX6_isPoint_1 ?_
  refine r_bip hx hb (9) dX6_isPoint_2 (by decide) ?_
  have M_4 := k_X6_in l D cy  H.size v 0 9 (hv) (⟨by omega, by omega⟩) (⟨by omega, by omega⟩)
  refine kS_i (wr := []) (As := [.int (iI v), .int (iI 0), .int (iI 9)]) (rest := []) ⟨hx, hb, hml, hown, hts⟩ M_4 (va_cwS 3 hts gX6_isPoint_X6_in rfl rfl rfl (by decide +kernel) ⟨Nat.le_of_ble_eq_true rfl, Nat.le_of_ble_eq_true rfl⟩) hN hK hP hD hS hA [] [] rfl rfl (by decide) (by decide) (by decide) rfl hl.1 rfl (Nat.le_of_ble_eq_true rfl) dX6_isPoint_4 ⟨Nat.le_of_ble_eq_true rfl, Nat.le_of_ble_eq_true rfl⟩ (fun r_4 u_4 H locs hw_4 hP hD hS => ?_)
  replace hP : va_P D vwCl [] H := hP
  replace hD : va_D A [] := hD
  exact hret [] () dX6_isPoint_7 hP hD hS (by decide) rfl (by omega) (by omega)
abbrev rm_X6_isRun : Room := { frames := 1, cells := 0, slots := 0, locals := 22 }
set_option maxHeartbeats 4000000 in
set_option maxRecDepth 100000 in
theorem k_X6_isRun (l : Launch) (D : va_G) (cy : Nat → ClassId) (z : Nat) (v : Int) (hv : inR v) : CtI l yX6_isRun wsX6_isRun rm_X6_isRun D (tyL cy) [.int (iI v)] [] z (fun (r : Int) (u : Unit) => (r = 1 ∧ 1 ≤ v ∧ v ≤ 3) ∨ (r = 0 ∧ (v < 1 ∨ 3 < v))) (fun (u : Unit) => []) 0 0 := by
  refine ct_z (cc := cX6_isRun) (maxL := 1) (by decide) rfl (Nat.le_of_ble_eq_true rfl) ?_
  intro p e s m args below meth c A Q H locs ls hx hb hml hown hin hts hK hN hP hD hS hA hl hret
  replace hl : lv_has ls 1 [(0, .int (iI v))] := hl
  replace hown : s.vm.findClass RX6 = some m.cls := hown
  refine lv_iload_n hx hb dX6_isRun_0 rfl (lv_at hl 0 rfl) ?_
  refine r_const hx hb dX6_isRun_1 ?_
  refine r_const hx hb dX6_isRun_2 ?_
  have M_3 := k_X6_in l D cy  H.size v 1 3 (hv) (⟨by omega, by omega⟩) (⟨by omega, by omega⟩)
  refine kS_i (wr := []) (As := [.int (iI v), .int (iI 1), .int (iI 3)]) (rest := []) ⟨hx, hb, hml, hown, hts⟩ M_3 (va_cwS 3 hts gX6_isRun_X6_in rfl rfl rfl (by decide +kernel) ⟨Nat.le_of_ble_eq_true rfl, Nat.le_of_ble_eq_true rfl⟩) hN hK hP hD hS hA [] [] rfl rfl (by decide) (by decide) (by decide) rfl hl.1 rfl (Nat.le_of_ble_eq_true rfl) dX6_isRun_3 ⟨Nat.le_of_ble_eq_true rfl, Nat.le_of_ble_eq_true rfl⟩ (fun r_3 u_3 H locs hw_3 hP hD hS => ?_)
  replace hP : va_P D vwCl [] H := hP
  replace hD : va_D A [] := hD
  exact hret [] () dX6_isRun_6 hP hD hS (by decide) rfl (by omega) (by omega)
abbrev rm_X6_isLetter : Room := { frames := 1, cells := 0, slots := 0, locals := 22 }
theorem fl_X6_isLetter_7 : Cond.fieldLink RX6 7 "WalkPassesModel" "state" "[I" ∈ wsX6_isLetter := by decide +kernel
theorem iw_X6_isLetter_6 : ∀ w ∈ u_ws RX6 TX6 16, w ∈ wsX6_isLetter := by decide +kernel
set_option maxHeartbeats 4000000 in
set_option maxRecDepth 100000 in
theorem k_X6_isLetter (l : Launch) (D : va_G) (cy : Nat → ClassId) (mo : Nat → Nat) (z : Nat) (rn sn co bp ag pn : Int) (lt mn : Int) (pt tk mr od pl rm cd : Int → Int) (v : Int) (hlt : 0 ≤ lt ∧ lt ≤ 24) (hv : inR v) : CtI l yX6_isLetter wsX6_isLetter rm_X6_isLetter D (tyL cy) [.ref (mo 0), .int (iI v)] [oM mo rn sn co bp ag pn, ai (cy 0) (mo 1) 98 (stF lt mn pt tk mr od rm cd)] z (fun (r : Int) (u : Unit) => (r = 1 ∧ 0 ≤ v ∧ v < lt) ∨ (r = 0 ∧ (v < 0 ∨ lt ≤ v))) (fun (u : Unit) => [oM mo rn sn co bp ag pn, ai (cy 0) (mo 1) 98 (stF lt mn pt tk mr od rm cd)]) 0 0 := by
  refine ct_z (cc := cX6_isLetter) (maxL := 2) (by decide) rfl (Nat.le_of_ble_eq_true rfl) ?_
  intro p e s m args below meth c A Q H locs ls hx hb hml hown hin hts hK hN hP hD hS hA hl hret
  replace hl : lv_has ls 2 [(0, .ref (mo 0)), (1, .int (iI v))] := hl
  replace hown : s.vm.findClass RX6 = some m.cls := hown
  refine lv_iload_n hx hb dX6_isLetter_0 rfl (lv_at hl 1 rfl) ?_
  refine r_const hx hb dX6_isLetter_1 ?_
  refine lv_aload_n hx hb dX6_isLetter_2 rfl (lv_at hl 0 rfl) ?_
  refine va_get (D := D) (C := RX6) (T := TX6) (N := 16) (ci := 6) (v := .ref (mo 1)) hx hb hts iw_X6_isLetter_6 hown hK hP 0 rfl rfl 0 (by decide) (hts _ fl_X6_isLetter_7) (fun _ h9 => h9) rfl dX6_isLetter_3 ?_
  refine r_bip hx hb (25) dX6_isLetter_6 (by decide) ?_
  refine r_ald hx hb hK hP 1 rfl rfl ⟨by omega, by omega, by omega⟩ dX6_isLetter_8 ?_
  refine r_top (lt) (stF_lt (by omega)) ?_
  refine r_const hx hb dX6_isLetter_9 ?_
  refine r_sub hx hb dX6_isLetter_10 ?_
  have M_11 := k_X6_in l D cy  H.size v 0 (lt - 1) (hv) (⟨by omega, by omega⟩) (⟨by omega, by omega⟩)
  refine kS_i (wr := [oM mo rn sn co bp ag pn, ai (cy 0) (mo 1) 98 (stF lt mn pt tk mr od rm cd)]) (As := [.int (iI v), .int (iI 0), .int (iI (lt - 1))]) (rest := []) ⟨hx, hb, hml, hown, hts⟩ M_11 (va_cwS 3 hts gX6_isLetter_X6_in rfl rfl rfl (by decide +kernel) ⟨Nat.le_of_ble_eq_true rfl, Nat.le_of_ble_eq_true rfl⟩) hN hK hP hD hS hA [] [0, 1] rfl rfl (by decide) (by decide) (by decide) rfl hl.1 rfl (Nat.le_of_ble_eq_true rfl) dX6_isLetter_11 ⟨Nat.le_of_ble_eq_true rfl, Nat.le_of_ble_eq_true rfl⟩ (fun r_11 u_11 H locs hw_11 hP hD hS => ?_)
  replace hP : va_P D vwCl [oM mo rn sn co bp ag pn, ai (cy 0) (mo 1) 98 (stF lt mn pt tk mr od rm cd)] H := hP
  replace hD : va_D A [oM mo rn sn co bp ag pn, ai (cy 0) (mo 1) 98 (stF lt mn pt tk mr od rm cd)] := hD
  exact hret [0, 1] () dX6_isLetter_14 hP hD hS (by decide) rfl (by omega) (by omega)
abbrev rm_X6_isStacker : Room := { frames := 1, cells := 0, slots := 0, locals := 22 }
theorem fl_X6_isStacker_7 : Cond.fieldLink RX6 7 "WalkPassesModel" "state" "[I" ∈ wsX6_isStacker := by decide +kernel
theorem iw_X6_isStacker_6 : ∀ w ∈ u_ws RX6 TX6 16, w ∈ wsX6_isStacker := by decide +kernel
set_option maxHeartbeats 4000000 in
set_option maxRecDepth 100000 in
theorem k_X6_isStacker (l : Launch) (D : va_G) (cy : Nat → ClassId) (mo : Nat → Nat) (z : Nat) (rn sn co bp ag pn : Int) (lt mn : Int) (pt tk mr od pl rm cd : Int → Int) (v : Int) (hmn : 2 ≤ mn ∧ mn ≤ 4) (hv : inR v) : CtI l yX6_isStacker wsX6_isStacker rm_X6_isStacker D (tyL cy) [.ref (mo 0), .int (iI v)] [oM mo rn sn co bp ag pn, ai (cy 0) (mo 1) 98 (stF lt mn pt tk mr od rm cd)] z (fun (r : Int) (u : Unit) => (r = 1 ∧ 0 ≤ v ∧ v < mn) ∨ (r = 0 ∧ (v < 0 ∨ mn ≤ v))) (fun (u : Unit) => [oM mo rn sn co bp ag pn, ai (cy 0) (mo 1) 98 (stF lt mn pt tk mr od rm cd)]) 0 0 := by
  refine ct_z (cc := cX6_isStacker) (maxL := 2) (by decide) rfl (Nat.le_of_ble_eq_true rfl) ?_
  intro p e s m args below meth c A Q H locs ls hx hb hml hown hin hts hK hN hP hD hS hA hl hret
  replace hl : lv_has ls 2 [(0, .ref (mo 0)), (1, .int (iI v))] := hl
  replace hown : s.vm.findClass RX6 = some m.cls := hown
  refine lv_iload_n hx hb dX6_isStacker_0 rfl (lv_at hl 1 rfl) ?_
  refine r_const hx hb dX6_isStacker_1 ?_
  refine lv_aload_n hx hb dX6_isStacker_2 rfl (lv_at hl 0 rfl) ?_
  refine va_get (D := D) (C := RX6) (T := TX6) (N := 16) (ci := 6) (v := .ref (mo 1)) hx hb hts iw_X6_isStacker_6 hown hK hP 0 rfl rfl 0 (by decide) (hts _ fl_X6_isStacker_7) (fun _ h9 => h9) rfl dX6_isStacker_3 ?_
  refine r_bip hx hb (24) dX6_isStacker_6 (by decide) ?_
  refine r_ald hx hb hK hP 1 rfl rfl ⟨by omega, by omega, by omega⟩ dX6_isStacker_8 ?_
  refine r_top (mn) (stF_mn (by omega)) ?_
  refine r_const hx hb dX6_isStacker_9 ?_
  refine r_sub hx hb dX6_isStacker_10 ?_
  have M_11 := k_X6_in l D cy  H.size v 0 (mn - 1) (hv) (⟨by omega, by omega⟩) (⟨by omega, by omega⟩)
  refine kS_i (wr := [oM mo rn sn co bp ag pn, ai (cy 0) (mo 1) 98 (stF lt mn pt tk mr od rm cd)]) (As := [.int (iI v), .int (iI 0), .int (iI (mn - 1))]) (rest := []) ⟨hx, hb, hml, hown, hts⟩ M_11 (va_cwS 3 hts gX6_isStacker_X6_in rfl rfl rfl (by decide +kernel) ⟨Nat.le_of_ble_eq_true rfl, Nat.le_of_ble_eq_true rfl⟩) hN hK hP hD hS hA [] [0, 1] rfl rfl (by decide) (by decide) (by decide) rfl hl.1 rfl (Nat.le_of_ble_eq_true rfl) dX6_isStacker_11 ⟨Nat.le_of_ble_eq_true rfl, Nat.le_of_ble_eq_true rfl⟩ (fun r_11 u_11 H locs hw_11 hP hD hS => ?_)
  replace hP : va_P D vwCl [oM mo rn sn co bp ag pn, ai (cy 0) (mo 1) 98 (stF lt mn pt tk mr od rm cd)] H := hP
  replace hD : va_D A [oM mo rn sn co bp ag pn, ai (cy 0) (mo 1) 98 (stF lt mn pt tk mr od rm cd)] := hD
  exact hret [0, 1] () dX6_isStacker_14 hP hD hS (by decide) rfl (by omega) (by omega)
abbrev rm_X6_letter : Room := { frames := 2, cells := 0, slots := 0, locals := 42 }
theorem fl_X6_letter_7 : Cond.fieldLink RX6 7 "WalkPassesModel" "state" "[I" ∈ wsX6_letter := by decide +kernel
theorem iw_X6_letter_6 : ∀ w ∈ u_ws RX6 TX6 16, w ∈ wsX6_letter := by decide +kernel
set_option maxHeartbeats 4000000 in
set_option maxRecDepth 100000 in
theorem k_X6_letter (l : Launch) (D : va_G) (cy : Nat → ClassId) (mo : Nat → Nat) (z : Nat) (rn sn co bp ag pn : Int) (lt mn : Int) (pt tk mr od pl rm cd : Int → Int) (q t : Int) (hI : DI lt mn pt tk mr od pl rm cd) (hq : inR q) (ht9 : inR t) : CtI l yX6_letter wsX6_letter rm_X6_letter D (tyL cy) [.ref (mo 0), .int (iI q), .int (iI t)] [oM mo rn sn co bp ag pn, ai (cy 0) (mo 1) 98 (stF lt mn pt tk mr od rm cd)] z (fun (r : Int) (u : Int × (Int → Int) × (Int → Int) × (Int → Int)) => r = fLetter lt q t ∧ ((((0 ≤ q ∧ q ≤ 9) ∧ (1 ≤ t ∧ t ≤ 9) ∧ lt < 24) ∧ u = (lt + 1, ud pt lt q, ud tk lt t, ud mr lt 0)) ∨ (¬ ((0 ≤ q ∧ q ≤ 9) ∧ (1 ≤ t ∧ t ≤ 9) ∧ lt < 24) ∧ u = (lt, pt, tk, mr)))) (fun (u : Int × (Int → Int) × (Int → Int) × (Int → Int)) => [oM mo rn sn co bp ag pn, ai (cy 0) (mo 1) 98 (stF u.1 mn u.2.1 u.2.2.1 u.2.2.2 od rm cd)]) 0 0 := by
  refine ct_i (cc := cX6_letter) (maxL := 4) (by decide) rfl (Nat.le_of_ble_eq_true rfl) ?_
  intro p e s m args below meth c A Q H locs ls hx hb hml hown hin hts hK hN hP hD hS hA hl hret
  replace hl : lv_has ls 4 [(0, .ref (mo 0)), (1, .int (iI q)), (2, .int (iI t))] := hl
  replace hown : s.vm.findClass RX6 = some m.cls := hown
  obtain ⟨⟨⟨hlt0, hlt1⟩, hmn0, hmn1⟩, ⟨hpt, htk, hmr⟩, ⟨hod, hpl, hpo, hop⟩, hrm, hcd⟩ := id hI
  refine lv_iload_n hx hb dX6_letter_0 rfl (lv_at hl 1 rfl) ?_
  have M_1 := k_X6_isPoint l D cy  H.size q (hq)
  refine kS_i (wr := [oM mo rn sn co bp ag pn, ai (cy 0) (mo 1) 98 (stF lt mn pt tk mr od rm cd)]) (As := [.int (iI q)]) (rest := []) ⟨hx, hb, hml, hown, hts⟩ M_1 (va_cwS 1 hts gX6_letter_X6_isPoint rfl rfl rfl (by decide +kernel) ⟨Nat.le_of_ble_eq_true rfl, Nat.le_of_ble_eq_true rfl⟩) hN hK hP hD hS hA [] [0, 1] rfl rfl (by decide) (by decide) (by decide) rfl hl.1 rfl (Nat.le_of_ble_eq_true rfl) dX6_letter_1 ⟨Nat.le_of_ble_eq_true rfl, Nat.le_of_ble_eq_true rfl⟩ (fun r_1 u_1 H locs hw_1 hP hD hS => ?_)
  replace hP : va_P D vwCl [oM mo rn sn co bp ag pn, ai (cy 0) (mo 1) 98 (stF lt mn pt tk mr od rm cd)] H := hP
  replace hD : va_D A [oM mo rn sn co bp ag pn, ai (cy 0) (mo 1) 98 (stF lt mn pt tk mr od rm cd)] := hD
  refine r_ne0 hx hb 9 dX6_letter_4 (by decide) ⟨by omega, by omega⟩ (fun c_4 => ?_) (fun c_4 => ?_)
  ·
    refine lv_iload_n hx hb dX6_letter_9 rfl (lv_at hl 2 rfl) ?_
    refine r_const hx hb dX6_letter_10 ?_
    refine r_bip hx hb (9) dX6_letter_11 (by decide) ?_
    have M_13 := k_X6_in l D cy  H.size t 1 9 (ht9) (⟨by omega, by omega⟩) (⟨by omega, by omega⟩)
    refine kS_i (wr := [oM mo rn sn co bp ag pn, ai (cy 0) (mo 1) 98 (stF lt mn pt tk mr od rm cd)]) (As := [.int (iI t), .int (iI 1), .int (iI 9)]) (rest := []) ⟨hx, hb, hml, hown, hts⟩ M_13 (va_cwS 3 hts gX6_letter_X6_in rfl rfl rfl (by decide +kernel) ⟨Nat.le_of_ble_eq_true rfl, Nat.le_of_ble_eq_true rfl⟩) hN hK hP hD hS hA [] [0, 1] rfl rfl (by decide) (by decide) (by decide) rfl hl.1 rfl (Nat.le_of_ble_eq_true rfl) dX6_letter_13 ⟨Nat.le_of_ble_eq_true rfl, Nat.le_of_ble_eq_true rfl⟩ (fun r_13 u_13 H locs hw_13 hP hD hS => ?_)
    replace hP : va_P D vwCl [oM mo rn sn co bp ag pn, ai (cy 0) (mo 1) 98 (stF lt mn pt tk mr od rm cd)] H := hP
    replace hD : va_D A [oM mo rn sn co bp ag pn, ai (cy 0) (mo 1) 98 (stF lt mn pt tk mr od rm cd)] := hD
    refine r_ne0 hx hb 22 dX6_letter_16 (by decide) ⟨by omega, by omega⟩ (fun c_16 => ?_) (fun c_16 => ?_)
    ·
      refine lv_aload_n hx hb dX6_letter_22 rfl (lv_at hl 0 rfl) ?_
      refine va_get (D := D) (C := RX6) (T := TX6) (N := 16) (ci := 6) (v := .ref (mo 1)) hx hb hts iw_X6_letter_6 hown hK hP 0 rfl rfl 0 (by decide) (hts _ fl_X6_letter_7) (fun _ h9 => h9) rfl dX6_letter_23 ?_
      refine r_bip hx hb (25) dX6_letter_26 (by decide) ?_
      refine r_ald hx hb hK hP 1 rfl rfl ⟨by omega, by omega, by omega⟩ dX6_letter_28 ?_
      refine r_top (lt) (stF_lt (by omega)) ?_
      refine lv_istore_n (lv' := [(3, .int (iI lt)), (0, .ref (mo 0)), (1, .int (iI q)), (2, .int (iI t))]) hx hb dX6_letter_29 rfl hl (by decide) rfl (fun ls hl => ?_)
      refine lv_iload_n hx hb dX6_letter_30 rfl (lv_at hl 0 rfl) ?_
      refine r_bip hx hb (24) dX6_letter_31 (by decide) ?_
      refine r_ne hx hb 39 dX6_letter_33 (by decide) ⟨by omega, by omega⟩ ⟨by omega, by omega⟩ (fun c_33 => ?_) (fun c_33 => ?_)
      ·
        refine lv_aload_n hx hb dX6_letter_39 rfl (lv_at hl 1 rfl) ?_
        refine va_get (D := D) (C := RX6) (T := TX6) (N := 16) (ci := 6) (v := .ref (mo 1)) hx hb hts iw_X6_letter_6 hown hK hP 0 rfl rfl 0 (by decide) (hts _ fl_X6_letter_7) (fun _ h9 => h9) rfl dX6_letter_40 ?_
        refine r_bip hx hb (26) dX6_letter_43 (by decide) ?_
        refine lv_iload_n hx hb dX6_letter_45 rfl (lv_at hl 0 rfl) ?_
        refine r_add hx hb dX6_letter_46 ?_
        refine lv_iload_n hx hb dX6_letter_47 rfl (lv_at hl 2 rfl) ?_
        refine r_ast hx hb hK hP hD hS 1 rfl rfl ⟨by omega, by omega, by omega⟩ dX6_letter_48 (fun H locs hP hD hS => ?_)
        rw [show ud (stF lt mn pt tk mr od rm cd) (26 + lt) q = stF lt mn (ud pt lt q) tk mr od rm cd from stU_pt (by omega) (by omega) (by omega)] at hP hD
        replace hP : va_P D vwCl [oM mo rn sn co bp ag pn, ai (cy 0) (mo 1) 98 (stF lt mn (ud pt lt q) tk mr od rm cd)] H := hP
        replace hD : va_D A [oM mo rn sn co bp ag pn, ai (cy 0) (mo 1) 98 (stF lt mn (ud pt lt q) tk mr od rm cd)] := hD
        refine lv_aload_n hx hb dX6_letter_49 rfl (lv_at hl 1 rfl) ?_
        refine va_get (D := D) (C := RX6) (T := TX6) (N := 16) (ci := 6) (v := .ref (mo 1)) hx hb hts iw_X6_letter_6 hown hK hP 0 rfl rfl 0 (by decide) (hts _ fl_X6_letter_7) (fun _ h9 => h9) rfl dX6_letter_50 ?_
        refine r_bip hx hb (50) dX6_letter_53 (by decide) ?_
        refine lv_iload_n hx hb dX6_letter_55 rfl (lv_at hl 0 rfl) ?_
        refine r_add hx hb dX6_letter_56 ?_
        refine lv_iload_n hx hb dX6_letter_57 rfl (lv_at hl 3 rfl) ?_
        refine r_ast hx hb hK hP hD hS 1 rfl rfl ⟨by omega, by omega, by omega⟩ dX6_letter_58 (fun H locs hP hD hS => ?_)
        rw [show ud (stF lt mn (ud pt lt q) tk mr od rm cd) (50 + lt) t = stF lt mn (ud pt lt q) (ud tk lt t) mr od rm cd from stU_tk (by omega) (by omega) (by omega)] at hP hD
        replace hP : va_P D vwCl [oM mo rn sn co bp ag pn, ai (cy 0) (mo 1) 98 (stF lt mn (ud pt lt q) (ud tk lt t) mr od rm cd)] H := hP
        replace hD : va_D A [oM mo rn sn co bp ag pn, ai (cy 0) (mo 1) 98 (stF lt mn (ud pt lt q) (ud tk lt t) mr od rm cd)] := hD
        refine lv_aload_n hx hb dX6_letter_59 rfl (lv_at hl 1 rfl) ?_
        refine va_get (D := D) (C := RX6) (T := TX6) (N := 16) (ci := 6) (v := .ref (mo 1)) hx hb hts iw_X6_letter_6 hown hK hP 0 rfl rfl 0 (by decide) (hts _ fl_X6_letter_7) (fun _ h9 => h9) rfl dX6_letter_60 ?_
        refine r_bip hx hb (74) dX6_letter_63 (by decide) ?_
        refine lv_iload_n hx hb dX6_letter_65 rfl (lv_at hl 0 rfl) ?_
        refine r_add hx hb dX6_letter_66 ?_
        refine r_const hx hb dX6_letter_67 ?_
        refine r_ast hx hb hK hP hD hS 1 rfl rfl ⟨by omega, by omega, by omega⟩ dX6_letter_68 (fun H locs hP hD hS => ?_)
        rw [show ud (stF lt mn (ud pt lt q) (ud tk lt t) mr od rm cd) (74 + lt) 0 = stF lt mn (ud pt lt q) (ud tk lt t) (ud mr lt 0) od rm cd from stU_mr (by omega) (by omega) (by omega)] at hP hD
        replace hP : va_P D vwCl [oM mo rn sn co bp ag pn, ai (cy 0) (mo 1) 98 (stF lt mn (ud pt lt q) (ud tk lt t) (ud mr lt 0) od rm cd)] H := hP
        replace hD : va_D A [oM mo rn sn co bp ag pn, ai (cy 0) (mo 1) 98 (stF lt mn (ud pt lt q) (ud tk lt t) (ud mr lt 0) od rm cd)] := hD
        refine lv_aload_n hx hb dX6_letter_69 rfl (lv_at hl 1 rfl) ?_
        refine va_get (D := D) (C := RX6) (T := TX6) (N := 16) (ci := 6) (v := .ref (mo 1)) hx hb hts iw_X6_letter_6 hown hK hP 0 rfl rfl 0 (by decide) (hts _ fl_X6_letter_7) (fun _ h9 => h9) rfl dX6_letter_70 ?_
        refine r_bip hx hb (25) dX6_letter_73 (by decide) ?_
        refine lv_dup2_11 hx hb dX6_letter_75 rfl rfl ?_
        refine r_ald hx hb hK hP 1 rfl rfl ⟨by omega, by omega, by omega⟩ dX6_letter_76 ?_
        refine r_top (lt) (stF_lt (by omega)) ?_
        refine r_const hx hb dX6_letter_77 ?_
        refine r_add hx hb dX6_letter_78 ?_
        refine r_ast hx hb hK hP hD hS 1 rfl rfl ⟨by omega, by omega, by omega⟩ dX6_letter_79 (fun H locs hP hD hS => ?_)
        rw [show ud (stF lt mn (ud pt lt q) (ud tk lt t) (ud mr lt 0) od rm cd) 25 (lt + 1) = stF (lt + 1) mn (ud pt lt q) (ud tk lt t) (ud mr lt 0) od rm cd from stU_lt (by omega)] at hP hD
        replace hP : va_P D vwCl [oM mo rn sn co bp ag pn, ai (cy 0) (mo 1) 98 (stF (lt + 1) mn (ud pt lt q) (ud tk lt t) (ud mr lt 0) od rm cd)] H := hP
        replace hD : va_D A [oM mo rn sn co bp ag pn, ai (cy 0) (mo 1) 98 (stF (lt + 1) mn (ud pt lt q) (ud tk lt t) (ud mr lt 0) od rm cd)] := hD
        refine lv_iload_n hx hb dX6_letter_80 rfl (lv_at hl 0 rfl) ?_
        exact hret [0, 1] (lt + 1, ud pt lt q, ud tk lt t, ud mr lt 0) dX6_letter_81 hP hD hS (by decide) rfl (⟨by unfold fLetter; (repeat' split) <;> omega, by first | exact Or.inl ⟨by omega, rfl⟩ | exact Or.inr ⟨by omega, rfl⟩⟩)
      ·
        refine r_bip hx hb (-4) dX6_letter_36 (by decide) ?_
        exact hret [0, 1] (lt, pt, tk, mr) dX6_letter_38 hP hD hS (by decide) rfl (⟨by unfold fLetter; (repeat' split) <;> omega, by first | exact Or.inl ⟨by omega, rfl⟩ | exact Or.inr ⟨by omega, rfl⟩⟩)
    ·
      refine r_bip hx hb (-2) dX6_letter_19 (by decide) ?_
      exact hret [0, 1] (lt, pt, tk, mr) dX6_letter_21 hP hD hS (by decide) rfl (⟨by unfold fLetter; (repeat' split) <;> omega, by first | exact Or.inl ⟨by omega, rfl⟩ | exact Or.inr ⟨by omega, rfl⟩⟩)
  ·
    refine r_const hx hb dX6_letter_7 ?_
    exact hret [0, 1] (lt, pt, tk, mr) dX6_letter_8 hP hD hS (by decide) rfl (⟨by unfold fLetter; (repeat' split) <;> omega, by first | exact Or.inl ⟨by omega, rfl⟩ | exact Or.inr ⟨by omega, rfl⟩⟩)
abbrev rm_X6_misreads : Room := { frames := 0, cells := 0, slots := 0, locals := 0 }
theorem fl_X6_misreads_7 : Cond.fieldLink RX6 7 "WalkPassesModel" "state" "[I" ∈ wsX6_misreads := by decide +kernel
theorem iw_X6_misreads_6 : ∀ w ∈ u_ws RX6 TX6 16, w ∈ wsX6_misreads := by decide +kernel
set_option maxHeartbeats 4000000 in
set_option maxRecDepth 100000 in
theorem k_X6_misreads (l : Launch) (D : va_G) (cy : Nat → ClassId) (mo : Nat → Nat) (z : Nat) (rn sn co bp ag pn : Int) (lt mn : Int) (pt tk mr od pl rm cd : Int → Int) (hlt : 0 ≤ lt ∧ lt ≤ 24) : CtI l yX6_misreads wsX6_misreads rm_X6_misreads D (tyL cy) [.ref (mo 0)] [oM mo rn sn co bp ag pn, ai (cy 0) (mo 1) 98 (stF lt mn pt tk mr od rm cd)] z (fun (r : Int) (u : Unit) => r = sumTo mr lt.toNat) (fun (u : Unit) => [oM mo rn sn co bp ag pn, ai (cy 0) (mo 1) 98 (stF lt mn pt tk mr od rm cd)]) 0 0 := by
  refine ct_i (cc := cX6_misreads) (maxL := 3) (by decide) rfl (Nat.le_of_ble_eq_true rfl) ?_
  intro p e s m args below meth c A Q H locs ls hx hb hml hown hin hts hK hN hP hD hS hA hl hret
  replace hl : lv_has ls 3 [(0, .ref (mo 0))] := hl
  replace hown : s.vm.findClass RX6 = some m.cls := hown
  refine r_const hx hb dX6_misreads_0 ?_
  refine lv_istore_n (lv' := [(1, .int (iI 0)), (0, .ref (mo 0))]) hx hb dX6_misreads_1 rfl hl (by decide) rfl (fun ls hl => ?_)
  refine r_const hx hb dX6_misreads_2 ?_
  refine lv_istore_n (lv' := [(2, .int (iI 0)), (1, .int (iI 0)), (0, .ref (mo 0))]) hx hb dX6_misreads_3 rfl hl (by decide) rfl (fun ls hl => ?_)
  have lp_4 : ∀ (fu : Nat) (g : Int) (i : Int), (0 ≤ i ∧ i ≤ lt) → (g = sumTo mr i.toNat) → (lt - i).toNat < fu → ∀ (H : Heap) (locs : List Loc), va_P D vwCl [oM mo rn sn co bp ag pn, ai (cy 0) (mo 1) 98 (stF lt mn pt tk mr od rm cd)] H → va_D A [oM mo rn sn co bp ag pn, ai (cy 0) (mo 1) 98 (stF lt mn pt tk mr od rm cd)] → va_S A s.heap H locs → ∀ (ls : Array Slot), lv_has ls 3 [(0, .ref (mo 0)), (1, .int (iI g)), (2, .int (iI i))] → W p l e rm_X6_misreads s m args below meth c H locs 0 0 Q (F0 m 4 ls []) := by
    intro fu
    induction fu with
    | zero =>
      intro g i h1 h2 hm
      exact absurd hm (Nat.not_lt_zero _)
    | succ fu ih_4 =>
      intro g i h1 h2 hm H locs hP hD hS ls hl
      refine lv_iload_n hx hb dX6_misreads_4 rfl (lv_at hl 2 rfl) ?_
      refine lv_aload_n hx hb dX6_misreads_5 rfl (lv_at hl 0 rfl) ?_
      refine va_get (D := D) (C := RX6) (T := TX6) (N := 16) (ci := 6) (v := .ref (mo 1)) hx hb hts iw_X6_misreads_6 hown hK hP 0 rfl rfl 0 (by decide) (hts _ fl_X6_misreads_7) (fun _ h9 => h9) rfl dX6_misreads_6 ?_
      refine r_bip hx hb (25) dX6_misreads_9 (by decide) ?_
      refine r_ald hx hb hK hP 1 rfl rfl ⟨by omega, by omega, by omega⟩ dX6_misreads_11 ?_
      refine r_top (lt) (stF_lt (by omega)) ?_
      refine r_ge hx hb 33 dX6_misreads_12 (by decide) ⟨by omega, by omega⟩ ⟨by omega, by omega⟩ (fun c_12 => ?_) (fun c_12 => ?_)
      ·
        refine lv_iload_n hx hb dX6_misreads_33 rfl (lv_at hl 1 rfl) ?_
        exact hret [0, 1] () dX6_misreads_34 hP hD hS (by decide) rfl (by rw [h2, show i = lt by omega])
      ·
        refine lv_iload_n hx hb dX6_misreads_15 rfl (lv_at hl 1 rfl) ?_
        refine lv_aload_n hx hb dX6_misreads_16 rfl (lv_at hl 0 rfl) ?_
        refine va_get (D := D) (C := RX6) (T := TX6) (N := 16) (ci := 6) (v := .ref (mo 1)) hx hb hts iw_X6_misreads_6 hown hK hP 0 rfl rfl 0 (by decide) (hts _ fl_X6_misreads_7) (fun _ h9 => h9) rfl dX6_misreads_17 ?_
        refine r_bip hx hb (74) dX6_misreads_20 (by decide) ?_
        refine lv_iload_n hx hb dX6_misreads_22 rfl (lv_at hl 2 rfl) ?_
        refine r_add hx hb dX6_misreads_23 ?_
        refine r_ald hx hb hK hP 1 rfl rfl ⟨by omega, by omega, by omega⟩ dX6_misreads_24 ?_
        refine r_top (mr i) (stF_mr (by omega) (by omega) (by omega)) ?_
        refine r_add hx hb dX6_misreads_25 ?_
        refine lv_istore_n (lv' := [(1, .int (iI (g + (mr i)))), (0, .ref (mo 0)), (2, .int (iI i))]) hx hb dX6_misreads_26 rfl hl (by decide) rfl (fun ls hl => ?_)
        refine r_inc (k := 2) (lv' := [(2, .int (iI (i + 1))), (1, .int (iI (g + (mr i)))), (0, .ref (mo 0))]) hx hb dX6_misreads_27 hl rfl (by decide) rfl (fun ls hl => ?_)
        refine lv_goto (tgt := 4) hx hb dX6_misreads_30 (by decide) ?_
        exact ih_4 (g + (mr i)) (i + 1) (by omega) (by rw [sumTo_s h1.1, h2]) (by omega) H locs (pick_P hP (is := [0, 1]) rfl) (hD.sub [0, 1] (by decide) rfl) hS ls (lv_sub hl [2, 1, 0] rfl)
  exact lp_4 _ 0 0 (by omega) (rfl) (Nat.lt_succ_self _) H locs (pick_P hP (is := [0, 1]) rfl) (hD.sub [0, 1] (by decide) rfl) hS ls (lv_sub hl [2, 1, 0] rfl)
abbrev rm_X6_misread : Room := { frames := 2, cells := 0, slots := 0, locals := 43 }
theorem fl_X6_misread_7 : Cond.fieldLink RX6 7 "WalkPassesModel" "state" "[I" ∈ wsX6_misread := by decide +kernel
theorem iw_X6_misread_6 : ∀ w ∈ u_ws RX6 TX6 16, w ∈ wsX6_misread := by decide +kernel
set_option maxHeartbeats 4000000 in
set_option maxRecDepth 100000 in
theorem k_X6_misread (l : Launch) (D : va_G) (cy : Nat → ClassId) (mo : Nat → Nat) (z : Nat) (rn sn co bp ag pn : Int) (lt mn : Int) (pt tk mr od pl rm cd : Int → Int) (i v : Int) (hI : DI lt mn pt tk mr od pl rm cd) (hi : inR i) (hv : inR v) : CtI l yX6_misread wsX6_misread rm_X6_misread D (tyL cy) [.ref (mo 0), .int (iI i), .int (iI v)] [oM mo rn sn co bp ag pn, ai (cy 0) (mo 1) 98 (stF lt mn pt tk mr od rm cd)] z (fun (r : Int) (u : Int → Int) => r = fMisread lt mr i v ∧ ((((0 ≤ i ∧ i < lt) ∧ (0 ≤ v ∧ v ≤ 1)) ∧ u = (ud mr i v)) ∨ (¬ ((0 ≤ i ∧ i < lt) ∧ (0 ≤ v ∧ v ≤ 1)) ∧ u = (mr)))) (fun (u : Int → Int) => [oM mo rn sn co bp ag pn, ai (cy 0) (mo 1) 98 (stF lt mn pt tk u od rm cd)]) 0 0 := by
  refine ct_i (cc := cX6_misread) (maxL := 3) (by decide) rfl (Nat.le_of_ble_eq_true rfl) ?_
  intro p e s m args below meth c A Q H locs ls hx hb hml hown hin hts hK hN hP hD hS hA hl hret
  replace hl : lv_has ls 3 [(0, .ref (mo 0)), (1, .int (iI i)), (2, .int (iI v))] := hl
  replace hown : s.vm.findClass RX6 = some m.cls := hown
  obtain ⟨⟨⟨hlt0, hlt1⟩, hmn0, hmn1⟩, ⟨hpt, htk, hmr⟩, ⟨hod, hpl, hpo, hop⟩, hrm, hcd⟩ := id hI
  refine lv_aload_n hx hb dX6_misread_0 rfl (lv_at hl 0 rfl) ?_
  refine lv_iload_n hx hb dX6_misread_1 rfl (lv_at hl 1 rfl) ?_
  have M_2 := k_X6_isLetter l D cy mo H.size rn sn co bp ag pn lt mn pt tk mr od pl rm cd i (by omega) (hi)
  refine kV_i (wr := []) (As := [.int (iI i)]) (rest := []) (q := (RX6, TX6, 16)) (ci := 6) ⟨hx, hb, hml, hown, hts⟩ M_2 0 rfl rfl (cwV 1 hts gX6_misread_X6_isLetter rfl rfl rfl (by decide +kernel) ⟨Nat.le_of_ble_eq_true rfl, Nat.le_of_ble_eq_true rfl⟩) hN hK hP hD hS hA [0, 1] [] rfl rfl (by decide) (by decide) (by decide) rfl hl.1 rfl (Nat.le_of_ble_eq_true rfl) dX6_misread_2 ⟨Nat.le_of_ble_eq_true rfl, Nat.le_of_ble_eq_true rfl⟩ (fun r_2 u_2 H locs hw_2 hP hD hS => ?_)
  replace hP : va_P D vwCl [oM mo rn sn co bp ag pn, ai (cy 0) (mo 1) 98 (stF lt mn pt tk mr od rm cd)] H := hP
  replace hD : va_D A [oM mo rn sn co bp ag pn, ai (cy 0) (mo 1) 98 (stF lt mn pt tk mr od rm cd)] := hD
  refine r_ne0 hx hb 10 dX6_misread_5 (by decide) ⟨by omega, by omega⟩ (fun c_5 => ?_) (fun c_5 => ?_)
  ·
    refine lv_iload_n hx hb dX6_misread_10 rfl (lv_at hl 2 rfl) ?_
    refine r_const hx hb dX6_misread_11 ?_
    refine r_const hx hb dX6_misread_12 ?_
    have M_13 := k_X6_in l D cy  H.size v 0 1 (hv) (⟨by omega, by omega⟩) (⟨by omega, by omega⟩)
    refine kS_i (wr := [oM mo rn sn co bp ag pn, ai (cy 0) (mo 1) 98 (stF lt mn pt tk mr od rm cd)]) (As := [.int (iI v), .int (iI 0), .int (iI 1)]) (rest := []) ⟨hx, hb, hml, hown, hts⟩ M_13 (va_cwS 3 hts gX6_misread_X6_in rfl rfl rfl (by decide +kernel) ⟨Nat.le_of_ble_eq_true rfl, Nat.le_of_ble_eq_true rfl⟩) hN hK hP hD hS hA [] [0, 1] rfl rfl (by decide) (by decide) (by decide) rfl hl.1 rfl (Nat.le_of_ble_eq_true rfl) dX6_misread_13 ⟨Nat.le_of_ble_eq_true rfl, Nat.le_of_ble_eq_true rfl⟩ (fun r_13 u_13 H locs hw_13 hP hD hS => ?_)
    replace hP : va_P D vwCl [oM mo rn sn co bp ag pn, ai (cy 0) (mo 1) 98 (stF lt mn pt tk mr od rm cd)] H := hP
    replace hD : va_D A [oM mo rn sn co bp ag pn, ai (cy 0) (mo 1) 98 (stF lt mn pt tk mr od rm cd)] := hD
    refine r_ne0 hx hb 22 dX6_misread_16 (by decide) ⟨by omega, by omega⟩ (fun c_16 => ?_) (fun c_16 => ?_)
    ·
      refine lv_aload_n hx hb dX6_misread_22 rfl (lv_at hl 0 rfl) ?_
      refine va_get (D := D) (C := RX6) (T := TX6) (N := 16) (ci := 6) (v := .ref (mo 1)) hx hb hts iw_X6_misread_6 hown hK hP 0 rfl rfl 0 (by decide) (hts _ fl_X6_misread_7) (fun _ h9 => h9) rfl dX6_misread_23 ?_
      refine r_bip hx hb (74) dX6_misread_26 (by decide) ?_
      refine lv_iload_n hx hb dX6_misread_28 rfl (lv_at hl 1 rfl) ?_
      refine r_add hx hb dX6_misread_29 ?_
      refine lv_iload_n hx hb dX6_misread_30 rfl (lv_at hl 2 rfl) ?_
      refine r_ast hx hb hK hP hD hS 1 rfl rfl ⟨by omega, by omega, by omega⟩ dX6_misread_31 (fun H locs hP hD hS => ?_)
      rw [show ud (stF lt mn pt tk mr od rm cd) (74 + i) v = stF lt mn pt tk (ud mr i v) od rm cd from stU_mr (by omega) (by omega) (by omega)] at hP hD
      replace hP : va_P D vwCl [oM mo rn sn co bp ag pn, ai (cy 0) (mo 1) 98 (stF lt mn pt tk (ud mr i v) od rm cd)] H := hP
      replace hD : va_D A [oM mo rn sn co bp ag pn, ai (cy 0) (mo 1) 98 (stF lt mn pt tk (ud mr i v) od rm cd)] := hD
      refine lv_aload_n hx hb dX6_misread_32 rfl (lv_at hl 0 rfl) ?_
      have M_33 := k_X6_misreads l D cy mo H.size rn sn co bp ag pn lt mn pt tk (ud mr i v) od pl rm cd (by omega)
      refine kV_i (wr := []) (As := []) (rest := []) (q := (RX6, TX6, 16)) (ci := 6) ⟨hx, hb, hml, hown, hts⟩ M_33 0 rfl rfl (cwV 0 hts gX6_misread_X6_misreads rfl rfl rfl (by decide +kernel) ⟨Nat.le_of_ble_eq_true rfl, Nat.le_of_ble_eq_true rfl⟩) hN hK hP hD hS hA [0, 1] [] rfl rfl (by decide) (by decide) (by decide) rfl hl.1 rfl (Nat.le_of_ble_eq_true rfl) dX6_misread_33 ⟨Nat.le_of_ble_eq_true rfl, Nat.le_of_ble_eq_true rfl⟩ (fun r_33 u_33 H locs hw_33 hP hD hS => ?_)
      replace hP : va_P D vwCl [oM mo rn sn co bp ag pn, ai (cy 0) (mo 1) 98 (stF lt mn pt tk (ud mr i v) od rm cd)] H := hP
      replace hD : va_D A [oM mo rn sn co bp ag pn, ai (cy 0) (mo 1) 98 (stF lt mn pt tk (ud mr i v) od rm cd)] := hD
      exact hret [0, 1] (ud mr i v) dX6_misread_36 hP hD hS (by decide) rfl (⟨by unfold fMisread; (repeat' split) <;> omega, by first | exact Or.inl ⟨by omega, rfl⟩ | exact Or.inr ⟨by omega, rfl⟩⟩)
    ·
      refine r_bip hx hb (-2) dX6_misread_19 (by decide) ?_
      exact hret [0, 1] mr dX6_misread_21 hP hD hS (by decide) rfl (⟨by unfold fMisread; (repeat' split) <;> omega, by first | exact Or.inl ⟨by omega, rfl⟩ | exact Or.inr ⟨by omega, rfl⟩⟩)
  ·
    refine r_const hx hb dX6_misread_8 ?_
    exact hret [0, 1] mr dX6_misread_9 hP hD hS (by decide) rfl (⟨by unfold fMisread; (repeat' split) <;> omega, by first | exact Or.inl ⟨by omega, rfl⟩ | exact Or.inr ⟨by omega, rfl⟩⟩)
abbrev rm_X6_drop : Room := { frames := 2, cells := 0, slots := 0, locals := 43 }
theorem fl_X6_drop_7 : Cond.fieldLink RX6 7 "WalkPassesModel" "state" "[I" ∈ wsX6_drop := by decide +kernel
theorem iw_X6_drop_6 : ∀ w ∈ u_ws RX6 TX6 16, w ∈ wsX6_drop := by decide +kernel
set_option maxHeartbeats 4000000 in
set_option maxRecDepth 100000 in
theorem k_X6_drop (l : Launch) (D : va_G) (cy : Nat → ClassId) (mo : Nat → Nat) (z : Nat) (rn sn co bp ag pn : Int) (lt mn : Int) (pt tk mr od pl rm cd : Int → Int) (i : Int) (hI : DI lt mn pt tk mr od pl rm cd) (hi : inR i) : CtI l yX6_drop wsX6_drop rm_X6_drop D (tyL cy) [.ref (mo 0), .int (iI i)] [oM mo rn sn co bp ag pn, ai (cy 0) (mo 1) 98 (stF lt mn pt tk mr od rm cd)] z (fun (r : Int) (u : Int × (Int → Int) × (Int → Int) × (Int → Int)) => r = fDrop lt i ∧ (((0 ≤ i ∧ i < lt) ∧ u = (lt - 1, shf pt i (lt - 1), shf tk i (lt - 1), shf mr i (lt - 1))) ∨ (¬ (0 ≤ i ∧ i < lt) ∧ u = (lt, pt, tk, mr)))) (fun (u : Int × (Int → Int) × (Int → Int) × (Int → Int)) => [oM mo rn sn co bp ag pn, ai (cy 0) (mo 1) 98 (stF u.1 mn u.2.1 u.2.2.1 u.2.2.2 od rm cd)]) 0 0 := by
  refine ct_i (cc := cX6_drop) (maxL := 3) (by decide) rfl (Nat.le_of_ble_eq_true rfl) ?_
  intro p e s m args below meth c A Q H locs ls hx hb hml hown hin hts hK hN hP hD hS hA hl hret
  replace hl : lv_has ls 3 [(0, .ref (mo 0)), (1, .int (iI i))] := hl
  replace hown : s.vm.findClass RX6 = some m.cls := hown
  obtain ⟨⟨⟨hlt0, hlt1⟩, hmn0, hmn1⟩, ⟨hpt, htk, hmr⟩, ⟨hod, hpl, hpo, hop⟩, hrm, hcd⟩ := id hI
  refine lv_aload_n hx hb dX6_drop_0 rfl (lv_at hl 0 rfl) ?_
  refine lv_iload_n hx hb dX6_drop_1 rfl (lv_at hl 1 rfl) ?_
  have M_2 := k_X6_isLetter l D cy mo H.size rn sn co bp ag pn lt mn pt tk mr od pl rm cd i (by omega) (hi)
  refine kV_i (wr := []) (As := [.int (iI i)]) (rest := []) (q := (RX6, TX6, 16)) (ci := 6) ⟨hx, hb, hml, hown, hts⟩ M_2 0 rfl rfl (cwV 1 hts gX6_drop_X6_isLetter rfl rfl rfl (by decide +kernel) ⟨Nat.le_of_ble_eq_true rfl, Nat.le_of_ble_eq_true rfl⟩) hN hK hP hD hS hA [0, 1] [] rfl rfl (by decide) (by decide) (by decide) rfl hl.1 rfl (Nat.le_of_ble_eq_true rfl) dX6_drop_2 ⟨Nat.le_of_ble_eq_true rfl, Nat.le_of_ble_eq_true rfl⟩ (fun r_2 u_2 H locs hw_2 hP hD hS => ?_)
  replace hP : va_P D vwCl [oM mo rn sn co bp ag pn, ai (cy 0) (mo 1) 98 (stF lt mn pt tk mr od rm cd)] H := hP
  replace hD : va_D A [oM mo rn sn co bp ag pn, ai (cy 0) (mo 1) 98 (stF lt mn pt tk mr od rm cd)] := hD
  refine r_ne0 hx hb 10 dX6_drop_5 (by decide) ⟨by omega, by omega⟩ (fun c_5 => ?_) (fun c_5 => ?_)
  ·
    refine lv_iload_n hx hb dX6_drop_10 rfl (lv_at hl 1 rfl) ?_
    refine lv_istore_n (lv' := [(2, .int (iI i)), (0, .ref (mo 0)), (1, .int (iI i))]) hx hb dX6_drop_11 rfl hl (by decide) rfl (fun ls hl => ?_)
    have lp_12 : ∀ (fu : Nat) (j : Int) (B1 : Int → Int) (B2 : Int → Int) (B3 : Int → Int), (i ≤ j ∧ j ≤ lt - 1) → (B1 = shf pt i j) → (B2 = shf tk i j) → (B3 = shf mr i j) → (lt - 1 - j).toNat < fu → ∀ (H : Heap) (locs : List Loc), va_P D vwCl [oM mo rn sn co bp ag pn, ai (cy 0) (mo 1) 98 (stF lt mn B1 B2 B3 od rm cd)] H → va_D A [oM mo rn sn co bp ag pn, ai (cy 0) (mo 1) 98 (stF lt mn B1 B2 B3 od rm cd)] → va_S A s.heap H locs → ∀ (ls : Array Slot), lv_has ls 3 [(0, .ref (mo 0)), (1, .int (iI i)), (2, .int (iI j))] → W p l e rm_X6_drop s m args below meth c H locs 0 0 Q (F0 m 12 ls []) := by
      intro fu
      induction fu with
      | zero =>
        intro j B1 B2 B3 h1 e1 e2 e3 hm
        exact absurd hm (Nat.not_lt_zero _)
      | succ fu ih_12 =>
        intro j B1 B2 B3 h1 e1 e2 e3 hm H locs hP hD hS ls hl
        refine lv_iload_n hx hb dX6_drop_12 rfl (lv_at hl 2 rfl) ?_
        refine r_const hx hb dX6_drop_13 ?_
        refine r_add hx hb dX6_drop_14 ?_
        refine lv_aload_n hx hb dX6_drop_15 rfl (lv_at hl 0 rfl) ?_
        refine va_get (D := D) (C := RX6) (T := TX6) (N := 16) (ci := 6) (v := .ref (mo 1)) hx hb hts iw_X6_drop_6 hown hK hP 0 rfl rfl 0 (by decide) (hts _ fl_X6_drop_7) (fun _ h9 => h9) rfl dX6_drop_16 ?_
        refine r_bip hx hb (25) dX6_drop_19 (by decide) ?_
        refine r_ald hx hb hK hP 1 rfl rfl ⟨by omega, by omega, by omega⟩ dX6_drop_21 ?_
        refine r_top (lt) (stF_lt (by omega)) ?_
        refine r_ge hx hb 91 dX6_drop_22 (by decide) ⟨by omega, by omega⟩ ⟨by omega, by omega⟩ (fun c_22 => ?_) (fun c_22 => ?_)
        ·
          refine lv_aload_n hx hb dX6_drop_91 rfl (lv_at hl 0 rfl) ?_
          refine va_get (D := D) (C := RX6) (T := TX6) (N := 16) (ci := 6) (v := .ref (mo 1)) hx hb hts iw_X6_drop_6 hown hK hP 0 rfl rfl 0 (by decide) (hts _ fl_X6_drop_7) (fun _ h9 => h9) rfl dX6_drop_92 ?_
          refine r_bip hx hb (25) dX6_drop_95 (by decide) ?_
          refine lv_dup2_11 hx hb dX6_drop_97 rfl rfl ?_
          refine r_ald hx hb hK hP 1 rfl rfl ⟨by omega, by omega, by omega⟩ dX6_drop_98 ?_
          refine r_top (lt) (stF_lt (by omega)) ?_
          refine r_const hx hb dX6_drop_99 ?_
          refine r_sub hx hb dX6_drop_100 ?_
          refine r_ast hx hb hK hP hD hS 1 rfl rfl ⟨by omega, by omega, by omega⟩ dX6_drop_101 (fun H locs hP hD hS => ?_)
          rw [show ud (stF lt mn B1 B2 B3 od rm cd) 25 (lt - 1) = stF (lt - 1) mn B1 B2 B3 od rm cd from stU_lt (by omega)] at hP hD
          replace hP : va_P D vwCl [oM mo rn sn co bp ag pn, ai (cy 0) (mo 1) 98 (stF (lt - 1) mn B1 B2 B3 od rm cd)] H := hP
          replace hD : va_D A [oM mo rn sn co bp ag pn, ai (cy 0) (mo 1) 98 (stF (lt - 1) mn B1 B2 B3 od rm cd)] := hD
          refine lv_aload_n hx hb dX6_drop_102 rfl (lv_at hl 0 rfl) ?_
          refine va_get (D := D) (C := RX6) (T := TX6) (N := 16) (ci := 6) (v := .ref (mo 1)) hx hb hts iw_X6_drop_6 hown hK hP 0 rfl rfl 0 (by decide) (hts _ fl_X6_drop_7) (fun _ h9 => h9) rfl dX6_drop_103 ?_
          refine r_bip hx hb (25) dX6_drop_106 (by decide) ?_
          refine r_ald hx hb hK hP 1 rfl rfl ⟨by omega, by omega, by omega⟩ dX6_drop_108 ?_
          refine r_top (lt - 1) (stF_lt (by omega)) ?_
          obtain rfl : j = lt - 1 := by omega
          subst e1 e2 e3
          exact hret [0, 1] (lt - 1, shf pt i (lt - 1), shf tk i (lt - 1), shf mr i (lt - 1)) dX6_drop_109 hP hD hS (by decide) rfl (⟨by unfold fDrop; (repeat' split) <;> omega, by first | exact Or.inl ⟨by omega, rfl⟩ | exact Or.inr ⟨by omega, rfl⟩⟩)
        ·
          refine lv_aload_n hx hb dX6_drop_25 rfl (lv_at hl 0 rfl) ?_
          refine va_get (D := D) (C := RX6) (T := TX6) (N := 16) (ci := 6) (v := .ref (mo 1)) hx hb hts iw_X6_drop_6 hown hK hP 0 rfl rfl 0 (by decide) (hts _ fl_X6_drop_7) (fun _ h9 => h9) rfl dX6_drop_26 ?_
          refine r_bip hx hb (26) dX6_drop_29 (by decide) ?_
          refine lv_iload_n hx hb dX6_drop_31 rfl (lv_at hl 2 rfl) ?_
          refine r_add hx hb dX6_drop_32 ?_
          refine lv_aload_n hx hb dX6_drop_33 rfl (lv_at hl 0 rfl) ?_
          refine va_get (D := D) (C := RX6) (T := TX6) (N := 16) (ci := 6) (v := .ref (mo 1)) hx hb hts iw_X6_drop_6 hown hK hP 0 rfl rfl 0 (by decide) (hts _ fl_X6_drop_7) (fun _ h9 => h9) rfl dX6_drop_34 ?_
          refine r_bip hx hb (26) dX6_drop_37 (by decide) ?_
          refine lv_iload_n hx hb dX6_drop_39 rfl (lv_at hl 2 rfl) ?_
          refine r_add hx hb dX6_drop_40 ?_
          refine r_const hx hb dX6_drop_41 ?_
          refine r_add hx hb dX6_drop_42 ?_
          refine r_ald hx hb hK hP 1 rfl rfl ⟨by omega, by omega, by omega⟩ dX6_drop_43 ?_
          refine r_top (B1 (j + 1)) (stF_pt (by omega) (by omega) (by omega)) ?_
          refine r_ast hx hb hK hP hD hS 1 rfl rfl ⟨by omega, by omega, by omega⟩ dX6_drop_44 (fun H locs hP hD hS => ?_)
          rw [show ud (stF lt mn B1 B2 B3 od rm cd) (26 + j) (B1 (j + 1)) = stF lt mn (ud B1 j (B1 (j + 1))) B2 B3 od rm cd from stU_pt (by omega) (by omega) (by omega)] at hP hD
          replace hP : va_P D vwCl [oM mo rn sn co bp ag pn, ai (cy 0) (mo 1) 98 (stF lt mn (ud B1 j (B1 (j + 1))) B2 B3 od rm cd)] H := hP
          replace hD : va_D A [oM mo rn sn co bp ag pn, ai (cy 0) (mo 1) 98 (stF lt mn (ud B1 j (B1 (j + 1))) B2 B3 od rm cd)] := hD
          refine lv_aload_n hx hb dX6_drop_45 rfl (lv_at hl 0 rfl) ?_
          refine va_get (D := D) (C := RX6) (T := TX6) (N := 16) (ci := 6) (v := .ref (mo 1)) hx hb hts iw_X6_drop_6 hown hK hP 0 rfl rfl 0 (by decide) (hts _ fl_X6_drop_7) (fun _ h9 => h9) rfl dX6_drop_46 ?_
          refine r_bip hx hb (50) dX6_drop_49 (by decide) ?_
          refine lv_iload_n hx hb dX6_drop_51 rfl (lv_at hl 2 rfl) ?_
          refine r_add hx hb dX6_drop_52 ?_
          refine lv_aload_n hx hb dX6_drop_53 rfl (lv_at hl 0 rfl) ?_
          refine va_get (D := D) (C := RX6) (T := TX6) (N := 16) (ci := 6) (v := .ref (mo 1)) hx hb hts iw_X6_drop_6 hown hK hP 0 rfl rfl 0 (by decide) (hts _ fl_X6_drop_7) (fun _ h9 => h9) rfl dX6_drop_54 ?_
          refine r_bip hx hb (50) dX6_drop_57 (by decide) ?_
          refine lv_iload_n hx hb dX6_drop_59 rfl (lv_at hl 2 rfl) ?_
          refine r_add hx hb dX6_drop_60 ?_
          refine r_const hx hb dX6_drop_61 ?_
          refine r_add hx hb dX6_drop_62 ?_
          refine r_ald hx hb hK hP 1 rfl rfl ⟨by omega, by omega, by omega⟩ dX6_drop_63 ?_
          refine r_top (B2 (j + 1)) (stF_tk (by omega) (by omega) (by omega)) ?_
          refine r_ast hx hb hK hP hD hS 1 rfl rfl ⟨by omega, by omega, by omega⟩ dX6_drop_64 (fun H locs hP hD hS => ?_)
          rw [show ud (stF lt mn (ud B1 j (B1 (j + 1))) B2 B3 od rm cd) (50 + j) (B2 (j + 1)) = stF lt mn (ud B1 j (B1 (j + 1))) (ud B2 j (B2 (j + 1))) B3 od rm cd from stU_tk (by omega) (by omega) (by omega)] at hP hD
          replace hP : va_P D vwCl [oM mo rn sn co bp ag pn, ai (cy 0) (mo 1) 98 (stF lt mn (ud B1 j (B1 (j + 1))) (ud B2 j (B2 (j + 1))) B3 od rm cd)] H := hP
          replace hD : va_D A [oM mo rn sn co bp ag pn, ai (cy 0) (mo 1) 98 (stF lt mn (ud B1 j (B1 (j + 1))) (ud B2 j (B2 (j + 1))) B3 od rm cd)] := hD
          refine lv_aload_n hx hb dX6_drop_65 rfl (lv_at hl 0 rfl) ?_
          refine va_get (D := D) (C := RX6) (T := TX6) (N := 16) (ci := 6) (v := .ref (mo 1)) hx hb hts iw_X6_drop_6 hown hK hP 0 rfl rfl 0 (by decide) (hts _ fl_X6_drop_7) (fun _ h9 => h9) rfl dX6_drop_66 ?_
          refine r_bip hx hb (74) dX6_drop_69 (by decide) ?_
          refine lv_iload_n hx hb dX6_drop_71 rfl (lv_at hl 2 rfl) ?_
          refine r_add hx hb dX6_drop_72 ?_
          refine lv_aload_n hx hb dX6_drop_73 rfl (lv_at hl 0 rfl) ?_
          refine va_get (D := D) (C := RX6) (T := TX6) (N := 16) (ci := 6) (v := .ref (mo 1)) hx hb hts iw_X6_drop_6 hown hK hP 0 rfl rfl 0 (by decide) (hts _ fl_X6_drop_7) (fun _ h9 => h9) rfl dX6_drop_74 ?_
          refine r_bip hx hb (74) dX6_drop_77 (by decide) ?_
          refine lv_iload_n hx hb dX6_drop_79 rfl (lv_at hl 2 rfl) ?_
          refine r_add hx hb dX6_drop_80 ?_
          refine r_const hx hb dX6_drop_81 ?_
          refine r_add hx hb dX6_drop_82 ?_
          refine r_ald hx hb hK hP 1 rfl rfl ⟨by omega, by omega, by omega⟩ dX6_drop_83 ?_
          refine r_top (B3 (j + 1)) (stF_mr (by omega) (by omega) (by omega)) ?_
          refine r_ast hx hb hK hP hD hS 1 rfl rfl ⟨by omega, by omega, by omega⟩ dX6_drop_84 (fun H locs hP hD hS => ?_)
          rw [show ud (stF lt mn (ud B1 j (B1 (j + 1))) (ud B2 j (B2 (j + 1))) B3 od rm cd) (74 + j) (B3 (j + 1)) = stF lt mn (ud B1 j (B1 (j + 1))) (ud B2 j (B2 (j + 1))) (ud B3 j (B3 (j + 1))) od rm cd from stU_mr (by omega) (by omega) (by omega)] at hP hD
          replace hP : va_P D vwCl [oM mo rn sn co bp ag pn, ai (cy 0) (mo 1) 98 (stF lt mn (ud B1 j (B1 (j + 1))) (ud B2 j (B2 (j + 1))) (ud B3 j (B3 (j + 1))) od rm cd)] H := hP
          replace hD : va_D A [oM mo rn sn co bp ag pn, ai (cy 0) (mo 1) 98 (stF lt mn (ud B1 j (B1 (j + 1))) (ud B2 j (B2 (j + 1))) (ud B3 j (B3 (j + 1))) od rm cd)] := hD
          refine r_inc (k := 2) (lv' := [(2, .int (iI (j + 1))), (0, .ref (mo 0)), (1, .int (iI i))]) hx hb dX6_drop_85 hl rfl (by decide) rfl (fun ls hl => ?_)
          refine lv_goto (tgt := 12) hx hb dX6_drop_88 (by decide) ?_
          exact ih_12 (j + 1) (ud B1 j (B1 (j + 1))) (ud B2 j (B2 (j + 1))) (ud B3 j (B3 (j + 1))) (by omega) (by rw [e1, shf_at (F := pt) (a := i) (n := j) (j := j + 1) (by omega), shf_s h1.1]) (by rw [e2, shf_at (F := tk) (a := i) (n := j) (j := j + 1) (by omega), shf_s h1.1]) (by rw [e3, shf_at (F := mr) (a := i) (n := j) (j := j + 1) (by omega), shf_s h1.1]) (by omega) H locs (pick_P hP (is := [0, 1]) rfl) (hD.sub [0, 1] (by decide) rfl) hS ls (lv_sub hl [1, 2, 0] rfl)
    exact lp_12 _ i pt tk mr (by omega) ((shf_0 _ _).symm) ((shf_0 _ _).symm) ((shf_0 _ _).symm) (Nat.lt_succ_self _) H locs (pick_P hP (is := [0, 1]) rfl) (hD.sub [0, 1] (by decide) rfl) hS ls (lv_sub hl [1, 2, 0] rfl)
  ·
    refine r_const hx hb dX6_drop_8 ?_
    exact hret [0, 1] (lt, pt, tk, mr) dX6_drop_9 hP hD hS (by decide) rfl (⟨by unfold fDrop; (repeat' split) <;> omega, by first | exact Or.inl ⟨by omega, rfl⟩ | exact Or.inr ⟨by omega, rfl⟩⟩)
abbrev rm_X6_placeOf : Room := { frames := 0, cells := 0, slots := 0, locals := 0 }
theorem fl_X6_placeOf_7 : Cond.fieldLink RX6 7 "WalkPassesModel" "state" "[I" ∈ wsX6_placeOf := by decide +kernel
theorem iw_X6_placeOf_6 : ∀ w ∈ u_ws RX6 TX6 16, w ∈ wsX6_placeOf := by decide +kernel
set_option maxHeartbeats 4000000 in
set_option maxRecDepth 100000 in
theorem k_X6_placeOf (l : Launch) (D : va_G) (cy : Nat → ClassId) (mo : Nat → Nat) (z : Nat) (rn sn co bp ag pn : Int) (lt mn : Int) (pt tk mr od pl rm cd : Int → Int) (q : Int) (hI : DI lt mn pt tk mr od pl rm cd) (hq : 0 ≤ q ∧ q ≤ 9) : CtI l yX6_placeOf wsX6_placeOf rm_X6_placeOf D (tyL cy) [.ref (mo 0), .int (iI q)] [oM mo rn sn co bp ag pn, ai (cy 0) (mo 1) 98 (stF lt mn pt tk mr od rm cd)] z (fun (r : Int) (u : Unit) => r = pl q) (fun (u : Unit) => [oM mo rn sn co bp ag pn, ai (cy 0) (mo 1) 98 (stF lt mn pt tk mr od rm cd)]) 0 0 := by
  refine ct_i (cc := cX6_placeOf) (maxL := 4) (by decide) rfl (Nat.le_of_ble_eq_true rfl) ?_
  intro p e s m args below meth c A Q H locs ls hx hb hml hown hin hts hK hN hP hD hS hA hl hret
  replace hl : lv_has ls 4 [(0, .ref (mo 0)), (1, .int (iI q))] := hl
  replace hown : s.vm.findClass RX6 = some m.cls := hown
  obtain ⟨⟨⟨hlt0, hlt1⟩, hmn0, hmn1⟩, ⟨hpt, htk, hmr⟩, ⟨hod, hpl, hpo, hop⟩, hrm, hcd⟩ := id hI
  have hpq := hpl q
  refine r_bip hx hb (-6) dX6_placeOf_0 (by decide) ?_
  refine lv_istore_n (lv' := [(2, .int (iI (-6))), (0, .ref (mo 0)), (1, .int (iI q))]) hx hb dX6_placeOf_2 rfl hl (by decide) rfl (fun ls hl => ?_)
  refine r_const hx hb dX6_placeOf_3 ?_
  refine lv_istore_n (lv' := [(3, .int (iI 0)), (2, .int (iI (-6))), (0, .ref (mo 0)), (1, .int (iI q))]) hx hb dX6_placeOf_4 rfl hl (by decide) rfl (fun ls hl => ?_)
  have lp_5 : ∀ (fu : Nat) (x : Int) (i : Int), (0 ≤ i ∧ i ≤ 10) → (x = if pl q < i then pl q else -6) → (10 - i).toNat < fu → ∀ (H : Heap) (locs : List Loc), va_P D vwCl [oM mo rn sn co bp ag pn, ai (cy 0) (mo 1) 98 (stF lt mn pt tk mr od rm cd)] H → va_D A [oM mo rn sn co bp ag pn, ai (cy 0) (mo 1) 98 (stF lt mn pt tk mr od rm cd)] → va_S A s.heap H locs → ∀ (ls : Array Slot), lv_has ls 4 [(0, .ref (mo 0)), (1, .int (iI q)), (2, .int (iI x)), (3, .int (iI i))] → W p l e rm_X6_placeOf s m args below meth c H locs 0 0 Q (F0 m 5 ls []) := by
    intro fu
    induction fu with
    | zero =>
      intro x i h1 h2 hm
      exact absurd hm (Nat.not_lt_zero _)
    | succ fu ih_5 =>
      intro x i h1 h2 hm H locs hP hD hS ls hl
      refine lv_iload_n hx hb dX6_placeOf_5 rfl (lv_at hl 3 rfl) ?_
      refine r_bip hx hb (10) dX6_placeOf_6 (by decide) ?_
      refine r_ge hx hb 35 dX6_placeOf_8 (by decide) ⟨by omega, by omega⟩ ⟨by omega, by omega⟩ (fun c_8 => ?_) (fun c_8 => ?_)
      ·
        refine lv_iload_n hx hb dX6_placeOf_35 rfl (lv_at hl 2 rfl) ?_
        exact hret [0, 1] () dX6_placeOf_36 hP hD hS (by decide) rfl (by rw [h2, if_pos (by omega)])
      ·
        refine lv_aload_n hx hb dX6_placeOf_11 rfl (lv_at hl 0 rfl) ?_
        refine va_get (D := D) (C := RX6) (T := TX6) (N := 16) (ci := 6) (v := .ref (mo 1)) hx hb hts iw_X6_placeOf_6 hown hK hP 0 rfl rfl 0 (by decide) (hts _ fl_X6_placeOf_7) (fun _ h9 => h9) rfl dX6_placeOf_12 ?_
        refine r_const hx hb dX6_placeOf_15 ?_
        refine lv_iload_n hx hb dX6_placeOf_16 rfl (lv_at hl 3 rfl) ?_
        refine r_add hx hb dX6_placeOf_17 ?_
        refine r_ald hx hb hK hP 1 rfl rfl ⟨by omega, by omega, by omega⟩ dX6_placeOf_18 ?_
        refine r_top (od i) (stF_od (by omega) (by omega) (by omega)) ?_
        have b_18 := hod i
        refine lv_iload_n hx hb dX6_placeOf_19 rfl (lv_at hl 1 rfl) ?_
        refine r_ne hx hb 27 dX6_placeOf_20 (by decide) ⟨by omega, by omega⟩ ⟨by omega, by omega⟩ (fun c_20 => ?_) (fun c_20 => ?_)
        ·
          refine lv_iload_n hx hb dX6_placeOf_27 rfl (lv_at hl 2 rfl) ?_
          refine lv_istore_n (lv' := [(2, .int (iI x)), (0, .ref (mo 0)), (1, .int (iI q)), (3, .int (iI i))]) hx hb dX6_placeOf_28 rfl hl (by decide) rfl (fun ls hl => ?_)
          refine r_inc (k := 3) (lv' := [(3, .int (iI (i + 1))), (2, .int (iI x)), (0, .ref (mo 0)), (1, .int (iI q))]) hx hb dX6_placeOf_29 hl rfl (by decide) rfl (fun ls hl => ?_)
          refine lv_goto (tgt := 5) hx hb dX6_placeOf_32 (by decide) ?_
          have hpe := place_ne (i := i) (q := q) hpo hop (by omega) (by omega) hq.1 hq.2
          exact ih_5 x (i + 1) (by omega) (by first | (have hz := hpe.mp c_20; rw [if_pos (by omega)]; omega) | (have hz : ¬ pl q = i := fun z => c_20 (hpe.mpr z); rw [h2]; (repeat' split) <;> omega)) (by omega) H locs (pick_P hP (is := [0, 1]) rfl) (hD.sub [0, 1] (by decide) rfl) hS ls (lv_sub hl [2, 3, 1, 0] rfl)
        ·
          refine lv_iload_n hx hb dX6_placeOf_23 rfl (lv_at hl 3 rfl) ?_
          refine lv_goto (tgt := 28) hx hb dX6_placeOf_24 (by decide) ?_
          refine lv_istore_n (lv' := [(2, .int (iI i)), (0, .ref (mo 0)), (1, .int (iI q)), (3, .int (iI i))]) hx hb dX6_placeOf_28 rfl hl (by decide) rfl (fun ls hl => ?_)
          refine r_inc (k := 3) (lv' := [(3, .int (iI (i + 1))), (2, .int (iI i)), (0, .ref (mo 0)), (1, .int (iI q))]) hx hb dX6_placeOf_29 hl rfl (by decide) rfl (fun ls hl => ?_)
          refine lv_goto (tgt := 5) hx hb dX6_placeOf_32 (by decide) ?_
          have hpe := place_ne (i := i) (q := q) hpo hop (by omega) (by omega) hq.1 hq.2
          exact ih_5 i (i + 1) (by omega) (by first | (have hz := hpe.mp c_20; rw [if_pos (by omega)]; omega) | (have hz : ¬ pl q = i := fun z => c_20 (hpe.mpr z); rw [h2]; (repeat' split) <;> omega)) (by omega) H locs (pick_P hP (is := [0, 1]) rfl) (hD.sub [0, 1] (by decide) rfl) hS ls (lv_sub hl [2, 3, 1, 0] rfl)
  exact lp_5 _ (-6) 0 (by omega) (by rw [if_neg (by omega)]) (Nat.lt_succ_self _) H locs (pick_P hP (is := [0, 1]) rfl) (hD.sub [0, 1] (by decide) rfl) hS ls (lv_sub hl [2, 3, 1, 0] rfl)
abbrev rm_X6_change : Room := { frames := 2, cells := 0, slots := 0, locals := 42 }
theorem fl_X6_change_7 : Cond.fieldLink RX6 7 "WalkPassesModel" "state" "[I" ∈ wsX6_change := by decide +kernel
theorem iw_X6_change_6 : ∀ w ∈ u_ws RX6 TX6 16, w ∈ wsX6_change := by decide +kernel
set_option maxHeartbeats 4000000 in
set_option maxRecDepth 100000 in
theorem k_X6_change (l : Launch) (D : va_G) (cy : Nat → ClassId) (mo : Nat → Nat) (z : Nat) (rn sn co bp ag pn : Int) (lt mn : Int) (pt tk mr od pl rm cd : Int → Int) (qa qb : Int) (hI : DI lt mn pt tk mr od pl rm cd) (hqa : inR qa) (hqb : inR qb) : CtI l yX6_change wsX6_change rm_X6_change D (tyL cy) [.ref (mo 0), .int (iI qa), .int (iI qb)] [oM mo rn sn co bp ag pn, ai (cy 0) (mo 1) 98 (stF lt mn pt tk mr od rm cd)] z (fun (r : Int) (u : Int → Int) => r = fChange pl qa qb ∧ ((((0 ≤ qa ∧ qa ≤ 9) ∧ (0 ≤ qb ∧ qb ≤ 9)) ∧ u = (ud (ud od (pl qb) qa) (pl qa) qb)) ∨ (¬ ((0 ≤ qa ∧ qa ≤ 9) ∧ (0 ≤ qb ∧ qb ≤ 9)) ∧ u = (od)))) (fun (u : Int → Int) => [oM mo rn sn co bp ag pn, ai (cy 0) (mo 1) 98 (stF lt mn pt tk mr u rm cd)]) 0 0 := by
  refine ct_i (cc := cX6_change) (maxL := 5) (by decide) rfl (Nat.le_of_ble_eq_true rfl) ?_
  intro p e s m args below meth c A Q H locs ls hx hb hml hown hin hts hK hN hP hD hS hA hl hret
  replace hl : lv_has ls 5 [(0, .ref (mo 0)), (1, .int (iI qa)), (2, .int (iI qb))] := hl
  replace hown : s.vm.findClass RX6 = some m.cls := hown
  obtain ⟨⟨⟨hlt0, hlt1⟩, hmn0, hmn1⟩, ⟨hpt, htk, hmr⟩, ⟨hod, hpl, hpo, hop⟩, hrm, hcd⟩ := id hI
  have hpa := hpl qa
  have hpb := hpl qb
  refine lv_iload_n hx hb dX6_change_0 rfl (lv_at hl 1 rfl) ?_
  have M_1 := k_X6_isPoint l D cy  H.size qa (hqa)
  refine kS_i (wr := [oM mo rn sn co bp ag pn, ai (cy 0) (mo 1) 98 (stF lt mn pt tk mr od rm cd)]) (As := [.int (iI qa)]) (rest := []) ⟨hx, hb, hml, hown, hts⟩ M_1 (va_cwS 1 hts gX6_change_X6_isPoint rfl rfl rfl (by decide +kernel) ⟨Nat.le_of_ble_eq_true rfl, Nat.le_of_ble_eq_true rfl⟩) hN hK hP hD hS hA [] [0, 1] rfl rfl (by decide) (by decide) (by decide) rfl hl.1 rfl (Nat.le_of_ble_eq_true rfl) dX6_change_1 ⟨Nat.le_of_ble_eq_true rfl, Nat.le_of_ble_eq_true rfl⟩ (fun r_1 u_1 H locs hw_1 hP hD hS => ?_)
  replace hP : va_P D vwCl [oM mo rn sn co bp ag pn, ai (cy 0) (mo 1) 98 (stF lt mn pt tk mr od rm cd)] H := hP
  replace hD : va_D A [oM mo rn sn co bp ag pn, ai (cy 0) (mo 1) 98 (stF lt mn pt tk mr od rm cd)] := hD
  refine r_eq0 hx hb 14 dX6_change_4 (by decide) ⟨by omega, by omega⟩ (fun c_4 => ?_) (fun c_4 => ?_)
  ·
    refine r_const hx hb dX6_change_14 ?_
    exact hret [0, 1] od dX6_change_15 hP hD hS (by decide) rfl (⟨by unfold fChange; (repeat' split) <;> omega, by first | exact Or.inl ⟨by omega, rfl⟩ | exact Or.inr ⟨by omega, rfl⟩⟩)
  ·
    refine lv_iload_n hx hb dX6_change_7 rfl (lv_at hl 2 rfl) ?_
    have M_8 := k_X6_isPoint l D cy  H.size qb (hqb)
    refine kS_i (wr := [oM mo rn sn co bp ag pn, ai (cy 0) (mo 1) 98 (stF lt mn pt tk mr od rm cd)]) (As := [.int (iI qb)]) (rest := []) ⟨hx, hb, hml, hown, hts⟩ M_8 (va_cwS 1 hts gX6_change_X6_isPoint rfl rfl rfl (by decide +kernel) ⟨Nat.le_of_ble_eq_true rfl, Nat.le_of_ble_eq_true rfl⟩) hN hK hP hD hS hA [] [0, 1] rfl rfl (by decide) (by decide) (by decide) rfl hl.1 rfl (Nat.le_of_ble_eq_true rfl) dX6_change_8 ⟨Nat.le_of_ble_eq_true rfl, Nat.le_of_ble_eq_true rfl⟩ (fun r_8 u_8 H locs hw_8 hP hD hS => ?_)
    replace hP : va_P D vwCl [oM mo rn sn co bp ag pn, ai (cy 0) (mo 1) 98 (stF lt mn pt tk mr od rm cd)] H := hP
    replace hD : va_D A [oM mo rn sn co bp ag pn, ai (cy 0) (mo 1) 98 (stF lt mn pt tk mr od rm cd)] := hD
    refine r_ne0 hx hb 16 dX6_change_11 (by decide) ⟨by omega, by omega⟩ (fun c_11 => ?_) (fun c_11 => ?_)
    ·
      refine lv_aload_n hx hb dX6_change_16 rfl (lv_at hl 0 rfl) ?_
      refine lv_iload_n hx hb dX6_change_17 rfl (lv_at hl 1 rfl) ?_
      have M_18 := k_X6_placeOf l D cy mo H.size rn sn co bp ag pn lt mn pt tk mr od pl rm cd qa (hI) (by omega)
      refine kV_i (wr := []) (As := [.int (iI qa)]) (rest := []) (q := (RX6, TX6, 16)) (ci := 6) ⟨hx, hb, hml, hown, hts⟩ M_18 0 rfl rfl (cwV 1 hts gX6_change_X6_placeOf rfl rfl rfl (by decide +kernel) ⟨Nat.le_of_ble_eq_true rfl, Nat.le_of_ble_eq_true rfl⟩) hN hK hP hD hS hA [0, 1] [] rfl rfl (by decide) (by decide) (by decide) rfl hl.1 rfl (Nat.le_of_ble_eq_true rfl) dX6_change_18 ⟨Nat.le_of_ble_eq_true rfl, Nat.le_of_ble_eq_true rfl⟩ (fun r_18 u_18 H locs hw_18 hP hD hS => ?_)
      replace hP : va_P D vwCl [oM mo rn sn co bp ag pn, ai (cy 0) (mo 1) 98 (stF lt mn pt tk mr od rm cd)] H := hP
      replace hD : va_D A [oM mo rn sn co bp ag pn, ai (cy 0) (mo 1) 98 (stF lt mn pt tk mr od rm cd)] := hD
      subst hw_18
      refine lv_istore_n (lv' := [(3, .int (iI (pl qa))), (0, .ref (mo 0)), (1, .int (iI qa)), (2, .int (iI qb))]) hx hb dX6_change_21 rfl hl (by decide) rfl (fun ls hl => ?_)
      refine lv_aload_n hx hb dX6_change_22 rfl (lv_at hl 1 rfl) ?_
      refine lv_iload_n hx hb dX6_change_23 rfl (lv_at hl 3 rfl) ?_
      have M_24 := k_X6_placeOf l D cy mo H.size rn sn co bp ag pn lt mn pt tk mr od pl rm cd qb (hI) (by omega)
      refine kV_i (wr := []) (As := [.int (iI qb)]) (rest := []) (q := (RX6, TX6, 16)) (ci := 6) ⟨hx, hb, hml, hown, hts⟩ M_24 0 rfl rfl (cwV 1 hts gX6_change_X6_placeOf rfl rfl rfl (by decide +kernel) ⟨Nat.le_of_ble_eq_true rfl, Nat.le_of_ble_eq_true rfl⟩) hN hK hP hD hS hA [0, 1] [] rfl rfl (by decide) (by decide) (by decide) rfl hl.1 rfl (Nat.le_of_ble_eq_true rfl) dX6_change_24 ⟨Nat.le_of_ble_eq_true rfl, Nat.le_of_ble_eq_true rfl⟩ (fun r_24 u_24 H locs hw_24 hP hD hS => ?_)
      replace hP : va_P D vwCl [oM mo rn sn co bp ag pn, ai (cy 0) (mo 1) 98 (stF lt mn pt tk mr od rm cd)] H := hP
      replace hD : va_D A [oM mo rn sn co bp ag pn, ai (cy 0) (mo 1) 98 (stF lt mn pt tk mr od rm cd)] := hD
      subst hw_24
      refine lv_istore (lv' := [(4, .int (iI (pl qb))), (3, .int (iI (pl qa))), (0, .ref (mo 0)), (1, .int (iI qa)), (2, .int (iI qb))]) hx hb dX6_change_27 hl (by decide) rfl (fun ls hl => ?_)
      refine lv_aload_n hx hb dX6_change_29 rfl (lv_at hl 2 rfl) ?_
      refine va_get (D := D) (C := RX6) (T := TX6) (N := 16) (ci := 6) (v := .ref (mo 1)) hx hb hts iw_X6_change_6 hown hK hP 0 rfl rfl 0 (by decide) (hts _ fl_X6_change_7) (fun _ h9 => h9) rfl dX6_change_30 ?_
      refine r_const hx hb dX6_change_33 ?_
      refine lv_iload_n hx hb dX6_change_34 rfl (lv_at hl 1 rfl) ?_
      refine r_add hx hb dX6_change_35 ?_
      refine lv_iload_n hx hb dX6_change_36 rfl (lv_at hl 4 rfl) ?_
      refine r_ast hx hb hK hP hD hS 1 rfl rfl ⟨by omega, by omega, by omega⟩ dX6_change_37 (fun H locs hP hD hS => ?_)
      rw [show ud (stF lt mn pt tk mr od rm cd) (0 + (pl qa)) qb = stF lt mn pt tk mr (ud od (pl qa) qb) rm cd from stU_od (by omega) (by omega) (by omega)] at hP hD
      replace hP : va_P D vwCl [oM mo rn sn co bp ag pn, ai (cy 0) (mo 1) 98 (stF lt mn pt tk mr (ud od (pl qa) qb) rm cd)] H := hP
      replace hD : va_D A [oM mo rn sn co bp ag pn, ai (cy 0) (mo 1) 98 (stF lt mn pt tk mr (ud od (pl qa) qb) rm cd)] := hD
      refine lv_aload_n hx hb dX6_change_38 rfl (lv_at hl 2 rfl) ?_
      refine va_get (D := D) (C := RX6) (T := TX6) (N := 16) (ci := 6) (v := .ref (mo 1)) hx hb hts iw_X6_change_6 hown hK hP 0 rfl rfl 0 (by decide) (hts _ fl_X6_change_7) (fun _ h9 => h9) rfl dX6_change_39 ?_
      refine r_const hx hb dX6_change_42 ?_
      refine lv_iload hx hb dX6_change_43 (lv_at hl 0 rfl) ?_
      refine r_add hx hb dX6_change_45 ?_
      refine lv_iload_n hx hb dX6_change_46 rfl (lv_at hl 3 rfl) ?_
      refine r_ast hx hb hK hP hD hS 1 rfl rfl ⟨by omega, by omega, by omega⟩ dX6_change_47 (fun H locs hP hD hS => ?_)
      rw [show ud (stF lt mn pt tk mr (ud od (pl qa) qb) rm cd) (0 + (pl qb)) qa = stF lt mn pt tk mr (ud (ud od (pl qa) qb) (pl qb) qa) rm cd from stU_od (by omega) (by omega) (by omega)] at hP hD
      replace hP : va_P D vwCl [oM mo rn sn co bp ag pn, ai (cy 0) (mo 1) 98 (stF lt mn pt tk mr (ud (ud od (pl qa) qb) (pl qb) qa) rm cd)] H := hP
      replace hD : va_D A [oM mo rn sn co bp ag pn, ai (cy 0) (mo 1) 98 (stF lt mn pt tk mr (ud (ud od (pl qa) qb) (pl qb) qa) rm cd)] := hD
      refine lv_iload hx hb dX6_change_48 (lv_at hl 0 rfl) ?_
      have hso := swap_od (od := od) (pa := pl qa) (pb := pl qb) (a := qa) (b := qb) (fun z => by rw [← hop qa (by omega) (by omega), ← hop qb (by omega) (by omega), z])
      rw [hso] at hP hD
      exact hret [0, 1] (ud (ud od (pl qb) qa) (pl qa) qb) dX6_change_50 hP hD hS (by decide) rfl (⟨by unfold fChange; (repeat' split) <;> omega, by first | exact Or.inl ⟨by omega, rfl⟩ | exact Or.inr ⟨by omega, rfl⟩⟩)
    ·
      refine r_const hx hb dX6_change_14 ?_
      exact hret [0, 1] od dX6_change_15 hP hD hS (by decide) rfl (⟨by unfold fChange; (repeat' split) <;> omega, by first | exact Or.inl ⟨by omega, rfl⟩ | exact Or.inr ⟨by omega, rfl⟩⟩)
abbrev rm_X6_walk : Room := { frames := 1, cells := 0, slots := 0, locals := 22 }
theorem fl_X6_walk_7 : Cond.fieldLink RX6 7 "WalkPassesModel" "state" "[I" ∈ wsX6_walk := by decide +kernel
theorem iw_X6_walk_6 : ∀ w ∈ u_ws RX6 TX6 16, w ∈ wsX6_walk := by decide +kernel
set_option maxHeartbeats 4000000 in
set_option maxRecDepth 100000 in
theorem k_X6_walk (l : Launch) (D : va_G) (cy : Nat → ClassId) (mo : Nat → Nat) (z : Nat) (rn sn co bp ag pn : Int) (lt mn : Int) (pt tk mr od pl rm cd : Int → Int) (i : Int) (hi : inR i) : CtI l yX6_walk wsX6_walk rm_X6_walk D (tyL cy) [.ref (mo 0), .int (iI i)] [oM mo rn sn co bp ag pn, ai (cy 0) (mo 1) 98 (stF lt mn pt tk mr od rm cd)] z (fun (r : Int) (u : Unit) => r = fWalk od i) (fun (u : Unit) => [oM mo rn sn co bp ag pn, ai (cy 0) (mo 1) 98 (stF lt mn pt tk mr od rm cd)]) 0 0 := by
  refine ct_i (cc := cX6_walk) (maxL := 2) (by decide) rfl (Nat.le_of_ble_eq_true rfl) ?_
  intro p e s m args below meth c A Q H locs ls hx hb hml hown hin hts hK hN hP hD hS hA hl hret
  replace hl : lv_has ls 2 [(0, .ref (mo 0)), (1, .int (iI i))] := hl
  replace hown : s.vm.findClass RX6 = some m.cls := hown
  refine lv_iload_n hx hb dX6_walk_0 rfl (lv_at hl 1 rfl) ?_
  refine r_const hx hb dX6_walk_1 ?_
  refine r_bip hx hb (9) dX6_walk_2 (by decide) ?_
  have M_4 := k_X6_in l D cy  H.size i 0 9 (hi) (⟨by omega, by omega⟩) (⟨by omega, by omega⟩)
  refine kS_i (wr := [oM mo rn sn co bp ag pn, ai (cy 0) (mo 1) 98 (stF lt mn pt tk mr od rm cd)]) (As := [.int (iI i), .int (iI 0), .int (iI 9)]) (rest := []) ⟨hx, hb, hml, hown, hts⟩ M_4 (va_cwS 3 hts gX6_walk_X6_in rfl rfl rfl (by decide +kernel) ⟨Nat.le_of_ble_eq_true rfl, Nat.le_of_ble_eq_true rfl⟩) hN hK hP hD hS hA [] [0, 1] rfl rfl (by decide) (by decide) (by decide) rfl hl.1 rfl (Nat.le_of_ble_eq_true rfl) dX6_walk_4 ⟨Nat.le_of_ble_eq_true rfl, Nat.le_of_ble_eq_true rfl⟩ (fun r_4 u_4 H locs hw_4 hP hD hS => ?_)
  replace hP : va_P D vwCl [oM mo rn sn co bp ag pn, ai (cy 0) (mo 1) 98 (stF lt mn pt tk mr od rm cd)] H := hP
  replace hD : va_D A [oM mo rn sn co bp ag pn, ai (cy 0) (mo 1) 98 (stF lt mn pt tk mr od rm cd)] := hD
  refine r_eq0 hx hb 21 dX6_walk_7 (by decide) ⟨by omega, by omega⟩ (fun c_7 => ?_) (fun c_7 => ?_)
  ·
    refine r_bip hx hb (-2) dX6_walk_21 (by decide) ?_
    exact hret [0, 1] () dX6_walk_23 hP hD hS (by decide) rfl (by unfold fWalk; (repeat' split) <;> omega)
  ·
    refine lv_aload_n hx hb dX6_walk_10 rfl (lv_at hl 0 rfl) ?_
    refine va_get (D := D) (C := RX6) (T := TX6) (N := 16) (ci := 6) (v := .ref (mo 1)) hx hb hts iw_X6_walk_6 hown hK hP 0 rfl rfl 0 (by decide) (hts _ fl_X6_walk_7) (fun _ h9 => h9) rfl dX6_walk_11 ?_
    refine r_const hx hb dX6_walk_14 ?_
    refine lv_iload_n hx hb dX6_walk_15 rfl (lv_at hl 1 rfl) ?_
    refine r_add hx hb dX6_walk_16 ?_
    refine r_ald hx hb hK hP 1 rfl rfl ⟨by omega, by omega, by omega⟩ dX6_walk_17 ?_
    refine r_top (od i) (stF_od (by omega) (by omega) (by omega)) ?_
    refine lv_goto (tgt := 23) hx hb dX6_walk_18 (by decide) ?_
    exact hret [0, 1] () dX6_walk_23 hP hD hS (by decide) rfl (by unfold fWalk; (repeat' split) <;> omega)
abbrev rm_X6_stackers : Room := { frames := 1, cells := 0, slots := 0, locals := 22 }
theorem fl_X6_stackers_7 : Cond.fieldLink RX6 7 "WalkPassesModel" "state" "[I" ∈ wsX6_stackers := by decide +kernel
theorem iw_X6_stackers_6 : ∀ w ∈ u_ws RX6 TX6 16, w ∈ wsX6_stackers := by decide +kernel
set_option maxHeartbeats 4000000 in
set_option maxRecDepth 100000 in
theorem k_X6_stackers (l : Launch) (D : va_G) (cy : Nat → ClassId) (mo : Nat → Nat) (z : Nat) (rn sn co bp ag pn : Int) (lt mn : Int) (pt tk mr od pl rm cd : Int → Int) (v : Int) (hv : inR v) : CtI l yX6_stackers wsX6_stackers rm_X6_stackers D (tyL cy) [.ref (mo 0), .int (iI v)] [oM mo rn sn co bp ag pn, ai (cy 0) (mo 1) 98 (stF lt mn pt tk mr od rm cd)] z (fun (r : Int) (u : Int) => r = fStackers mn v ∧ (((2 ≤ v ∧ v ≤ 4) ∧ u = (v)) ∨ (¬ (2 ≤ v ∧ v ≤ 4) ∧ u = (mn)))) (fun (u : Int) => [oM mo rn sn co bp ag pn, ai (cy 0) (mo 1) 98 (stF lt u pt tk mr od rm cd)]) 0 0 := by
  refine ct_i (cc := cX6_stackers) (maxL := 3) (by decide) rfl (Nat.le_of_ble_eq_true rfl) ?_
  intro p e s m args below meth c A Q H locs ls hx hb hml hown hin hts hK hN hP hD hS hA hl hret
  replace hl : lv_has ls 3 [(0, .ref (mo 0)), (1, .int (iI v))] := hl
  replace hown : s.vm.findClass RX6 = some m.cls := hown
  refine lv_iload_n hx hb dX6_stackers_0 rfl (lv_at hl 1 rfl) ?_
  refine r_const hx hb dX6_stackers_1 ?_
  refine r_const hx hb dX6_stackers_2 ?_
  have M_3 := k_X6_in l D cy  H.size v 2 4 (hv) (⟨by omega, by omega⟩) (⟨by omega, by omega⟩)
  refine kS_i (wr := [oM mo rn sn co bp ag pn, ai (cy 0) (mo 1) 98 (stF lt mn pt tk mr od rm cd)]) (As := [.int (iI v), .int (iI 2), .int (iI 4)]) (rest := []) ⟨hx, hb, hml, hown, hts⟩ M_3 (va_cwS 3 hts gX6_stackers_X6_in rfl rfl rfl (by decide +kernel) ⟨Nat.le_of_ble_eq_true rfl, Nat.le_of_ble_eq_true rfl⟩) hN hK hP hD hS hA [] [0, 1] rfl rfl (by decide) (by decide) (by decide) rfl hl.1 rfl (Nat.le_of_ble_eq_true rfl) dX6_stackers_3 ⟨Nat.le_of_ble_eq_true rfl, Nat.le_of_ble_eq_true rfl⟩ (fun r_3 u_3 H locs hw_3 hP hD hS => ?_)
  replace hP : va_P D vwCl [oM mo rn sn co bp ag pn, ai (cy 0) (mo 1) 98 (stF lt mn pt tk mr od rm cd)] H := hP
  replace hD : va_D A [oM mo rn sn co bp ag pn, ai (cy 0) (mo 1) 98 (stF lt mn pt tk mr od rm cd)] := hD
  refine r_ne0 hx hb 12 dX6_stackers_6 (by decide) ⟨by omega, by omega⟩ (fun c_6 => ?_) (fun c_6 => ?_)
  ·
    refine lv_aload_n hx hb dX6_stackers_12 rfl (lv_at hl 0 rfl) ?_
    refine va_get (D := D) (C := RX6) (T := TX6) (N := 16) (ci := 6) (v := .ref (mo 1)) hx hb hts iw_X6_stackers_6 hown hK hP 0 rfl rfl 0 (by decide) (hts _ fl_X6_stackers_7) (fun _ h9 => h9) rfl dX6_stackers_13 ?_
    refine r_bip hx hb (24) dX6_stackers_16 (by decide) ?_
    refine r_ald hx hb hK hP 1 rfl rfl ⟨by omega, by omega, by omega⟩ dX6_stackers_18 ?_
    refine r_top (mn) (stF_mn (by omega)) ?_
    refine lv_istore_n (lv' := [(2, .int (iI mn)), (0, .ref (mo 0)), (1, .int (iI v))]) hx hb dX6_stackers_19 rfl hl (by decide) rfl (fun ls hl => ?_)
    refine lv_aload_n hx hb dX6_stackers_20 rfl (lv_at hl 1 rfl) ?_
    refine va_get (D := D) (C := RX6) (T := TX6) (N := 16) (ci := 6) (v := .ref (mo 1)) hx hb hts iw_X6_stackers_6 hown hK hP 0 rfl rfl 0 (by decide) (hts _ fl_X6_stackers_7) (fun _ h9 => h9) rfl dX6_stackers_21 ?_
    refine r_bip hx hb (24) dX6_stackers_24 (by decide) ?_
    refine lv_iload_n hx hb dX6_stackers_26 rfl (lv_at hl 2 rfl) ?_
    refine r_ast hx hb hK hP hD hS 1 rfl rfl ⟨by omega, by omega, by omega⟩ dX6_stackers_27 (fun H locs hP hD hS => ?_)
    rw [show ud (stF lt mn pt tk mr od rm cd) 24 v = stF lt v pt tk mr od rm cd from stU_mn (by omega)] at hP hD
    replace hP : va_P D vwCl [oM mo rn sn co bp ag pn, ai (cy 0) (mo 1) 98 (stF lt v pt tk mr od rm cd)] H := hP
    replace hD : va_D A [oM mo rn sn co bp ag pn, ai (cy 0) (mo 1) 98 (stF lt v pt tk mr od rm cd)] := hD
    refine lv_iload_n hx hb dX6_stackers_28 rfl (lv_at hl 0 rfl) ?_
    exact hret [0, 1] v dX6_stackers_29 hP hD hS (by decide) rfl (⟨by unfold fStackers; (repeat' split) <;> omega, by first | exact Or.inl ⟨by omega, rfl⟩ | exact Or.inr ⟨by omega, rfl⟩⟩)
  ·
    refine r_bip hx hb (-2) dX6_stackers_9 (by decide) ?_
    exact hret [0, 1] mn dX6_stackers_11 hP hD hS (by decide) rfl (⟨by unfold fStackers; (repeat' split) <;> omega, by first | exact Or.inl ⟨by omega, rfl⟩ | exact Or.inr ⟨by omega, rfl⟩⟩)
abbrev rm_X6_room : Room := { frames := 2, cells := 0, slots := 0, locals := 43 }
theorem fl_X6_room_7 : Cond.fieldLink RX6 7 "WalkPassesModel" "state" "[I" ∈ wsX6_room := by decide +kernel
theorem iw_X6_room_6 : ∀ w ∈ u_ws RX6 TX6 16, w ∈ wsX6_room := by decide +kernel
set_option maxHeartbeats 4000000 in
set_option maxRecDepth 100000 in
theorem k_X6_room (l : Launch) (D : va_G) (cy : Nat → ClassId) (mo : Nat → Nat) (z : Nat) (rn sn co bp ag pn : Int) (lt mn : Int) (pt tk mr od pl rm cd : Int → Int) (i v : Int) (hI : DI lt mn pt tk mr od pl rm cd) (hi : inR i) (hv : inR v) : CtI l yX6_room wsX6_room rm_X6_room D (tyL cy) [.ref (mo 0), .int (iI i), .int (iI v)] [oM mo rn sn co bp ag pn, ai (cy 0) (mo 1) 98 (stF lt mn pt tk mr od rm cd)] z (fun (r : Int) (u : Int → Int) => r = fRoom mn rm i v ∧ ((((0 ≤ i ∧ i < mn) ∧ (1 ≤ v ∧ v ≤ 99)) ∧ u = (ud rm i v)) ∨ (¬ ((0 ≤ i ∧ i < mn) ∧ (1 ≤ v ∧ v ≤ 99)) ∧ u = (rm)))) (fun (u : Int → Int) => [oM mo rn sn co bp ag pn, ai (cy 0) (mo 1) 98 (stF lt mn pt tk mr od u cd)]) 0 0 := by
  refine ct_i (cc := cX6_room) (maxL := 4) (by decide) rfl (Nat.le_of_ble_eq_true rfl) ?_
  intro p e s m args below meth c A Q H locs ls hx hb hml hown hin hts hK hN hP hD hS hA hl hret
  replace hl : lv_has ls 4 [(0, .ref (mo 0)), (1, .int (iI i)), (2, .int (iI v))] := hl
  replace hown : s.vm.findClass RX6 = some m.cls := hown
  obtain ⟨⟨⟨hlt0, hlt1⟩, hmn0, hmn1⟩, ⟨hpt, htk, hmr⟩, ⟨hod, hpl, hpo, hop⟩, hrm, hcd⟩ := id hI
  refine lv_aload_n hx hb dX6_room_0 rfl (lv_at hl 0 rfl) ?_
  refine lv_iload_n hx hb dX6_room_1 rfl (lv_at hl 1 rfl) ?_
  have M_2 := k_X6_isStacker l D cy mo H.size rn sn co bp ag pn lt mn pt tk mr od pl rm cd i (by omega) (hi)
  refine kV_i (wr := []) (As := [.int (iI i)]) (rest := []) (q := (RX6, TX6, 16)) (ci := 6) ⟨hx, hb, hml, hown, hts⟩ M_2 0 rfl rfl (cwV 1 hts gX6_room_X6_isStacker rfl rfl rfl (by decide +kernel) ⟨Nat.le_of_ble_eq_true rfl, Nat.le_of_ble_eq_true rfl⟩) hN hK hP hD hS hA [0, 1] [] rfl rfl (by decide) (by decide) (by decide) rfl hl.1 rfl (Nat.le_of_ble_eq_true rfl) dX6_room_2 ⟨Nat.le_of_ble_eq_true rfl, Nat.le_of_ble_eq_true rfl⟩ (fun r_2 u_2 H locs hw_2 hP hD hS => ?_)
  replace hP : va_P D vwCl [oM mo rn sn co bp ag pn, ai (cy 0) (mo 1) 98 (stF lt mn pt tk mr od rm cd)] H := hP
  replace hD : va_D A [oM mo rn sn co bp ag pn, ai (cy 0) (mo 1) 98 (stF lt mn pt tk mr od rm cd)] := hD
  refine r_ne0 hx hb 10 dX6_room_5 (by decide) ⟨by omega, by omega⟩ (fun c_5 => ?_) (fun c_5 => ?_)
  ·
    refine lv_iload_n hx hb dX6_room_10 rfl (lv_at hl 2 rfl) ?_
    refine r_const hx hb dX6_room_11 ?_
    refine r_bip hx hb (99) dX6_room_12 (by decide) ?_
    have M_14 := k_X6_in l D cy  H.size v 1 99 (hv) (⟨by omega, by omega⟩) (⟨by omega, by omega⟩)
    refine kS_i (wr := [oM mo rn sn co bp ag pn, ai (cy 0) (mo 1) 98 (stF lt mn pt tk mr od rm cd)]) (As := [.int (iI v), .int (iI 1), .int (iI 99)]) (rest := []) ⟨hx, hb, hml, hown, hts⟩ M_14 (va_cwS 3 hts gX6_room_X6_in rfl rfl rfl (by decide +kernel) ⟨Nat.le_of_ble_eq_true rfl, Nat.le_of_ble_eq_true rfl⟩) hN hK hP hD hS hA [] [0, 1] rfl rfl (by decide) (by decide) (by decide) rfl hl.1 rfl (Nat.le_of_ble_eq_true rfl) dX6_room_14 ⟨Nat.le_of_ble_eq_true rfl, Nat.le_of_ble_eq_true rfl⟩ (fun r_14 u_14 H locs hw_14 hP hD hS => ?_)
    replace hP : va_P D vwCl [oM mo rn sn co bp ag pn, ai (cy 0) (mo 1) 98 (stF lt mn pt tk mr od rm cd)] H := hP
    replace hD : va_D A [oM mo rn sn co bp ag pn, ai (cy 0) (mo 1) 98 (stF lt mn pt tk mr od rm cd)] := hD
    refine r_ne0 hx hb 23 dX6_room_17 (by decide) ⟨by omega, by omega⟩ (fun c_17 => ?_) (fun c_17 => ?_)
    ·
      refine lv_aload_n hx hb dX6_room_23 rfl (lv_at hl 0 rfl) ?_
      refine va_get (D := D) (C := RX6) (T := TX6) (N := 16) (ci := 6) (v := .ref (mo 1)) hx hb hts iw_X6_room_6 hown hK hP 0 rfl rfl 0 (by decide) (hts _ fl_X6_room_7) (fun _ h9 => h9) rfl dX6_room_24 ?_
      refine r_bip hx hb (20) dX6_room_27 (by decide) ?_
      refine lv_iload_n hx hb dX6_room_29 rfl (lv_at hl 1 rfl) ?_
      refine r_add hx hb dX6_room_30 ?_
      refine r_ald hx hb hK hP 1 rfl rfl ⟨by omega, by omega, by omega⟩ dX6_room_31 ?_
      refine r_top (rm i) (stF_rm (by omega) (by omega) (by omega)) ?_
      refine lv_istore_n (lv' := [(3, .int (iI (rm i))), (0, .ref (mo 0)), (1, .int (iI i)), (2, .int (iI v))]) hx hb dX6_room_32 rfl hl (by decide) rfl (fun ls hl => ?_)
      refine lv_aload_n hx hb dX6_room_33 rfl (lv_at hl 1 rfl) ?_
      refine va_get (D := D) (C := RX6) (T := TX6) (N := 16) (ci := 6) (v := .ref (mo 1)) hx hb hts iw_X6_room_6 hown hK hP 0 rfl rfl 0 (by decide) (hts _ fl_X6_room_7) (fun _ h9 => h9) rfl dX6_room_34 ?_
      refine r_bip hx hb (20) dX6_room_37 (by decide) ?_
      refine lv_iload_n hx hb dX6_room_39 rfl (lv_at hl 2 rfl) ?_
      refine r_add hx hb dX6_room_40 ?_
      refine lv_iload_n hx hb dX6_room_41 rfl (lv_at hl 3 rfl) ?_
      refine r_ast hx hb hK hP hD hS 1 rfl rfl ⟨by omega, by omega, by omega⟩ dX6_room_42 (fun H locs hP hD hS => ?_)
      rw [show ud (stF lt mn pt tk mr od rm cd) (20 + i) v = stF lt mn pt tk mr od (ud rm i v) cd from stU_rm (by omega) (by omega) (by omega)] at hP hD
      replace hP : va_P D vwCl [oM mo rn sn co bp ag pn, ai (cy 0) (mo 1) 98 (stF lt mn pt tk mr od (ud rm i v) cd)] H := hP
      replace hD : va_D A [oM mo rn sn co bp ag pn, ai (cy 0) (mo 1) 98 (stF lt mn pt tk mr od (ud rm i v) cd)] := hD
      refine lv_iload_n hx hb dX6_room_43 rfl (lv_at hl 0 rfl) ?_
      exact hret [0, 1] (ud rm i v) dX6_room_44 hP hD hS (by decide) rfl (⟨by unfold fRoom; (repeat' split) <;> omega, by first | exact Or.inl ⟨by omega, rfl⟩ | exact Or.inr ⟨by omega, rfl⟩⟩)
    ·
      refine r_bip hx hb (-2) dX6_room_20 (by decide) ?_
      exact hret [0, 1] rm dX6_room_22 hP hD hS (by decide) rfl (⟨by unfold fRoom; (repeat' split) <;> omega, by first | exact Or.inl ⟨by omega, rfl⟩ | exact Or.inr ⟨by omega, rfl⟩⟩)
  ·
    refine r_const hx hb dX6_room_8 ?_
    exact hret [0, 1] rm dX6_room_9 hP hD hS (by decide) rfl (⟨by unfold fRoom; (repeat' split) <;> omega, by first | exact Or.inl ⟨by omega, rfl⟩ | exact Or.inr ⟨by omega, rfl⟩⟩)
abbrev rm_X6_code : Room := { frames := 2, cells := 0, slots := 0, locals := 42 }
theorem fl_X6_code_7 : Cond.fieldLink RX6 7 "WalkPassesModel" "state" "[I" ∈ wsX6_code := by decide +kernel
theorem iw_X6_code_6 : ∀ w ∈ u_ws RX6 TX6 16, w ∈ wsX6_code := by decide +kernel
set_option maxHeartbeats 4000000 in
set_option maxRecDepth 100000 in
theorem k_X6_code (l : Launch) (D : va_G) (cy : Nat → ClassId) (mo : Nat → Nat) (z : Nat) (rn sn co bp ag pn : Int) (lt mn : Int) (pt tk mr od pl rm cd : Int → Int) (q v : Int) (hq : inR q) (hv : inR v) : CtI l yX6_code wsX6_code rm_X6_code D (tyL cy) [.ref (mo 0), .int (iI q), .int (iI v)] [oM mo rn sn co bp ag pn, ai (cy 0) (mo 1) 98 (stF lt mn pt tk mr od rm cd)] z (fun (r : Int) (u : Int → Int) => r = fCode cd q v ∧ ((((0 ≤ q ∧ q ≤ 9) ∧ (0 ≤ v ∧ v ≤ 63)) ∧ u = (ud cd q v)) ∨ (¬ ((0 ≤ q ∧ q ≤ 9) ∧ (0 ≤ v ∧ v ≤ 63)) ∧ u = (cd)))) (fun (u : Int → Int) => [oM mo rn sn co bp ag pn, ai (cy 0) (mo 1) 98 (stF lt mn pt tk mr od rm u)]) 0 0 := by
  refine ct_i (cc := cX6_code) (maxL := 4) (by decide) rfl (Nat.le_of_ble_eq_true rfl) ?_
  intro p e s m args below meth c A Q H locs ls hx hb hml hown hin hts hK hN hP hD hS hA hl hret
  replace hl : lv_has ls 4 [(0, .ref (mo 0)), (1, .int (iI q)), (2, .int (iI v))] := hl
  replace hown : s.vm.findClass RX6 = some m.cls := hown
  refine lv_iload_n hx hb dX6_code_0 rfl (lv_at hl 1 rfl) ?_
  have M_1 := k_X6_isPoint l D cy  H.size q (hq)
  refine kS_i (wr := [oM mo rn sn co bp ag pn, ai (cy 0) (mo 1) 98 (stF lt mn pt tk mr od rm cd)]) (As := [.int (iI q)]) (rest := []) ⟨hx, hb, hml, hown, hts⟩ M_1 (va_cwS 1 hts gX6_code_X6_isPoint rfl rfl rfl (by decide +kernel) ⟨Nat.le_of_ble_eq_true rfl, Nat.le_of_ble_eq_true rfl⟩) hN hK hP hD hS hA [] [0, 1] rfl rfl (by decide) (by decide) (by decide) rfl hl.1 rfl (Nat.le_of_ble_eq_true rfl) dX6_code_1 ⟨Nat.le_of_ble_eq_true rfl, Nat.le_of_ble_eq_true rfl⟩ (fun r_1 u_1 H locs hw_1 hP hD hS => ?_)
  replace hP : va_P D vwCl [oM mo rn sn co bp ag pn, ai (cy 0) (mo 1) 98 (stF lt mn pt tk mr od rm cd)] H := hP
  replace hD : va_D A [oM mo rn sn co bp ag pn, ai (cy 0) (mo 1) 98 (stF lt mn pt tk mr od rm cd)] := hD
  refine r_ne0 hx hb 9 dX6_code_4 (by decide) ⟨by omega, by omega⟩ (fun c_4 => ?_) (fun c_4 => ?_)
  ·
    refine lv_iload_n hx hb dX6_code_9 rfl (lv_at hl 2 rfl) ?_
    refine r_const hx hb dX6_code_10 ?_
    refine r_bip hx hb (63) dX6_code_11 (by decide) ?_
    have M_13 := k_X6_in l D cy  H.size v 0 63 (hv) (⟨by omega, by omega⟩) (⟨by omega, by omega⟩)
    refine kS_i (wr := [oM mo rn sn co bp ag pn, ai (cy 0) (mo 1) 98 (stF lt mn pt tk mr od rm cd)]) (As := [.int (iI v), .int (iI 0), .int (iI 63)]) (rest := []) ⟨hx, hb, hml, hown, hts⟩ M_13 (va_cwS 3 hts gX6_code_X6_in rfl rfl rfl (by decide +kernel) ⟨Nat.le_of_ble_eq_true rfl, Nat.le_of_ble_eq_true rfl⟩) hN hK hP hD hS hA [] [0, 1] rfl rfl (by decide) (by decide) (by decide) rfl hl.1 rfl (Nat.le_of_ble_eq_true rfl) dX6_code_13 ⟨Nat.le_of_ble_eq_true rfl, Nat.le_of_ble_eq_true rfl⟩ (fun r_13 u_13 H locs hw_13 hP hD hS => ?_)
    replace hP : va_P D vwCl [oM mo rn sn co bp ag pn, ai (cy 0) (mo 1) 98 (stF lt mn pt tk mr od rm cd)] H := hP
    replace hD : va_D A [oM mo rn sn co bp ag pn, ai (cy 0) (mo 1) 98 (stF lt mn pt tk mr od rm cd)] := hD
    refine r_ne0 hx hb 22 dX6_code_16 (by decide) ⟨by omega, by omega⟩ (fun c_16 => ?_) (fun c_16 => ?_)
    ·
      refine lv_aload_n hx hb dX6_code_22 rfl (lv_at hl 0 rfl) ?_
      refine va_get (D := D) (C := RX6) (T := TX6) (N := 16) (ci := 6) (v := .ref (mo 1)) hx hb hts iw_X6_code_6 hown hK hP 0 rfl rfl 0 (by decide) (hts _ fl_X6_code_7) (fun _ h9 => h9) rfl dX6_code_23 ?_
      refine r_bip hx hb (10) dX6_code_26 (by decide) ?_
      refine lv_iload_n hx hb dX6_code_28 rfl (lv_at hl 1 rfl) ?_
      refine r_add hx hb dX6_code_29 ?_
      refine r_ald hx hb hK hP 1 rfl rfl ⟨by omega, by omega, by omega⟩ dX6_code_30 ?_
      refine r_top (cd q) (stF_cd (by omega) (by omega) (by omega)) ?_
      refine lv_istore_n (lv' := [(3, .int (iI (cd q))), (0, .ref (mo 0)), (1, .int (iI q)), (2, .int (iI v))]) hx hb dX6_code_31 rfl hl (by decide) rfl (fun ls hl => ?_)
      refine lv_aload_n hx hb dX6_code_32 rfl (lv_at hl 1 rfl) ?_
      refine va_get (D := D) (C := RX6) (T := TX6) (N := 16) (ci := 6) (v := .ref (mo 1)) hx hb hts iw_X6_code_6 hown hK hP 0 rfl rfl 0 (by decide) (hts _ fl_X6_code_7) (fun _ h9 => h9) rfl dX6_code_33 ?_
      refine r_bip hx hb (10) dX6_code_36 (by decide) ?_
      refine lv_iload_n hx hb dX6_code_38 rfl (lv_at hl 2 rfl) ?_
      refine r_add hx hb dX6_code_39 ?_
      refine lv_iload_n hx hb dX6_code_40 rfl (lv_at hl 3 rfl) ?_
      refine r_ast hx hb hK hP hD hS 1 rfl rfl ⟨by omega, by omega, by omega⟩ dX6_code_41 (fun H locs hP hD hS => ?_)
      rw [show ud (stF lt mn pt tk mr od rm cd) (10 + q) v = stF lt mn pt tk mr od rm (ud cd q v) from stU_cd (by omega) (by omega) (by omega)] at hP hD
      replace hP : va_P D vwCl [oM mo rn sn co bp ag pn, ai (cy 0) (mo 1) 98 (stF lt mn pt tk mr od rm (ud cd q v))] H := hP
      replace hD : va_D A [oM mo rn sn co bp ag pn, ai (cy 0) (mo 1) 98 (stF lt mn pt tk mr od rm (ud cd q v))] := hD
      refine lv_iload_n hx hb dX6_code_42 rfl (lv_at hl 0 rfl) ?_
      exact hret [0, 1] (ud cd q v) dX6_code_43 hP hD hS (by decide) rfl (⟨by unfold fCode; (repeat' split) <;> omega, by first | exact Or.inl ⟨by omega, rfl⟩ | exact Or.inr ⟨by omega, rfl⟩⟩)
    ·
      refine r_bip hx hb (-2) dX6_code_19 (by decide) ?_
      exact hret [0, 1] cd dX6_code_21 hP hD hS (by decide) rfl (⟨by unfold fCode; (repeat' split) <;> omega, by first | exact Or.inl ⟨by omega, rfl⟩ | exact Or.inr ⟨by omega, rfl⟩⟩)
  ·
    refine r_const hx hb dX6_code_7 ?_
    exact hret [0, 1] cd dX6_code_8 hP hD hS (by decide) rfl (⟨by unfold fCode; (repeat' split) <;> omega, by first | exact Or.inl ⟨by omega, rfl⟩ | exact Or.inr ⟨by omega, rfl⟩⟩)
abbrev rm_X6_isUsed : Room := { frames := 0, cells := 0, slots := 0, locals := 0 }
theorem fl_X6_isUsed_7 : Cond.fieldLink RX6 7 "WalkPassesModel" "state" "[I" ∈ wsX6_isUsed := by decide +kernel
theorem iw_X6_isUsed_6 : ∀ w ∈ u_ws RX6 TX6 16, w ∈ wsX6_isUsed := by decide +kernel
set_option maxHeartbeats 4000000 in
set_option maxRecDepth 100000 in
theorem k_X6_isUsed (l : Launch) (D : va_G) (cy : Nat → ClassId) (mo : Nat → Nat) (z : Nat) (rn sn co bp ag pn : Int) (lt mn : Int) (pt tk mr od pl rm cd : Int → Int) (q : Int) (hL : (0 ≤ lt ∧ lt ≤ 24) ∧ ∀ j, 0 ≤ pt j ∧ pt j ≤ 9) (hq : inR q) : CtI l yX6_isUsed wsX6_isUsed rm_X6_isUsed D (tyL cy) [.ref (mo 0), .int (iI q)] [oM mo rn sn co bp ag pn, ai (cy 0) (mo 1) 98 (stF lt mn pt tk mr od rm cd)] z (fun (r : Int) (u : Unit) => r = hasI pt lt q) (fun (u : Unit) => [oM mo rn sn co bp ag pn, ai (cy 0) (mo 1) 98 (stF lt mn pt tk mr od rm cd)]) 0 0 := by
  refine ct_z (cc := cX6_isUsed) (maxL := 4) (by decide) rfl (Nat.le_of_ble_eq_true rfl) ?_
  intro p e s m args below meth c A Q H locs ls hx hb hml hown hin hts hK hN hP hD hS hA hl hret
  replace hl : lv_has ls 4 [(0, .ref (mo 0)), (1, .int (iI q))] := hl
  replace hown : s.vm.findClass RX6 = some m.cls := hown
  obtain ⟨⟨hlt0, hlt1⟩, hpt⟩ := id hL
  refine r_const hx hb dX6_isUsed_0 ?_
  refine lv_istore_n (lv' := [(2, .int (iI 0)), (0, .ref (mo 0)), (1, .int (iI q))]) hx hb dX6_isUsed_1 rfl hl (by decide) rfl (fun ls hl => ?_)
  refine r_const hx hb dX6_isUsed_2 ?_
  refine lv_istore_n (lv' := [(3, .int (iI 0)), (2, .int (iI 0)), (0, .ref (mo 0)), (1, .int (iI q))]) hx hb dX6_isUsed_3 rfl hl (by decide) rfl (fun ls hl => ?_)
  have lp_4 : ∀ (fu : Nat) (x : Int) (i : Int), (0 ≤ i ∧ i ≤ lt) → (x = if hasB pt q i.toNat = true then 1 else 0) → (x = 0 ∨ x = 1) → (lt - i).toNat < fu → ∀ (H : Heap) (locs : List Loc), va_P D vwCl [oM mo rn sn co bp ag pn, ai (cy 0) (mo 1) 98 (stF lt mn pt tk mr od rm cd)] H → va_D A [oM mo rn sn co bp ag pn, ai (cy 0) (mo 1) 98 (stF lt mn pt tk mr od rm cd)] → va_S A s.heap H locs → ∀ (ls : Array Slot), lv_has ls 4 [(0, .ref (mo 0)), (1, .int (iI q)), (2, .int (iI x)), (3, .int (iI i))] → W p l e rm_X6_isUsed s m args below meth c H locs 0 0 Q (F0 m 4 ls []) := by
    intro fu
    induction fu with
    | zero =>
      intro x i h1 h2 h3 hm
      exact absurd hm (Nat.not_lt_zero _)
    | succ fu ih_4 =>
      intro x i h1 h2 h3 hm H locs hP hD hS ls hl
      refine lv_iload_n hx hb dX6_isUsed_4 rfl (lv_at hl 3 rfl) ?_
      refine lv_aload_n hx hb dX6_isUsed_5 rfl (lv_at hl 0 rfl) ?_
      refine va_get (D := D) (C := RX6) (T := TX6) (N := 16) (ci := 6) (v := .ref (mo 1)) hx hb hts iw_X6_isUsed_6 hown hK hP 0 rfl rfl 0 (by decide) (hts _ fl_X6_isUsed_7) (fun _ h9 => h9) rfl dX6_isUsed_6 ?_
      refine r_bip hx hb (25) dX6_isUsed_9 (by decide) ?_
      refine r_ald hx hb hK hP 1 rfl rfl ⟨by omega, by omega, by omega⟩ dX6_isUsed_11 ?_
      refine r_top (lt) (stF_lt (by omega)) ?_
      refine r_ge hx hb 44 dX6_isUsed_12 (by decide) ⟨by omega, by omega⟩ ⟨by omega, by omega⟩ (fun c_12 => ?_) (fun c_12 => ?_)
      ·
        refine lv_iload_n hx hb dX6_isUsed_44 rfl (lv_at hl 2 rfl) ?_
        exact hret [0, 1] () dX6_isUsed_45 hP hD hS (by decide) rfl (by omega) (by rw [h2, show i = lt by omega]; rfl)
      ·
        refine lv_iload_n hx hb dX6_isUsed_15 rfl (lv_at hl 2 rfl) ?_
        refine r_ne0 hx hb 32 dX6_isUsed_16 (by decide) ⟨by omega, by omega⟩ (fun c_16 => ?_) (fun c_16 => ?_)
        ·
          refine r_const hx hb dX6_isUsed_32 ?_
          refine lv_goto (tgt := 37) hx hb dX6_isUsed_33 (by decide) ?_
          refine lv_istore_n (lv' := [(2, .int (iI 1)), (0, .ref (mo 0)), (1, .int (iI q)), (3, .int (iI i))]) hx hb dX6_isUsed_37 rfl hl (by decide) rfl (fun ls hl => ?_)
          refine r_inc (k := 3) (lv' := [(3, .int (iI (i + 1))), (2, .int (iI 1)), (0, .ref (mo 0)), (1, .int (iI q))]) hx hb dX6_isUsed_38 hl rfl (by decide) rfl (fun ls hl => ?_)
          refine lv_goto (tgt := 4) hx hb dX6_isUsed_41 (by decide) ?_
          exact ih_4 1 (i + 1) (by omega) (by rw [hasB_s h1.1]; first | (have z : hasB pt q i.toNat = true := by (by_cases z : hasB pt q i.toNat = true); (exact z); (rw [if_neg z] at h2; omega)); simp [z] | (have z : hasB pt q i.toNat = false := by (by_cases z : hasB pt q i.toNat = true); (rw [if_pos z] at h2; omega); (exact Bool.eq_false_iff.mpr z)); simp [z, c_29]) (by omega) (by omega) H locs (pick_P hP (is := [0, 1]) rfl) (hD.sub [0, 1] (by decide) rfl) hS ls (lv_sub hl [2, 3, 1, 0] rfl)
        ·
          refine lv_aload_n hx hb dX6_isUsed_19 rfl (lv_at hl 0 rfl) ?_
          refine va_get (D := D) (C := RX6) (T := TX6) (N := 16) (ci := 6) (v := .ref (mo 1)) hx hb hts iw_X6_isUsed_6 hown hK hP 0 rfl rfl 0 (by decide) (hts _ fl_X6_isUsed_7) (fun _ h9 => h9) rfl dX6_isUsed_20 ?_
          refine r_bip hx hb (26) dX6_isUsed_23 (by decide) ?_
          refine lv_iload_n hx hb dX6_isUsed_25 rfl (lv_at hl 3 rfl) ?_
          refine r_add hx hb dX6_isUsed_26 ?_
          refine r_ald hx hb hK hP 1 rfl rfl ⟨by omega, by omega, by omega⟩ dX6_isUsed_27 ?_
          refine r_top (pt i) (stF_pt (by omega) (by omega) (by omega)) ?_
          have b_27 := hpt i
          refine lv_iload_n hx hb dX6_isUsed_28 rfl (lv_at hl 1 rfl) ?_
          refine r_ne hx hb 36 dX6_isUsed_29 (by decide) ⟨by omega, by omega⟩ ⟨by omega, by omega⟩ (fun c_29 => ?_) (fun c_29 => ?_)
          ·
            refine r_const hx hb dX6_isUsed_36 ?_
            refine lv_istore_n (lv' := [(2, .int (iI 0)), (0, .ref (mo 0)), (1, .int (iI q)), (3, .int (iI i))]) hx hb dX6_isUsed_37 rfl hl (by decide) rfl (fun ls hl => ?_)
            refine r_inc (k := 3) (lv' := [(3, .int (iI (i + 1))), (2, .int (iI 0)), (0, .ref (mo 0)), (1, .int (iI q))]) hx hb dX6_isUsed_38 hl rfl (by decide) rfl (fun ls hl => ?_)
            refine lv_goto (tgt := 4) hx hb dX6_isUsed_41 (by decide) ?_
            exact ih_4 0 (i + 1) (by omega) (by rw [hasB_s h1.1]; first | (have z : hasB pt q i.toNat = true := by (by_cases z : hasB pt q i.toNat = true); (exact z); (rw [if_neg z] at h2; omega)); simp [z] | (have z : hasB pt q i.toNat = false := by (by_cases z : hasB pt q i.toNat = true); (rw [if_pos z] at h2; omega); (exact Bool.eq_false_iff.mpr z)); simp [z, c_29]) (by omega) (by omega) H locs (pick_P hP (is := [0, 1]) rfl) (hD.sub [0, 1] (by decide) rfl) hS ls (lv_sub hl [2, 3, 1, 0] rfl)
          ·
            refine r_const hx hb dX6_isUsed_32 ?_
            refine lv_goto (tgt := 37) hx hb dX6_isUsed_33 (by decide) ?_
            refine lv_istore_n (lv' := [(2, .int (iI 1)), (0, .ref (mo 0)), (1, .int (iI q)), (3, .int (iI i))]) hx hb dX6_isUsed_37 rfl hl (by decide) rfl (fun ls hl => ?_)
            refine r_inc (k := 3) (lv' := [(3, .int (iI (i + 1))), (2, .int (iI 1)), (0, .ref (mo 0)), (1, .int (iI q))]) hx hb dX6_isUsed_38 hl rfl (by decide) rfl (fun ls hl => ?_)
            refine lv_goto (tgt := 4) hx hb dX6_isUsed_41 (by decide) ?_
            exact ih_4 1 (i + 1) (by omega) (by rw [hasB_s h1.1]; first | (have z : hasB pt q i.toNat = true := by (by_cases z : hasB pt q i.toNat = true); (exact z); (rw [if_neg z] at h2; omega)); simp [z] | (have z : hasB pt q i.toNat = false := by (by_cases z : hasB pt q i.toNat = true); (rw [if_pos z] at h2; omega); (exact Bool.eq_false_iff.mpr z)); simp [z, c_29]) (by omega) (by omega) H locs (pick_P hP (is := [0, 1]) rfl) (hD.sub [0, 1] (by decide) rfl) hS ls (lv_sub hl [2, 3, 1, 0] rfl)
  exact lp_4 _ 0 0 (by omega) (rfl) (by omega) (Nat.lt_succ_self _) H locs (pick_P hP (is := [0, 1]) rfl) (hD.sub [0, 1] (by decide) rfl) hS ls (lv_sub hl [2, 3, 1, 0] rfl)
abbrev rm_X6_dense : Room := { frames := 1, cells := 0, slots := 0, locals := 23 }
theorem fl_X6_dense_7 : Cond.fieldLink RX6 7 "WalkPassesModel" "state" "[I" ∈ wsX6_dense := by decide +kernel
theorem iw_X6_dense_6 : ∀ w ∈ u_ws RX6 TX6 16, w ∈ wsX6_dense := by decide +kernel
set_option maxHeartbeats 4000000 in
set_option maxRecDepth 100000 in
theorem k_X6_dense (l : Launch) (D : va_G) (cy : Nat → ClassId) (mo : Nat → Nat) (z : Nat) (rn sn co bp ag pn : Int) (lt mn : Int) (pt tk mr od pl rm cd : Int → Int) (hI : DI lt mn pt tk mr od pl rm cd) : CtI l yX6_dense wsX6_dense rm_X6_dense D (tyL cy) [.ref (mo 0)] [oM mo rn sn co bp ag pn, ai (cy 0) (mo 1) 98 (stF lt mn pt tk mr od rm cd)] z (fun (r : Int) (u : Unit) => r = denN (hasI pt lt) od 10) (fun (u : Unit) => [oM mo rn sn co bp ag pn, ai (cy 0) (mo 1) 98 (stF lt mn pt tk mr od rm (denC (hasI pt lt) od cd 10))]) 0 0 := by
  refine ct_i (cc := cX6_dense) (maxL := 3) (by decide) rfl (Nat.le_of_ble_eq_true rfl) ?_
  intro p e s m args below meth c A Q H locs ls hx hb hml hown hin hts hK hN hP hD hS hA hl hret
  replace hl : lv_has ls 3 [(0, .ref (mo 0))] := hl
  replace hown : s.vm.findClass RX6 = some m.cls := hown
  obtain ⟨⟨⟨hlt0, hlt1⟩, hmn0, hmn1⟩, ⟨hpt, htk, hmr⟩, ⟨hod, hpl, hpo, hop⟩, hrm, hcd⟩ := id hI
  refine r_const hx hb dX6_dense_0 ?_
  refine lv_istore_n (lv' := [(1, .int (iI 0)), (0, .ref (mo 0))]) hx hb dX6_dense_1 rfl hl (by decide) rfl (fun ls hl => ?_)
  refine r_const hx hb dX6_dense_2 ?_
  refine lv_istore_n (lv' := [(2, .int (iI 0)), (1, .int (iI 0)), (0, .ref (mo 0))]) hx hb dX6_dense_3 rfl hl (by decide) rfl (fun ls hl => ?_)
  have lp_4 : ∀ (fu : Nat) (x : Int) (i : Int) (B : Int → Int), (0 ≤ i ∧ i ≤ 10) → (x = denN (hasI pt lt) od i.toNat) → (B = denC (hasI pt lt) od cd i.toNat) → (10 - i).toNat < fu → ∀ (H : Heap) (locs : List Loc), va_P D vwCl [oM mo rn sn co bp ag pn, ai (cy 0) (mo 1) 98 (stF lt mn pt tk mr od rm B)] H → va_D A [oM mo rn sn co bp ag pn, ai (cy 0) (mo 1) 98 (stF lt mn pt tk mr od rm B)] → va_S A s.heap H locs → ∀ (ls : Array Slot), lv_has ls 3 [(0, .ref (mo 0)), (1, .int (iI x)), (2, .int (iI i))] → W p l e rm_X6_dense s m args below meth c H locs 0 0 Q (F0 m 4 ls []) := by
    intro fu
    induction fu with
    | zero =>
      intro x i B h1 h2 h3 hm
      exact absurd hm (Nat.not_lt_zero _)
    | succ fu ih_4 =>
      intro x i B h1 h2 h3 hm H locs hP hD hS ls hl
      have hx0 := denN_b (hasI pt lt) od i.toNat
      refine lv_iload_n hx hb dX6_dense_4 rfl (lv_at hl 2 rfl) ?_
      refine r_bip hx hb (10) dX6_dense_5 (by decide) ?_
      refine r_ge hx hb 51 dX6_dense_7 (by decide) ⟨by omega, by omega⟩ ⟨by omega, by omega⟩ (fun c_7 => ?_) (fun c_7 => ?_)
      ·
        refine lv_iload_n hx hb dX6_dense_51 rfl (lv_at hl 1 rfl) ?_
        obtain rfl : i = 10 := by omega
        subst h3
        exact hret [0, 1] () dX6_dense_52 hP hD hS (by decide) rfl (h2)
      ·
        refine lv_aload_n hx hb dX6_dense_10 rfl (lv_at hl 0 rfl) ?_
        refine lv_aload_n hx hb dX6_dense_11 rfl (lv_at hl 0 rfl) ?_
        refine va_get (D := D) (C := RX6) (T := TX6) (N := 16) (ci := 6) (v := .ref (mo 1)) hx hb hts iw_X6_dense_6 hown hK hP 0 rfl rfl 0 (by decide) (hts _ fl_X6_dense_7) (fun _ h9 => h9) rfl dX6_dense_12 ?_
        refine r_const hx hb dX6_dense_15 ?_
        refine lv_iload_n hx hb dX6_dense_16 rfl (lv_at hl 2 rfl) ?_
        refine r_add hx hb dX6_dense_17 ?_
        refine r_ald hx hb hK hP 1 rfl rfl ⟨by omega, by omega, by omega⟩ dX6_dense_18 ?_
        refine r_top (od i) (stF_od (by omega) (by omega) (by omega)) ?_
        have b_18 := hod i
        have M_19 := k_X6_isUsed l D cy mo H.size rn sn co bp ag pn lt mn pt tk mr od pl rm B (od i) (⟨⟨hlt0, hlt1⟩, hpt⟩) (⟨by omega, by omega⟩)
        refine kV_i (wr := []) (As := [.int (iI (od i))]) (rest := []) (q := (RX6, TX6, 16)) (ci := 6) ⟨hx, hb, hml, hown, hts⟩ M_19 0 rfl rfl (cwV 1 hts gX6_dense_X6_isUsed rfl rfl rfl (by decide +kernel) ⟨Nat.le_of_ble_eq_true rfl, Nat.le_of_ble_eq_true rfl⟩) hN hK hP hD hS hA [0, 1] [] rfl rfl (by decide) (by decide) (by decide) rfl hl.1 rfl (Nat.le_of_ble_eq_true rfl) dX6_dense_19 ⟨Nat.le_of_ble_eq_true rfl, Nat.le_of_ble_eq_true rfl⟩ (fun r_19 u_19 H locs hw_19 hP hD hS => ?_)
        replace hP : va_P D vwCl [oM mo rn sn co bp ag pn, ai (cy 0) (mo 1) 98 (stF lt mn pt tk mr od rm B)] H := hP
        replace hD : va_D A [oM mo rn sn co bp ag pn, ai (cy 0) (mo 1) 98 (stF lt mn pt tk mr od rm B)] := hD
        have hb0 := hasI_b pt lt (od i)
        refine r_eq0 hx hb 45 dX6_dense_22 (by decide) ⟨by omega, by omega⟩ (fun c_22 => ?_) (fun c_22 => ?_)
        ·
          refine r_inc (k := 2) (lv' := [(2, .int (iI (i + 1))), (0, .ref (mo 0)), (1, .int (iI x))]) hx hb dX6_dense_45 hl rfl (by decide) rfl (fun ls hl => ?_)
          refine lv_goto (tgt := 4) hx hb dX6_dense_48 (by decide) ?_
          have hb1 := hasI_b pt lt (od i)
          exact ih_4 x (i + 1) B (by omega) (by rw [denN_s h1.1]; split <;> omega) (by rw [denC_s h1.1]; split <;> first | (rw [h3, h2]; done) | (exact h3) | omega) (by omega) H locs (pick_P hP (is := [0, 1]) rfl) (hD.sub [0, 1] (by decide) rfl) hS ls (lv_sub hl [1, 2, 0] rfl)
        ·
          refine lv_aload_n hx hb dX6_dense_25 rfl (lv_at hl 0 rfl) ?_
          refine va_get (D := D) (C := RX6) (T := TX6) (N := 16) (ci := 6) (v := .ref (mo 1)) hx hb hts iw_X6_dense_6 hown hK hP 0 rfl rfl 0 (by decide) (hts _ fl_X6_dense_7) (fun _ h9 => h9) rfl dX6_dense_26 ?_
          refine r_bip hx hb (10) dX6_dense_29 (by decide) ?_
          refine lv_aload_n hx hb dX6_dense_31 rfl (lv_at hl 0 rfl) ?_
          refine va_get (D := D) (C := RX6) (T := TX6) (N := 16) (ci := 6) (v := .ref (mo 1)) hx hb hts iw_X6_dense_6 hown hK hP 0 rfl rfl 0 (by decide) (hts _ fl_X6_dense_7) (fun _ h9 => h9) rfl dX6_dense_32 ?_
          refine r_const hx hb dX6_dense_35 ?_
          refine lv_iload_n hx hb dX6_dense_36 rfl (lv_at hl 2 rfl) ?_
          refine r_add hx hb dX6_dense_37 ?_
          refine r_ald hx hb hK hP 1 rfl rfl ⟨by omega, by omega, by omega⟩ dX6_dense_38 ?_
          refine r_top (od i) (stF_od (by omega) (by omega) (by omega)) ?_
          have b_38 := hod i
          refine r_add hx hb dX6_dense_39 ?_
          refine lv_iload_n hx hb dX6_dense_40 rfl (lv_at hl 1 rfl) ?_
          refine r_ast hx hb hK hP hD hS 1 rfl rfl ⟨by omega, by omega, by omega⟩ dX6_dense_41 (fun H locs hP hD hS => ?_)
          rw [show ud (stF lt mn pt tk mr od rm B) (10 + (od i)) x = stF lt mn pt tk mr od rm (ud B (od i) x) from stU_cd (by omega) (by omega) (by omega)] at hP hD
          replace hP : va_P D vwCl [oM mo rn sn co bp ag pn, ai (cy 0) (mo 1) 98 (stF lt mn pt tk mr od rm (ud B (od i) x))] H := hP
          replace hD : va_D A [oM mo rn sn co bp ag pn, ai (cy 0) (mo 1) 98 (stF lt mn pt tk mr od rm (ud B (od i) x))] := hD
          refine r_inc (k := 1) (lv' := [(1, .int (iI (x + 1))), (0, .ref (mo 0)), (2, .int (iI i))]) hx hb dX6_dense_42 hl rfl (by decide) rfl (fun ls hl => ?_)
          refine r_inc (k := 2) (lv' := [(2, .int (iI (i + 1))), (1, .int (iI (x + 1))), (0, .ref (mo 0))]) hx hb dX6_dense_45 hl rfl (by decide) rfl (fun ls hl => ?_)
          refine lv_goto (tgt := 4) hx hb dX6_dense_48 (by decide) ?_
          have hb1 := hasI_b pt lt (od i)
          exact ih_4 (x + 1) (i + 1) (ud B (od i) x) (by omega) (by rw [denN_s h1.1]; split <;> omega) (by rw [denC_s h1.1]; split <;> first | (rw [h3, h2]; done) | (exact h3) | omega) (by omega) H locs (pick_P hP (is := [0, 1]) rfl) (hD.sub [0, 1] (by decide) rfl) hS ls (lv_sub hl [2, 1, 0] rfl)
  exact lp_4 _ 0 0 cd (by omega) (rfl) (rfl) (Nat.lt_succ_self _) H locs (pick_P hP (is := [0, 1]) rfl) (hD.sub [0, 1] (by decide) rfl) hS ls (lv_sub hl [2, 1, 0] rfl)
abbrev rm_X6_of : Room := { frames := 2, cells := 0, slots := 0, locals := 43 }
theorem fl_X6_of_7 : Cond.fieldLink RX6 7 "WalkPassesModel" "state" "[I" ∈ wsX6_of := by decide +kernel
theorem iw_X6_of_6 : ∀ w ∈ u_ws RX6 TX6 16, w ∈ wsX6_of := by decide +kernel
set_option maxHeartbeats 4000000 in
set_option maxRecDepth 100000 in
theorem k_X6_of (l : Launch) (D : va_G) (cy : Nat → ClassId) (mo : Nat → Nat) (z : Nat) (rn sn co bp ag pn : Int) (lt mn : Int) (pt tk mr od pl rm cd : Int → Int) (i v : Int) (hI : DI lt mn pt tk mr od pl rm cd) (hi : inR i) (hv : inR v) : CtI l yX6_of wsX6_of rm_X6_of D (tyL cy) [.ref (mo 0), .int (iI i), .int (iI v)] [oM mo rn sn co bp ag pn, ai (cy 0) (mo 1) 98 (stF lt mn pt tk mr od rm cd)] z (fun (r : Int) (u : Unit) => r = fOf lt pt tk mr i v) (fun (u : Unit) => [oM mo rn sn co bp ag pn, ai (cy 0) (mo 1) 98 (stF lt mn pt tk mr od rm cd)]) 0 0 := by
  refine ct_i (cc := cX6_of) (maxL := 3) (by decide) rfl (Nat.le_of_ble_eq_true rfl) ?_
  intro p e s m args below meth c A Q H locs ls hx hb hml hown hin hts hK hN hP hD hS hA hl hret
  replace hl : lv_has ls 3 [(0, .ref (mo 0)), (1, .int (iI i)), (2, .int (iI v))] := hl
  replace hown : s.vm.findClass RX6 = some m.cls := hown
  obtain ⟨⟨⟨hlt0, hlt1⟩, hmn0, hmn1⟩, ⟨hpt, htk, hmr⟩, ⟨hod, hpl, hpo, hop⟩, hrm, hcd⟩ := id hI
  refine lv_aload_n hx hb dX6_of_0 rfl (lv_at hl 0 rfl) ?_
  refine lv_iload_n hx hb dX6_of_1 rfl (lv_at hl 1 rfl) ?_
  have M_2 := k_X6_isLetter l D cy mo H.size rn sn co bp ag pn lt mn pt tk mr od pl rm cd i (by omega) (hi)
  refine kV_i (wr := []) (As := [.int (iI i)]) (rest := []) (q := (RX6, TX6, 16)) (ci := 6) ⟨hx, hb, hml, hown, hts⟩ M_2 0 rfl rfl (cwV 1 hts gX6_of_X6_isLetter rfl rfl rfl (by decide +kernel) ⟨Nat.le_of_ble_eq_true rfl, Nat.le_of_ble_eq_true rfl⟩) hN hK hP hD hS hA [0, 1] [] rfl rfl (by decide) (by decide) (by decide) rfl hl.1 rfl (Nat.le_of_ble_eq_true rfl) dX6_of_2 ⟨Nat.le_of_ble_eq_true rfl, Nat.le_of_ble_eq_true rfl⟩ (fun r_2 u_2 H locs hw_2 hP hD hS => ?_)
  replace hP : va_P D vwCl [oM mo rn sn co bp ag pn, ai (cy 0) (mo 1) 98 (stF lt mn pt tk mr od rm cd)] H := hP
  replace hD : va_D A [oM mo rn sn co bp ag pn, ai (cy 0) (mo 1) 98 (stF lt mn pt tk mr od rm cd)] := hD
  refine r_ne0 hx hb 10 dX6_of_5 (by decide) ⟨by omega, by omega⟩ (fun c_5 => ?_) (fun c_5 => ?_)
  ·
    refine lv_iload_n hx hb dX6_of_10 rfl (lv_at hl 2 rfl) ?_
    refine r_ne0 hx hb 26 dX6_of_11 (by decide) ⟨by omega, by omega⟩ (fun c_11 => ?_) (fun c_11 => ?_)
    ·
      refine lv_iload_n hx hb dX6_of_26 rfl (lv_at hl 2 rfl) ?_
      refine r_const hx hb dX6_of_27 ?_
      refine r_ne hx hb 43 dX6_of_28 (by decide) ⟨by omega, by omega⟩ ⟨by omega, by omega⟩ (fun c_28 => ?_) (fun c_28 => ?_)
      ·
        refine lv_iload_n hx hb dX6_of_43 rfl (lv_at hl 2 rfl) ?_
        refine r_const hx hb dX6_of_44 ?_
        refine r_ne hx hb 60 dX6_of_45 (by decide) ⟨by omega, by omega⟩ ⟨by omega, by omega⟩ (fun c_45 => ?_) (fun c_45 => ?_)
        ·
          refine r_bip hx hb (-2) dX6_of_60 (by decide) ?_
          exact hret [0, 1] () dX6_of_62 hP hD hS (by decide) rfl (by unfold fOf; (repeat' split) <;> omega)
        ·
          refine lv_aload_n hx hb dX6_of_48 rfl (lv_at hl 0 rfl) ?_
          refine va_get (D := D) (C := RX6) (T := TX6) (N := 16) (ci := 6) (v := .ref (mo 1)) hx hb hts iw_X6_of_6 hown hK hP 0 rfl rfl 0 (by decide) (hts _ fl_X6_of_7) (fun _ h9 => h9) rfl dX6_of_49 ?_
          refine r_bip hx hb (74) dX6_of_52 (by decide) ?_
          refine lv_iload_n hx hb dX6_of_54 rfl (lv_at hl 1 rfl) ?_
          refine r_add hx hb dX6_of_55 ?_
          refine r_ald hx hb hK hP 1 rfl rfl ⟨by omega, by omega, by omega⟩ dX6_of_56 ?_
          refine r_top (mr i) (stF_mr (by omega) (by omega) (by omega)) ?_
          refine lv_goto (tgt := 62) hx hb dX6_of_57 (by decide) ?_
          exact hret [0, 1] () dX6_of_62 hP hD hS (by decide) rfl (by unfold fOf; (repeat' split) <;> omega)
      ·
        refine lv_aload_n hx hb dX6_of_31 rfl (lv_at hl 0 rfl) ?_
        refine va_get (D := D) (C := RX6) (T := TX6) (N := 16) (ci := 6) (v := .ref (mo 1)) hx hb hts iw_X6_of_6 hown hK hP 0 rfl rfl 0 (by decide) (hts _ fl_X6_of_7) (fun _ h9 => h9) rfl dX6_of_32 ?_
        refine r_bip hx hb (50) dX6_of_35 (by decide) ?_
        refine lv_iload_n hx hb dX6_of_37 rfl (lv_at hl 1 rfl) ?_
        refine r_add hx hb dX6_of_38 ?_
        refine r_ald hx hb hK hP 1 rfl rfl ⟨by omega, by omega, by omega⟩ dX6_of_39 ?_
        refine r_top (tk i) (stF_tk (by omega) (by omega) (by omega)) ?_
        refine lv_goto (tgt := 62) hx hb dX6_of_40 (by decide) ?_
        exact hret [0, 1] () dX6_of_62 hP hD hS (by decide) rfl (by unfold fOf; (repeat' split) <;> omega)
    ·
      refine lv_aload_n hx hb dX6_of_14 rfl (lv_at hl 0 rfl) ?_
      refine va_get (D := D) (C := RX6) (T := TX6) (N := 16) (ci := 6) (v := .ref (mo 1)) hx hb hts iw_X6_of_6 hown hK hP 0 rfl rfl 0 (by decide) (hts _ fl_X6_of_7) (fun _ h9 => h9) rfl dX6_of_15 ?_
      refine r_bip hx hb (26) dX6_of_18 (by decide) ?_
      refine lv_iload_n hx hb dX6_of_20 rfl (lv_at hl 1 rfl) ?_
      refine r_add hx hb dX6_of_21 ?_
      refine r_ald hx hb hK hP 1 rfl rfl ⟨by omega, by omega, by omega⟩ dX6_of_22 ?_
      refine r_top (pt i) (stF_pt (by omega) (by omega) (by omega)) ?_
      refine lv_goto (tgt := 62) hx hb dX6_of_23 (by decide) ?_
      exact hret [0, 1] () dX6_of_62 hP hD hS (by decide) rfl (by unfold fOf; (repeat' split) <;> omega)
  ·
    refine r_const hx hb dX6_of_8 ?_
    exact hret [0, 1] () dX6_of_9 hP hD hS (by decide) rfl (by unfold fOf; (repeat' split) <;> omega)
abbrev rm_X6_figure : Room := { frames := 0, cells := 0, slots := 0, locals := 0 }
theorem fl_X6_figure_7 : Cond.fieldLink RX6 7 "WalkPassesModel" "state" "[I" ∈ wsX6_figure := by decide +kernel
theorem iw_X6_figure_6 : ∀ w ∈ u_ws RX6 TX6 16, w ∈ wsX6_figure := by decide +kernel
set_option maxHeartbeats 4000000 in
set_option maxRecDepth 100000 in
theorem k_X6_figure (l : Launch) (D : va_G) (cy : Nat → ClassId) (mo : Nat → Nat) (z : Nat) (rn sn co bp ag pn : Int) (lt mn : Int) (pt tk mr od pl rm cd : Int → Int) (cc ps : Int) (hmn : 2 ≤ mn ∧ mn ≤ 4) (hc : 0 ≤ cc ∧ cc ≤ 63) (hp : 1 ≤ ps ∧ ps ≤ 3) : CtI l yX6_figure wsX6_figure rm_X6_figure D (tyL cy) [.ref (mo 0), .int (iI cc), .int (iI ps)] [oM mo rn sn co bp ag pn, ai (cy 0) (mo 1) 98 (stF lt mn pt tk mr od rm cd)] z (fun (r : Int) (u : Unit) => r = cc / pw mn (ps - 1).toNat % mn ∧ 0 ≤ r ∧ r < mn) (fun (u : Unit) => [oM mo rn sn co bp ag pn, ai (cy 0) (mo 1) 98 (stF lt mn pt tk mr od rm cd)]) 0 0 := by
  refine ct_i (cc := cX6_figure) (maxL := 5) (by decide) rfl (Nat.le_of_ble_eq_true rfl) ?_
  intro p e s m args below meth c A Q H locs ls hx hb hml hown hin hts hK hN hP hD hS hA hl hret
  replace hl : lv_has ls 5 [(0, .ref (mo 0)), (1, .int (iI cc)), (2, .int (iI ps))] := hl
  replace hown : s.vm.findClass RX6 = some m.cls := hown
  refine lv_iload_n hx hb dX6_figure_0 rfl (lv_at hl 1 rfl) ?_
  refine lv_istore_n (lv' := [(3, .int (iI cc)), (0, .ref (mo 0)), (1, .int (iI cc)), (2, .int (iI ps))]) hx hb dX6_figure_1 rfl hl (by decide) rfl (fun ls hl => ?_)
  refine r_const hx hb dX6_figure_2 ?_
  refine lv_istore (lv' := [(4, .int (iI 1)), (3, .int (iI cc)), (0, .ref (mo 0)), (1, .int (iI cc)), (2, .int (iI ps))]) hx hb dX6_figure_3 hl (by decide) rfl (fun ls hl => ?_)
  have lp_5 : ∀ (fu : Nat) (x : Int) (j : Int), (1 ≤ j ∧ j ≤ ps) → (x = cc / pw mn (j - 1).toNat) → (0 ≤ x ∧ x ≤ 63) → (ps - j).toNat < fu → ∀ (H : Heap) (locs : List Loc), va_P D vwCl [oM mo rn sn co bp ag pn, ai (cy 0) (mo 1) 98 (stF lt mn pt tk mr od rm cd)] H → va_D A [oM mo rn sn co bp ag pn, ai (cy 0) (mo 1) 98 (stF lt mn pt tk mr od rm cd)] → va_S A s.heap H locs → ∀ (ls : Array Slot), lv_has ls 5 [(0, .ref (mo 0)), (1, .int (iI cc)), (2, .int (iI ps)), (3, .int (iI x)), (4, .int (iI j))] → W p l e rm_X6_figure s m args below meth c H locs 0 0 Q (F0 m 5 ls []) := by
    intro fu
    induction fu with
    | zero =>
      intro x j h1 h2 h3 hm
      exact absurd hm (Nat.not_lt_zero _)
    | succ fu ih_5 =>
      intro x j h1 h2 h3 hm H locs hP hD hS ls hl
      refine lv_iload hx hb dX6_figure_5 (lv_at hl 4 rfl) ?_
      refine lv_iload_n hx hb dX6_figure_7 rfl (lv_at hl 2 rfl) ?_
      refine r_ge hx hb 27 dX6_figure_8 (by decide) ⟨by omega, by omega⟩ ⟨by omega, by omega⟩ (fun c_8 => ?_) (fun c_8 => ?_)
      ·
        refine lv_iload_n hx hb dX6_figure_27 rfl (lv_at hl 3 rfl) ?_
        refine lv_aload_n hx hb dX6_figure_28 rfl (lv_at hl 0 rfl) ?_
        refine va_get (D := D) (C := RX6) (T := TX6) (N := 16) (ci := 6) (v := .ref (mo 1)) hx hb hts iw_X6_figure_6 hown hK hP 0 rfl rfl 0 (by decide) (hts _ fl_X6_figure_7) (fun _ h9 => h9) rfl dX6_figure_29 ?_
        refine r_bip hx hb (24) dX6_figure_32 (by decide) ?_
        refine r_ald hx hb hK hP 1 rfl rfl ⟨by omega, by omega, by omega⟩ dX6_figure_34 ?_
        refine r_top (mn) (stF_mn (by omega)) ?_
        refine r_rem hx hb dX6_figure_35 ⟨⟨by omega, by omega⟩, by omega, by omega⟩ ?_
        exact hret [0, 1] () dX6_figure_36 hP hD hS (by decide) rfl (by rw [show (ps - 1).toNat = (j - 1).toNat by omega, ← h2]; exact ⟨rfl, Int.emod_nonneg _ (by omega), Int.emod_lt_of_pos _ (by omega)⟩)
      ·
        refine lv_iload_n hx hb dX6_figure_11 rfl (lv_at hl 3 rfl) ?_
        refine lv_aload_n hx hb dX6_figure_12 rfl (lv_at hl 0 rfl) ?_
        refine va_get (D := D) (C := RX6) (T := TX6) (N := 16) (ci := 6) (v := .ref (mo 1)) hx hb hts iw_X6_figure_6 hown hK hP 0 rfl rfl 0 (by decide) (hts _ fl_X6_figure_7) (fun _ h9 => h9) rfl dX6_figure_13 ?_
        refine r_bip hx hb (24) dX6_figure_16 (by decide) ?_
        refine r_ald hx hb hK hP 1 rfl rfl ⟨by omega, by omega, by omega⟩ dX6_figure_18 ?_
        refine r_top (mn) (stF_mn (by omega)) ?_
        refine r_div hx hb dX6_figure_19 ⟨⟨by omega, by omega⟩, by omega, by omega⟩ ?_
        refine lv_istore_n (lv' := [(3, .int (iI (x / mn))), (0, .ref (mo 0)), (1, .int (iI cc)), (2, .int (iI ps)), (4, .int (iI j))]) hx hb dX6_figure_20 rfl hl (by decide) rfl (fun ls hl => ?_)
        refine r_inc (k := 4) (lv' := [(4, .int (iI (j + 1))), (3, .int (iI (x / mn))), (0, .ref (mo 0)), (1, .int (iI cc)), (2, .int (iI ps))]) hx hb dX6_figure_21 hl rfl (by decide) rfl (fun ls hl => ?_)
        refine lv_goto (tgt := 5) hx hb dX6_figure_24 (by decide) ?_
        have hq1 : 0 ≤ x / mn := Int.ediv_nonneg h3.1 (by omega)
        have hq2 : x / mn ≤ x := Int.ediv_le_self _ h3.1
        exact ih_5 (x / mn) (j + 1) (by omega) (by rw [h2, fig_s hmn.1, show (j + 1 - 1).toNat = (j - 1).toNat + 1 by omega]) (by omega) (by omega) H locs (pick_P hP (is := [0, 1]) rfl) (hD.sub [0, 1] (by decide) rfl) hS ls (lv_sub hl [2, 3, 4, 1, 0] rfl)
  exact lp_5 _ cc 1 (by omega) (by show cc = cc / 1; omega) (by omega) (Nat.lt_succ_self _) H locs (pick_P hP (is := [0, 1]) rfl) (hD.sub [0, 1] (by decide) rfl) hS ls (lv_sub hl [2, 3, 4, 1, 0] rfl)
abbrev rm_X6_rise : Room := { frames := 1, cells := 0, slots := 0, locals := 23 }
theorem fl_X6_rise_7 : Cond.fieldLink RX6 7 "WalkPassesModel" "state" "[I" ∈ wsX6_rise := by decide +kernel
theorem iw_X6_rise_6 : ∀ w ∈ u_ws RX6 TX6 16, w ∈ wsX6_rise := by decide +kernel
set_option maxHeartbeats 4000000 in
set_option maxRecDepth 100000 in
theorem k_X6_rise (l : Launch) (D : va_G) (cy : Nat → ClassId) (mo : Nat → Nat) (z : Nat) (rn sn co bp ag pn : Int) (lt mn : Int) (pt tk mr od pl rm cd : Int → Int) (hI : DI lt mn pt tk mr od pl rm cd) : CtI l yX6_rise wsX6_rise rm_X6_rise D (tyL cy) [.ref (mo 0)] [oM mo rn sn co bp ag pn, ai (cy 0) (mo 1) 98 (stF lt mn pt tk mr od rm cd)] z (fun (r : Int) (u : Unit) => r = rise (hasI pt lt) od cd 10 0 (-1)) (fun (u : Unit) => [oM mo rn sn co bp ag pn, ai (cy 0) (mo 1) 98 (stF lt mn pt tk mr od rm cd)]) 0 0 := by
  refine ct_i (cc := cX6_rise) (maxL := 4) (by decide) rfl (Nat.le_of_ble_eq_true rfl) ?_
  intro p e s m args below meth c A Q H locs ls hx hb hml hown hin hts hK hN hP hD hS hA hl hret
  replace hl : lv_has ls 4 [(0, .ref (mo 0))] := hl
  replace hown : s.vm.findClass RX6 = some m.cls := hown
  obtain ⟨⟨⟨hlt0, hlt1⟩, hmn0, hmn1⟩, ⟨hpt, htk, hmr⟩, ⟨hod, hpl, hpo, hop⟩, hrm, hcd⟩ := id hI
  refine r_const hx hb dX6_rise_0 ?_
  refine lv_istore_n (lv' := [(1, .int (iI (-1))), (0, .ref (mo 0))]) hx hb dX6_rise_1 rfl hl (by decide) rfl (fun ls hl => ?_)
  refine r_const hx hb dX6_rise_2 ?_
  refine lv_istore_n (lv' := [(2, .int (iI 0)), (1, .int (iI (-1))), (0, .ref (mo 0))]) hx hb dX6_rise_3 rfl hl (by decide) rfl (fun ls hl => ?_)
  have lp_4 : ∀ (fu : Nat) (x : Int) (i : Int), (0 ≤ i ∧ i ≤ 10) → (-1 ≤ x ∧ x ≤ 63) → (rise (hasI pt lt) od cd (10 - i).toNat i x = rise (hasI pt lt) od cd 10 0 (-1)) → (10 - i).toNat < fu → ∀ (H : Heap) (locs : List Loc), va_P D vwCl [oM mo rn sn co bp ag pn, ai (cy 0) (mo 1) 98 (stF lt mn pt tk mr od rm cd)] H → va_D A [oM mo rn sn co bp ag pn, ai (cy 0) (mo 1) 98 (stF lt mn pt tk mr od rm cd)] → va_S A s.heap H locs → ∀ (ls : Array Slot), lv_has ls 4 [(0, .ref (mo 0)), (1, .int (iI x)), (2, .int (iI i))] → W p l e rm_X6_rise s m args below meth c H locs 0 0 Q (F0 m 4 ls []) := by
    intro fu
    induction fu with
    | zero =>
      intro x i h1 h3 h2 hm
      exact absurd hm (Nat.not_lt_zero _)
    | succ fu ih_4 =>
      intro x i h1 h3 h2 hm H locs hP hD hS ls hl
      refine lv_iload_n hx hb dX6_rise_4 rfl (lv_at hl 2 rfl) ?_
      refine r_bip hx hb (10) dX6_rise_5 (by decide) ?_
      refine r_ge hx hb 58 dX6_rise_7 (by decide) ⟨by omega, by omega⟩ ⟨by omega, by omega⟩ (fun c_7 => ?_) (fun c_7 => ?_)
      ·
        refine r_const hx hb dX6_rise_58 ?_
        exact hret [0, 1] () dX6_rise_59 hP hD hS (by decide) rfl (by rw [← h2, show (10 - i).toNat = 0 by omega]; rfl)
      ·
        refine lv_aload_n hx hb dX6_rise_10 rfl (lv_at hl 0 rfl) ?_
        refine va_get (D := D) (C := RX6) (T := TX6) (N := 16) (ci := 6) (v := .ref (mo 1)) hx hb hts iw_X6_rise_6 hown hK hP 0 rfl rfl 0 (by decide) (hts _ fl_X6_rise_7) (fun _ h9 => h9) rfl dX6_rise_11 ?_
        refine r_const hx hb dX6_rise_14 ?_
        refine lv_iload_n hx hb dX6_rise_15 rfl (lv_at hl 2 rfl) ?_
        refine r_add hx hb dX6_rise_16 ?_
        refine r_ald hx hb hK hP 1 rfl rfl ⟨by omega, by omega, by omega⟩ dX6_rise_17 ?_
        refine r_top (od i) (stF_od (by omega) (by omega) (by omega)) ?_
        have b_17 := hod i
        refine lv_istore_n (lv' := [(3, .int (iI (od i))), (0, .ref (mo 0)), (1, .int (iI x)), (2, .int (iI i))]) hx hb dX6_rise_18 rfl hl (by decide) rfl (fun ls hl => ?_)
        refine lv_aload_n hx hb dX6_rise_19 rfl (lv_at hl 1 rfl) ?_
        refine lv_iload_n hx hb dX6_rise_20 rfl (lv_at hl 0 rfl) ?_
        have M_21 := k_X6_isUsed l D cy mo H.size rn sn co bp ag pn lt mn pt tk mr od pl rm cd (od i) (⟨⟨hlt0, hlt1⟩, hpt⟩) (⟨by omega, by omega⟩)
        refine kV_i (wr := []) (As := [.int (iI (od i))]) (rest := []) (q := (RX6, TX6, 16)) (ci := 6) ⟨hx, hb, hml, hown, hts⟩ M_21 0 rfl rfl (cwV 1 hts gX6_rise_X6_isUsed rfl rfl rfl (by decide +kernel) ⟨Nat.le_of_ble_eq_true rfl, Nat.le_of_ble_eq_true rfl⟩) hN hK hP hD hS hA [0, 1] [] rfl rfl (by decide) (by decide) (by decide) rfl hl.1 rfl (Nat.le_of_ble_eq_true rfl) dX6_rise_21 ⟨Nat.le_of_ble_eq_true rfl, Nat.le_of_ble_eq_true rfl⟩ (fun r_21 u_21 H locs hw_21 hP hD hS => ?_)
        replace hP : va_P D vwCl [oM mo rn sn co bp ag pn, ai (cy 0) (mo 1) 98 (stF lt mn pt tk mr od rm cd)] H := hP
        replace hD : va_D A [oM mo rn sn co bp ag pn, ai (cy 0) (mo 1) 98 (stF lt mn pt tk mr od rm cd)] := hD
        have hb0 := hasI_b pt lt (od i)
        refine r_eq0 hx hb 52 dX6_rise_24 (by decide) ⟨by omega, by omega⟩ (fun c_24 => ?_) (fun c_24 => ?_)
        ·
          refine r_inc (k := 3) (lv' := [(2, .int (iI (i + 1))), (3, .int (iI (od i))), (0, .ref (mo 0)), (1, .int (iI x))]) hx hb dX6_rise_52 hl rfl (by decide) rfl (fun ls hl => ?_)
          refine lv_goto (tgt := 4) hx hb dX6_rise_55 (by decide) ?_
          exact ih_4 x (i + 1) (by omega) (by omega) (by have h9 := rise_s (hs := hasI pt lt) (od := od) (cd := cd) (i := i) (a := x) (by omega); rw [h2] at h9; rw [h9]; split <;> first | rfl | (split <;> first | rfl | omega) | omega) (by omega) H locs (pick_P hP (is := [0, 1]) rfl) (hD.sub [0, 1] (by decide) rfl) hS ls (lv_sub hl [2, 3, 0] rfl)
        ·
          refine lv_aload_n hx hb dX6_rise_27 rfl (lv_at hl 1 rfl) ?_
          refine va_get (D := D) (C := RX6) (T := TX6) (N := 16) (ci := 6) (v := .ref (mo 1)) hx hb hts iw_X6_rise_6 hown hK hP 0 rfl rfl 0 (by decide) (hts _ fl_X6_rise_7) (fun _ h9 => h9) rfl dX6_rise_28 ?_
          refine r_bip hx hb (10) dX6_rise_31 (by decide) ?_
          refine lv_iload_n hx hb dX6_rise_33 rfl (lv_at hl 0 rfl) ?_
          refine r_add hx hb dX6_rise_34 ?_
          refine r_ald hx hb hK hP 1 rfl rfl ⟨by omega, by omega, by omega⟩ dX6_rise_35 ?_
          refine r_top (cd (od i)) (stF_cd (by omega) (by omega) (by omega)) ?_
          have b_35 := hcd (od i)
          refine lv_iload_n hx hb dX6_rise_36 rfl (lv_at hl 2 rfl) ?_
          refine r_gt hx hb 42 dX6_rise_37 (by decide) ⟨by omega, by omega⟩ ⟨by omega, by omega⟩ (fun c_37 => ?_) (fun c_37 => ?_)
          ·
            refine lv_aload_n hx hb dX6_rise_42 rfl (lv_at hl 1 rfl) ?_
            refine va_get (D := D) (C := RX6) (T := TX6) (N := 16) (ci := 6) (v := .ref (mo 1)) hx hb hts iw_X6_rise_6 hown hK hP 0 rfl rfl 0 (by decide) (hts _ fl_X6_rise_7) (fun _ h9 => h9) rfl dX6_rise_43 ?_
            refine r_bip hx hb (10) dX6_rise_46 (by decide) ?_
            refine lv_iload_n hx hb dX6_rise_48 rfl (lv_at hl 0 rfl) ?_
            refine r_add hx hb dX6_rise_49 ?_
            refine r_ald hx hb hK hP 1 rfl rfl ⟨by omega, by omega, by omega⟩ dX6_rise_50 ?_
            refine r_top (cd (od i)) (stF_cd (by omega) (by omega) (by omega)) ?_
            have b_50 := hcd (od i)
            refine lv_istore_n (lv' := [(1, .int (iI (cd (od i)))), (3, .int (iI (od i))), (0, .ref (mo 0)), (2, .int (iI i))]) hx hb dX6_rise_51 rfl hl (by decide) rfl (fun ls hl => ?_)
            refine r_inc (k := 3) (lv' := [(2, .int (iI (i + 1))), (1, .int (iI (cd (od i)))), (3, .int (iI (od i))), (0, .ref (mo 0))]) hx hb dX6_rise_52 hl rfl (by decide) rfl (fun ls hl => ?_)
            refine lv_goto (tgt := 4) hx hb dX6_rise_55 (by decide) ?_
            exact ih_4 (cd (od i)) (i + 1) (by omega) (by omega) (by have h9 := rise_s (hs := hasI pt lt) (od := od) (cd := cd) (i := i) (a := x) (by omega); rw [h2] at h9; rw [h9]; split <;> first | rfl | (split <;> first | rfl | omega) | omega) (by omega) H locs (pick_P hP (is := [0, 1]) rfl) (hD.sub [0, 1] (by decide) rfl) hS ls (lv_sub hl [3, 1, 0] rfl)
          ·
            refine r_const hx hb dX6_rise_40 ?_
            exact hret [0, 1] () dX6_rise_41 hP hD hS (by decide) rfl (by rw [← h2, rise_s (by omega), if_pos (by omega), if_pos (by omega)])
  exact lp_4 _ (-1) 0 (by omega) (by omega) (rfl) (Nat.lt_succ_self _) H locs (pick_P hP (is := [0, 1]) rfl) (hD.sub [0, 1] (by decide) rfl) hS ls (lv_sub hl [2, 1, 0] rfl)
abbrev rm_X6_power : Room := { frames := 0, cells := 0, slots := 0, locals := 0 }
theorem fl_X6_power_7 : Cond.fieldLink RX6 7 "WalkPassesModel" "state" "[I" ∈ wsX6_power := by decide +kernel
theorem iw_X6_power_6 : ∀ w ∈ u_ws RX6 TX6 16, w ∈ wsX6_power := by decide +kernel
set_option maxHeartbeats 4000000 in
set_option maxRecDepth 100000 in
theorem k_X6_power (l : Launch) (D : va_G) (cy : Nat → ClassId) (mo : Nat → Nat) (z : Nat) (rn sn co bp ag pn : Int) (lt mn : Int) (pt tk mr od pl rm cd : Int → Int) (k : Int) (hk : 0 ≤ k ∧ k ≤ 3) : CtI l yX6_power wsX6_power rm_X6_power D (tyL cy) [.ref (mo 0), .int (iI k)] [oM mo rn sn co bp ag pn, ai (cy 0) (mo 1) 98 (stF lt mn pt tk mr od rm cd)] z (fun (r : Int) (u : Unit) => r = pw mn k.toNat) (fun (u : Unit) => [oM mo rn sn co bp ag pn, ai (cy 0) (mo 1) 98 (stF lt mn pt tk mr od rm cd)]) 0 0 := by
  refine ct_i (cc := cX6_power) (maxL := 4) (by decide) rfl (Nat.le_of_ble_eq_true rfl) ?_
  intro p e s m args below meth c A Q H locs ls hx hb hml hown hin hts hK hN hP hD hS hA hl hret
  replace hl : lv_has ls 4 [(0, .ref (mo 0)), (1, .int (iI k))] := hl
  replace hown : s.vm.findClass RX6 = some m.cls := hown
  refine r_const hx hb dX6_power_0 ?_
  refine lv_istore_n (lv' := [(2, .int (iI 1)), (0, .ref (mo 0)), (1, .int (iI k))]) hx hb dX6_power_1 rfl hl (by decide) rfl (fun ls hl => ?_)
  refine r_const hx hb dX6_power_2 ?_
  refine lv_istore_n (lv' := [(3, .int (iI 0)), (2, .int (iI 1)), (0, .ref (mo 0)), (1, .int (iI k))]) hx hb dX6_power_3 rfl hl (by decide) rfl (fun ls hl => ?_)
  have lp_4 : ∀ (fu : Nat) (g : Int) (i : Int), (0 ≤ i ∧ i ≤ k) → (g = pw mn i.toNat) → (k - i).toNat < fu → ∀ (H : Heap) (locs : List Loc), va_P D vwCl [oM mo rn sn co bp ag pn, ai (cy 0) (mo 1) 98 (stF lt mn pt tk mr od rm cd)] H → va_D A [oM mo rn sn co bp ag pn, ai (cy 0) (mo 1) 98 (stF lt mn pt tk mr od rm cd)] → va_S A s.heap H locs → ∀ (ls : Array Slot), lv_has ls 4 [(0, .ref (mo 0)), (1, .int (iI k)), (2, .int (iI g)), (3, .int (iI i))] → W p l e rm_X6_power s m args below meth c H locs 0 0 Q (F0 m 4 ls []) := by
    intro fu
    induction fu with
    | zero =>
      intro g i h1 h2 hm
      exact absurd hm (Nat.not_lt_zero _)
    | succ fu ih_4 =>
      intro g i h1 h2 hm H locs hP hD hS ls hl
      refine lv_iload_n hx hb dX6_power_4 rfl (lv_at hl 3 rfl) ?_
      refine lv_iload_n hx hb dX6_power_5 rfl (lv_at hl 1 rfl) ?_
      refine r_ge hx hb 25 dX6_power_6 (by decide) ⟨by omega, by omega⟩ ⟨by omega, by omega⟩ (fun c_6 => ?_) (fun c_6 => ?_)
      ·
        refine lv_iload_n hx hb dX6_power_25 rfl (lv_at hl 2 rfl) ?_
        exact hret [0, 1] () dX6_power_26 hP hD hS (by decide) rfl (by rw [h2, show i = k by omega])
      ·
        refine lv_iload_n hx hb dX6_power_9 rfl (lv_at hl 2 rfl) ?_
        refine lv_aload_n hx hb dX6_power_10 rfl (lv_at hl 0 rfl) ?_
        refine va_get (D := D) (C := RX6) (T := TX6) (N := 16) (ci := 6) (v := .ref (mo 1)) hx hb hts iw_X6_power_6 hown hK hP 0 rfl rfl 0 (by decide) (hts _ fl_X6_power_7) (fun _ h9 => h9) rfl dX6_power_11 ?_
        refine r_bip hx hb (24) dX6_power_14 (by decide) ?_
        refine r_ald hx hb hK hP 1 rfl rfl ⟨by omega, by omega, by omega⟩ dX6_power_16 ?_
        refine r_top (mn) (stF_mn (by omega)) ?_
        refine r_mul hx hb dX6_power_17 ?_
        refine lv_istore_n (lv' := [(2, .int (iI (g * mn))), (0, .ref (mo 0)), (1, .int (iI k)), (3, .int (iI i))]) hx hb dX6_power_18 rfl hl (by decide) rfl (fun ls hl => ?_)
        refine r_inc (k := 3) (lv' := [(3, .int (iI (i + 1))), (2, .int (iI (g * mn))), (0, .ref (mo 0)), (1, .int (iI k))]) hx hb dX6_power_19 hl rfl (by decide) rfl (fun ls hl => ?_)
        refine lv_goto (tgt := 4) hx hb dX6_power_22 (by decide) ?_
        exact ih_4 (g * mn) (i + 1) (by omega) (by rw [pw_s h1.1, h2]) (by omega) H locs (pick_P hP (is := [0, 1]) rfl) (hD.sub [0, 1] (by decide) rfl) hS ls (lv_sub hl [2, 3, 1, 0] rfl)
  exact lp_4 _ 1 0 (by omega) (rfl) (Nat.lt_succ_self _) H locs (pick_P hP (is := [0, 1]) rfl) (hD.sub [0, 1] (by decide) rfl) hS ls (lv_sub hl [2, 3, 1, 0] rfl)
abbrev rm_X6_usedMany : Room := { frames := 1, cells := 0, slots := 0, locals := 23 }
set_option maxHeartbeats 4000000 in
set_option maxRecDepth 100000 in
theorem k_X6_usedMany (l : Launch) (D : va_G) (cy : Nat → ClassId) (mo : Nat → Nat) (z : Nat) (rn sn co bp ag pn : Int) (lt mn : Int) (pt tk mr od pl rm cd : Int → Int) (hL : (0 ≤ lt ∧ lt ≤ 24) ∧ ∀ j, 0 ≤ pt j ∧ pt j ≤ 9) : CtI l yX6_usedMany wsX6_usedMany rm_X6_usedMany D (tyL cy) [.ref (mo 0)] [oM mo rn sn co bp ag pn, ai (cy 0) (mo 1) 98 (stF lt mn pt tk mr od rm cd)] z (fun (r : Int) (u : Unit) => r = sumTo (hasI pt lt) 10) (fun (u : Unit) => [oM mo rn sn co bp ag pn, ai (cy 0) (mo 1) 98 (stF lt mn pt tk mr od rm cd)]) 0 0 := by
  refine ct_i (cc := cX6_usedMany) (maxL := 3) (by decide) rfl (Nat.le_of_ble_eq_true rfl) ?_
  intro p e s m args below meth c A Q H locs ls hx hb hml hown hin hts hK hN hP hD hS hA hl hret
  replace hl : lv_has ls 3 [(0, .ref (mo 0))] := hl
  replace hown : s.vm.findClass RX6 = some m.cls := hown
  obtain ⟨⟨hlt0, hlt1⟩, hpt⟩ := id hL
  refine r_const hx hb dX6_usedMany_0 ?_
  refine lv_istore_n (lv' := [(1, .int (iI 0)), (0, .ref (mo 0))]) hx hb dX6_usedMany_1 rfl hl (by decide) rfl (fun ls hl => ?_)
  refine r_const hx hb dX6_usedMany_2 ?_
  refine lv_istore_n (lv' := [(2, .int (iI 0)), (1, .int (iI 0)), (0, .ref (mo 0))]) hx hb dX6_usedMany_3 rfl hl (by decide) rfl (fun ls hl => ?_)
  have lp_4 : ∀ (fu : Nat) (g : Int) (i : Int), (0 ≤ i ∧ i ≤ 10) → (g = sumTo (hasI pt lt) i.toNat) → (10 - i).toNat < fu → ∀ (H : Heap) (locs : List Loc), va_P D vwCl [oM mo rn sn co bp ag pn, ai (cy 0) (mo 1) 98 (stF lt mn pt tk mr od rm cd)] H → va_D A [oM mo rn sn co bp ag pn, ai (cy 0) (mo 1) 98 (stF lt mn pt tk mr od rm cd)] → va_S A s.heap H locs → ∀ (ls : Array Slot), lv_has ls 3 [(0, .ref (mo 0)), (1, .int (iI g)), (2, .int (iI i))] → W p l e rm_X6_usedMany s m args below meth c H locs 0 0 Q (F0 m 4 ls []) := by
    intro fu
    induction fu with
    | zero =>
      intro g i h1 h2 hm
      exact absurd hm (Nat.not_lt_zero _)
    | succ fu ih_4 =>
      intro g i h1 h2 hm H locs hP hD hS ls hl
      refine lv_iload_n hx hb dX6_usedMany_4 rfl (lv_at hl 2 rfl) ?_
      refine r_bip hx hb (10) dX6_usedMany_5 (by decide) ?_
      refine r_ge hx hb 32 dX6_usedMany_7 (by decide) ⟨by omega, by omega⟩ ⟨by omega, by omega⟩ (fun c_7 => ?_) (fun c_7 => ?_)
      ·
        refine lv_iload_n hx hb dX6_usedMany_32 rfl (lv_at hl 1 rfl) ?_
        exact hret [0, 1] () dX6_usedMany_33 hP hD hS (by decide) rfl (by rw [h2, show i = 10 by omega]; rfl)
      ·
        refine lv_iload_n hx hb dX6_usedMany_10 rfl (lv_at hl 1 rfl) ?_
        refine lv_aload_n hx hb dX6_usedMany_11 rfl (lv_at hl 0 rfl) ?_
        refine lv_iload_n hx hb dX6_usedMany_12 rfl (lv_at hl 2 rfl) ?_
        have M_13 := k_X6_isUsed l D cy mo H.size rn sn co bp ag pn lt mn pt tk mr od pl rm cd i (⟨⟨hlt0, hlt1⟩, hpt⟩) (⟨by omega, by omega⟩)
        refine kV_i (wr := []) (As := [.int (iI i)]) (rest := [.int (iI g)]) (q := (RX6, TX6, 16)) (ci := 6) ⟨hx, hb, hml, hown, hts⟩ M_13 0 rfl rfl (cwV 1 hts gX6_usedMany_X6_isUsed rfl rfl rfl (by decide +kernel) ⟨Nat.le_of_ble_eq_true rfl, Nat.le_of_ble_eq_true rfl⟩) hN hK hP hD hS hA [0, 1] [] rfl rfl (by decide) (by decide) (by decide) rfl hl.1 rfl (Nat.le_of_ble_eq_true rfl) dX6_usedMany_13 ⟨Nat.le_of_ble_eq_true rfl, Nat.le_of_ble_eq_true rfl⟩ (fun r_13 u_13 H locs hw_13 hP hD hS => ?_)
        replace hP : va_P D vwCl [oM mo rn sn co bp ag pn, ai (cy 0) (mo 1) 98 (stF lt mn pt tk mr od rm cd)] H := hP
        replace hD : va_D A [oM mo rn sn co bp ag pn, ai (cy 0) (mo 1) 98 (stF lt mn pt tk mr od rm cd)] := hD
        have hb1 := hasI_b pt lt i
        refine r_eq0 hx hb 23 dX6_usedMany_16 (by decide) ⟨by omega, by omega⟩ (fun c_16 => ?_) (fun c_16 => ?_)
        ·
          refine r_const hx hb dX6_usedMany_23 ?_
          refine r_add hx hb dX6_usedMany_24 ?_
          refine lv_istore_n (lv' := [(1, .int (iI (g + 0))), (0, .ref (mo 0)), (2, .int (iI i))]) hx hb dX6_usedMany_25 rfl hl (by decide) rfl (fun ls hl => ?_)
          refine r_inc (k := 2) (lv' := [(2, .int (iI (i + 1))), (1, .int (iI (g + 0))), (0, .ref (mo 0))]) hx hb dX6_usedMany_26 hl rfl (by decide) rfl (fun ls hl => ?_)
          refine lv_goto (tgt := 4) hx hb dX6_usedMany_29 (by decide) ?_
          exact ih_4 (g + 0) (i + 1) (by omega) (by rw [sumTo_s h1.1, h2]; omega) (by omega) H locs (pick_P hP (is := [0, 1]) rfl) (hD.sub [0, 1] (by decide) rfl) hS ls (lv_sub hl [2, 1, 0] rfl)
        ·
          refine r_const hx hb dX6_usedMany_19 ?_
          refine lv_goto (tgt := 24) hx hb dX6_usedMany_20 (by decide) ?_
          refine r_add hx hb dX6_usedMany_24 ?_
          refine lv_istore_n (lv' := [(1, .int (iI (g + 1))), (0, .ref (mo 0)), (2, .int (iI i))]) hx hb dX6_usedMany_25 rfl hl (by decide) rfl (fun ls hl => ?_)
          refine r_inc (k := 2) (lv' := [(2, .int (iI (i + 1))), (1, .int (iI (g + 1))), (0, .ref (mo 0))]) hx hb dX6_usedMany_26 hl rfl (by decide) rfl (fun ls hl => ?_)
          refine lv_goto (tgt := 4) hx hb dX6_usedMany_29 (by decide) ?_
          exact ih_4 (g + 1) (i + 1) (by omega) (by rw [sumTo_s h1.1, h2]; omega) (by omega) H locs (pick_P hP (is := [0, 1]) rfl) (hD.sub [0, 1] (by decide) rfl) hS ls (lv_sub hl [2, 1, 0] rfl)
  exact lp_4 _ 0 0 (by omega) (rfl) (Nat.lt_succ_self _) H locs (pick_P hP (is := [0, 1]) rfl) (hD.sub [0, 1] (by decide) rfl) hS ls (lv_sub hl [2, 1, 0] rfl)
abbrev rm_X6_sumOf : Room := { frames := 0, cells := 0, slots := 0, locals := 0 }
theorem fl_X6_sumOf_7 : Cond.fieldLink RX6 7 "WalkPassesModel" "state" "[I" ∈ wsX6_sumOf := by decide +kernel
theorem iw_X6_sumOf_6 : ∀ w ∈ u_ws RX6 TX6 16, w ∈ wsX6_sumOf := by decide +kernel
set_option maxHeartbeats 4000000 in
set_option maxRecDepth 100000 in
theorem k_X6_sumOf (l : Launch) (D : va_G) (cy : Nat → ClassId) (mo : Nat → Nat) (z : Nat) (rn sn co bp ag pn : Int) (F : Int → Int) (fr mm : Int) (hf : 0 ≤ fr ∧ 0 ≤ mm ∧ fr + mm ≤ 98) : CtI l yX6_sumOf wsX6_sumOf rm_X6_sumOf D (tyL cy) [.ref (mo 0), .int (iI fr), .int (iI mm)] [oM mo rn sn co bp ag pn, ai (cy 0) (mo 1) 98 F] z (fun (r : Int) (u : Unit) => r = sumTo (fun i => F (fr + i)) mm.toNat) (fun (u : Unit) => [oM mo rn sn co bp ag pn, ai (cy 0) (mo 1) 98 F]) 0 0 := by
  refine ct_i (cc := cX6_sumOf) (maxL := 5) (by decide) rfl (Nat.le_of_ble_eq_true rfl) ?_
  intro p e s m args below meth c A Q H locs ls hx hb hml hown hin hts hK hN hP hD hS hA hl hret
  replace hl : lv_has ls 5 [(0, .ref (mo 0)), (1, .int (iI fr)), (2, .int (iI mm))] := hl
  replace hown : s.vm.findClass RX6 = some m.cls := hown
  refine r_const hx hb dX6_sumOf_0 ?_
  refine lv_istore_n (lv' := [(3, .int (iI 0)), (0, .ref (mo 0)), (1, .int (iI fr)), (2, .int (iI mm))]) hx hb dX6_sumOf_1 rfl hl (by decide) rfl (fun ls hl => ?_)
  refine r_const hx hb dX6_sumOf_2 ?_
  refine lv_istore (lv' := [(4, .int (iI 0)), (3, .int (iI 0)), (0, .ref (mo 0)), (1, .int (iI fr)), (2, .int (iI mm))]) hx hb dX6_sumOf_3 hl (by decide) rfl (fun ls hl => ?_)
  have lp_5 : ∀ (fu : Nat) (g : Int) (i : Int), (0 ≤ i ∧ i ≤ mm) → (g = sumTo (fun i => F (fr + i)) i.toNat) → (mm - i).toNat < fu → ∀ (H : Heap) (locs : List Loc), va_P D vwCl [oM mo rn sn co bp ag pn, ai (cy 0) (mo 1) 98 F] H → va_D A [oM mo rn sn co bp ag pn, ai (cy 0) (mo 1) 98 F] → va_S A s.heap H locs → ∀ (ls : Array Slot), lv_has ls 5 [(0, .ref (mo 0)), (1, .int (iI fr)), (2, .int (iI mm)), (3, .int (iI g)), (4, .int (iI i))] → W p l e rm_X6_sumOf s m args below meth c H locs 0 0 Q (F0 m 5 ls []) := by
    intro fu
    induction fu with
    | zero =>
      intro g i h1 h2 hm
      exact absurd hm (Nat.not_lt_zero _)
    | succ fu ih_5 =>
      intro g i h1 h2 hm H locs hP hD hS ls hl
      refine lv_iload hx hb dX6_sumOf_5 (lv_at hl 4 rfl) ?_
      refine lv_iload_n hx hb dX6_sumOf_7 rfl (lv_at hl 2 rfl) ?_
      refine r_ge hx hb 29 dX6_sumOf_8 (by decide) ⟨by omega, by omega⟩ ⟨by omega, by omega⟩ (fun c_8 => ?_) (fun c_8 => ?_)
      ·
        refine lv_iload_n hx hb dX6_sumOf_29 rfl (lv_at hl 3 rfl) ?_
        exact hret [0, 1] () dX6_sumOf_30 hP hD hS (by decide) rfl (by rw [h2, show i = mm by omega])
      ·
        refine lv_iload_n hx hb dX6_sumOf_11 rfl (lv_at hl 3 rfl) ?_
        refine lv_aload_n hx hb dX6_sumOf_12 rfl (lv_at hl 0 rfl) ?_
        refine va_get (D := D) (C := RX6) (T := TX6) (N := 16) (ci := 6) (v := .ref (mo 1)) hx hb hts iw_X6_sumOf_6 hown hK hP 0 rfl rfl 0 (by decide) (hts _ fl_X6_sumOf_7) (fun _ h9 => h9) rfl dX6_sumOf_13 ?_
        refine lv_iload_n hx hb dX6_sumOf_16 rfl (lv_at hl 1 rfl) ?_
        refine lv_iload hx hb dX6_sumOf_17 (lv_at hl 4 rfl) ?_
        refine r_add hx hb dX6_sumOf_19 ?_
        refine r_ald hx hb hK hP 1 rfl rfl ⟨by omega, by omega, by omega⟩ dX6_sumOf_20 ?_
        refine r_add hx hb dX6_sumOf_21 ?_
        refine lv_istore_n (lv' := [(3, .int (iI (g + (F (fr + i))))), (0, .ref (mo 0)), (1, .int (iI fr)), (2, .int (iI mm)), (4, .int (iI i))]) hx hb dX6_sumOf_22 rfl hl (by decide) rfl (fun ls hl => ?_)
        refine r_inc (k := 4) (lv' := [(4, .int (iI (i + 1))), (3, .int (iI (g + (F (fr + i))))), (0, .ref (mo 0)), (1, .int (iI fr)), (2, .int (iI mm))]) hx hb dX6_sumOf_23 hl rfl (by decide) rfl (fun ls hl => ?_)
        refine lv_goto (tgt := 5) hx hb dX6_sumOf_26 (by decide) ?_
        exact ih_5 (g + (F (fr + i))) (i + 1) (by omega) (by rw [sumTo_s h1.1, h2]) (by omega) H locs (pick_P hP (is := [0, 1]) rfl) (hD.sub [0, 1] (by decide) rfl) hS ls (lv_sub hl [2, 3, 4, 1, 0] rfl)
  exact lp_5 _ 0 0 (by omega) (rfl) (Nat.lt_succ_self _) H locs (pick_P hP (is := [0, 1]) rfl) (hD.sub [0, 1] (by decide) rfl) hS ls (lv_sub hl [2, 3, 4, 1, 0] rfl)
abbrev rm_X6_count : Room := { frames := 2, cells := 0, slots := 0, locals := 45 }
theorem fl_X6_count_7 : Cond.fieldLink RX6 7 "WalkPassesModel" "state" "[I" ∈ wsX6_count := by decide +kernel
theorem fl_X6_count_16 : Cond.fieldLink RX6 16 "WalkPassesModel" "isKept" "[Z" ∈ wsX6_count := by decide +kernel
theorem iw_X6_count_6 : ∀ w ∈ u_ws RX6 TX6 16, w ∈ wsX6_count := by decide +kernel
set_option maxHeartbeats 4000000 in
set_option maxRecDepth 100000 in
theorem k_X6_count (l : Launch) (D : va_G) (cy : Nat → ClassId) (mo : Nat → Nat) (z : Nat) (rn sn co bp ag pn : Int) (lt mn : Int) (pt tk mr od pl rm cd : Int → Int) (kf : Int → Int) (v : Int) (hI : DI lt mn pt tk mr od pl rm cd) (hkf : ∀ j, 0 ≤ kf j ∧ kf j ≤ 1) (hv : inR v) : CtI l yX6_count wsX6_count rm_X6_count D (tyL cy) [.ref (mo 0), .int (iI v)] [oM mo rn sn co bp ag pn, ai (cy 0) (mo 1) 98 (stF lt mn pt tk mr od rm cd), ai (cy 1) (mo 3) 2 kf] z (fun (r : Int) (u : Unit) => r = fCount lt mn pt tk mr rm cd (kf 0 + 2 * kf 1) v) (fun (u : Unit) => [oM mo rn sn co bp ag pn, ai (cy 0) (mo 1) 98 (stF lt mn pt tk mr od rm cd), ai (cy 1) (mo 3) 2 kf]) 0 0 := by
  refine ct_i (cc := cX6_count) (maxL := 2) (by decide) rfl (Nat.le_of_ble_eq_true rfl) ?_
  intro p e s m args below meth c A Q H locs ls hx hb hml hown hin hts hK hN hP hD hS hA hl hret
  replace hl : lv_has ls 2 [(0, .ref (mo 0)), (1, .int (iI v))] := hl
  replace hown : s.vm.findClass RX6 = some m.cls := hown
  obtain ⟨⟨⟨hlt0, hlt1⟩, hmn0, hmn1⟩, ⟨hpt, htk, hmr⟩, ⟨hod, hpl, hpo, hop⟩, hrm, hcd⟩ := id hI
  refine lv_iload_n hx hb dX6_count_0 rfl (lv_at hl 1 rfl) ?_
  refine r_bip hx hb (10) dX6_count_1 (by decide) ?_
  refine r_bip hx hb (19) dX6_count_3 (by decide) ?_
  have M_5 := k_X6_in l D cy  H.size v 10 19 (hv) (⟨by omega, by omega⟩) (⟨by omega, by omega⟩)
  refine kS_i (wr := [oM mo rn sn co bp ag pn, ai (cy 0) (mo 1) 98 (stF lt mn pt tk mr od rm cd), ai (cy 1) (mo 3) 2 kf]) (As := [.int (iI v), .int (iI 10), .int (iI 19)]) (rest := []) ⟨hx, hb, hml, hown, hts⟩ M_5 (va_cwS 3 hts gX6_count_X6_in rfl rfl rfl (by decide +kernel) ⟨Nat.le_of_ble_eq_true rfl, Nat.le_of_ble_eq_true rfl⟩) hN hK hP hD hS hA [] [0, 1, 2] rfl rfl (by decide) (by decide) (by decide) rfl hl.1 rfl (Nat.le_of_ble_eq_true rfl) dX6_count_5 ⟨Nat.le_of_ble_eq_true rfl, Nat.le_of_ble_eq_true rfl⟩ (fun r_5 u_5 H locs hw_5 hP hD hS => ?_)
  replace hP : va_P D vwCl [oM mo rn sn co bp ag pn, ai (cy 0) (mo 1) 98 (stF lt mn pt tk mr od rm cd), ai (cy 1) (mo 3) 2 kf] H := hP
  replace hD : va_D A [oM mo rn sn co bp ag pn, ai (cy 0) (mo 1) 98 (stF lt mn pt tk mr od rm cd), ai (cy 1) (mo 3) 2 kf] := hD
  refine r_eq0 hx hb 24 dX6_count_8 (by decide) ⟨by omega, by omega⟩ (fun c_8 => ?_) (fun c_8 => ?_)
  ·
    refine lv_iload_n hx hb dX6_count_24 rfl (lv_at hl 1 rfl) ?_
    have hr_25 : inR v := hv
    by_cases c_25 : v < 0 ∨ 6 < v
    · refine lv_tableOut (tgt := 152) hx hb dX6_count_25 (by rw [iI_toInt hr_25]; exact c_25) (by decide) ?_
      refine r_bip hx hb (-2) dX6_count_152 (by decide) ?_
      exact hret [0, 1, 2] () dX6_count_154 hP hD hS (by decide) rfl (by unfold fCount; (repeat' split) <;> omega)
    by_cases c_25_0 : v = 0
    · refine lv_tableIn (tgt := 68) hx hb dX6_count_25 (by rw [iI_toInt hr_25]; omega) (by rw [iI_toInt hr_25]; omega) (off := 43) (by rw [iI_toInt hr_25, c_25_0]; rfl) (by decide) ?_
      refine lv_aload_n hx hb dX6_count_68 rfl (lv_at hl 0 rfl) ?_
      refine va_get (D := D) (C := RX6) (T := TX6) (N := 16) (ci := 6) (v := .ref (mo 1)) hx hb hts iw_X6_count_6 hown hK hP 0 rfl rfl 0 (by decide) (hts _ fl_X6_count_7) (fun _ h9 => h9) rfl dX6_count_69 ?_
      refine r_bip hx hb (25) dX6_count_72 (by decide) ?_
      refine r_ald hx hb hK hP 1 rfl rfl ⟨by omega, by omega, by omega⟩ dX6_count_74 ?_
      refine r_top (lt) (stF_lt (by omega)) ?_
      exact hret [0, 1, 2] () dX6_count_75 hP hD hS (by decide) rfl (by unfold fCount; (repeat' split) <;> omega)
    by_cases c_25_1 : v = 1
    · refine lv_tableIn (tgt := 76) hx hb dX6_count_25 (by rw [iI_toInt hr_25]; omega) (by rw [iI_toInt hr_25]; omega) (off := 51) (by rw [iI_toInt hr_25, c_25_1]; rfl) (by decide) ?_
      refine lv_aload_n hx hb dX6_count_76 rfl (lv_at hl 0 rfl) ?_
      have M_77 := k_X6_misreads l D cy mo H.size rn sn co bp ag pn lt mn pt tk mr od pl rm cd (⟨hlt0, hlt1⟩)
      refine kV_i (wr := [ai (cy 1) (mo 3) 2 kf]) (As := []) (rest := []) (q := (RX6, TX6, 16)) (ci := 6) ⟨hx, hb, hml, hown, hts⟩ M_77 0 rfl rfl (cwV 0 hts gX6_count_X6_misreads rfl rfl rfl (by decide +kernel) ⟨Nat.le_of_ble_eq_true rfl, Nat.le_of_ble_eq_true rfl⟩) hN hK hP hD hS hA [0, 1] [2] rfl rfl (by decide) (by decide) (by decide) rfl hl.1 rfl (Nat.le_of_ble_eq_true rfl) dX6_count_77 ⟨Nat.le_of_ble_eq_true rfl, Nat.le_of_ble_eq_true rfl⟩ (fun r_77 u_77 H locs hw_77 hP hD hS => ?_)
      replace hP : va_P D vwCl [ai (cy 1) (mo 3) 2 kf, oM mo rn sn co bp ag pn, ai (cy 0) (mo 1) 98 (stF lt mn pt tk mr od rm cd)] H := hP
      replace hD : va_D A [ai (cy 1) (mo 3) 2 kf, oM mo rn sn co bp ag pn, ai (cy 0) (mo 1) 98 (stF lt mn pt tk mr od rm cd)] := hD
      exact hret [1, 2, 0] () dX6_count_80 hP hD hS (by decide) rfl (by unfold fCount; (repeat' split) <;> omega)
    by_cases c_25_2 : v = 2
    · refine lv_tableIn (tgt := 81) hx hb dX6_count_25 (by rw [iI_toInt hr_25]; omega) (by rw [iI_toInt hr_25]; omega) (off := 56) (by rw [iI_toInt hr_25, c_25_2]; rfl) (by decide) ?_
      refine lv_aload_n hx hb dX6_count_81 rfl (lv_at hl 0 rfl) ?_
      have M_82 := k_X6_usedMany l D cy mo H.size rn sn co bp ag pn lt mn pt tk mr od pl rm cd (⟨⟨hlt0, hlt1⟩, hpt⟩)
      refine kV_i (wr := [ai (cy 1) (mo 3) 2 kf]) (As := []) (rest := []) (q := (RX6, TX6, 16)) (ci := 6) ⟨hx, hb, hml, hown, hts⟩ M_82 0 rfl rfl (cwV 0 hts gX6_count_X6_usedMany rfl rfl rfl (by decide +kernel) ⟨Nat.le_of_ble_eq_true rfl, Nat.le_of_ble_eq_true rfl⟩) hN hK hP hD hS hA [0, 1] [2] rfl rfl (by decide) (by decide) (by decide) rfl hl.1 rfl (Nat.le_of_ble_eq_true rfl) dX6_count_82 ⟨Nat.le_of_ble_eq_true rfl, Nat.le_of_ble_eq_true rfl⟩ (fun r_82 u_82 H locs hw_82 hP hD hS => ?_)
      replace hP : va_P D vwCl [ai (cy 1) (mo 3) 2 kf, oM mo rn sn co bp ag pn, ai (cy 0) (mo 1) 98 (stF lt mn pt tk mr od rm cd)] H := hP
      replace hD : va_D A [ai (cy 1) (mo 3) 2 kf, oM mo rn sn co bp ag pn, ai (cy 0) (mo 1) 98 (stF lt mn pt tk mr od rm cd)] := hD
      exact hret [1, 2, 0] () dX6_count_85 hP hD hS (by decide) rfl (by unfold fCount; (repeat' split) <;> omega)
    by_cases c_25_3 : v = 3
    · refine lv_tableIn (tgt := 86) hx hb dX6_count_25 (by rw [iI_toInt hr_25]; omega) (by rw [iI_toInt hr_25]; omega) (off := 61) (by rw [iI_toInt hr_25, c_25_3]; rfl) (by decide) ?_
      refine lv_aload_n hx hb dX6_count_86 rfl (lv_at hl 0 rfl) ?_
      refine va_get (D := D) (C := RX6) (T := TX6) (N := 16) (ci := 6) (v := .ref (mo 1)) hx hb hts iw_X6_count_6 hown hK hP 0 rfl rfl 0 (by decide) (hts _ fl_X6_count_7) (fun _ h9 => h9) rfl dX6_count_87 ?_
      refine r_bip hx hb (24) dX6_count_90 (by decide) ?_
      refine r_ald hx hb hK hP 1 rfl rfl ⟨by omega, by omega, by omega⟩ dX6_count_92 ?_
      refine r_top (mn) (stF_mn (by omega)) ?_
      exact hret [0, 1, 2] () dX6_count_93 hP hD hS (by decide) rfl (by unfold fCount; (repeat' split) <;> omega)
    by_cases c_25_4 : v = 4
    · refine lv_tableIn (tgt := 94) hx hb dX6_count_25 (by rw [iI_toInt hr_25]; omega) (by rw [iI_toInt hr_25]; omega) (off := 69) (by rw [iI_toInt hr_25, c_25_4]; rfl) (by decide) ?_
      refine lv_aload_n hx hb dX6_count_94 rfl (lv_at hl 0 rfl) ?_
      refine r_bip hx hb (50) dX6_count_95 (by decide) ?_
      refine lv_aload_n hx hb dX6_count_97 rfl (lv_at hl 0 rfl) ?_
      refine va_get (D := D) (C := RX6) (T := TX6) (N := 16) (ci := 6) (v := .ref (mo 1)) hx hb hts iw_X6_count_6 hown hK hP 0 rfl rfl 0 (by decide) (hts _ fl_X6_count_7) (fun _ h9 => h9) rfl dX6_count_98 ?_
      refine r_bip hx hb (25) dX6_count_101 (by decide) ?_
      refine r_ald hx hb hK hP 1 rfl rfl ⟨by omega, by omega, by omega⟩ dX6_count_103 ?_
      refine r_top (lt) (stF_lt (by omega)) ?_
      have M_104 := k_X6_sumOf l D cy mo H.size rn sn co bp ag pn (stF lt mn pt tk mr od rm cd) 50 lt (by omega)
      refine kV_i (wr := [ai (cy 1) (mo 3) 2 kf]) (As := [.int (iI 50), .int (iI lt)]) (rest := []) (q := (RX6, TX6, 16)) (ci := 6) ⟨hx, hb, hml, hown, hts⟩ M_104 0 rfl rfl (cwV 2 hts gX6_count_X6_sumOf rfl rfl rfl (by decide +kernel) ⟨Nat.le_of_ble_eq_true rfl, Nat.le_of_ble_eq_true rfl⟩) hN hK hP hD hS hA [0, 1] [2] rfl rfl (by decide) (by decide) (by decide) rfl hl.1 rfl (Nat.le_of_ble_eq_true rfl) dX6_count_104 ⟨Nat.le_of_ble_eq_true rfl, Nat.le_of_ble_eq_true rfl⟩ (fun r_104 u_104 H locs hw_104 hP hD hS => ?_)
      replace hP : va_P D vwCl [ai (cy 1) (mo 3) 2 kf, oM mo rn sn co bp ag pn, ai (cy 0) (mo 1) 98 (stF lt mn pt tk mr od rm cd)] H := hP
      replace hD : va_D A [ai (cy 1) (mo 3) 2 kf, oM mo rn sn co bp ag pn, ai (cy 0) (mo 1) 98 (stF lt mn pt tk mr od rm cd)] := hD
      have hsm : sumTo (fun i => stF lt mn pt tk mr od rm cd (50 + i)) lt.toNat = sumTo tk lt.toNat := sumTo_congr (fun j q1 q2 => stF_tk rfl q1 (by omega))
      rw [hsm] at hw_104
      exact hret [1, 2, 0] () dX6_count_107 hP hD hS (by decide) rfl (by unfold fCount; (repeat' split) <;> omega)
    by_cases c_25_5 : v = 5
    · refine lv_tableIn (tgt := 108) hx hb dX6_count_25 (by rw [iI_toInt hr_25]; omega) (by rw [iI_toInt hr_25]; omega) (off := 83) (by rw [iI_toInt hr_25, c_25_5]; rfl) (by decide) ?_
      refine lv_aload_n hx hb dX6_count_108 rfl (lv_at hl 0 rfl) ?_
      refine r_bip hx hb (20) dX6_count_109 (by decide) ?_
      refine lv_aload_n hx hb dX6_count_111 rfl (lv_at hl 0 rfl) ?_
      refine va_get (D := D) (C := RX6) (T := TX6) (N := 16) (ci := 6) (v := .ref (mo 1)) hx hb hts iw_X6_count_6 hown hK hP 0 rfl rfl 0 (by decide) (hts _ fl_X6_count_7) (fun _ h9 => h9) rfl dX6_count_112 ?_
      refine r_bip hx hb (24) dX6_count_115 (by decide) ?_
      refine r_ald hx hb hK hP 1 rfl rfl ⟨by omega, by omega, by omega⟩ dX6_count_117 ?_
      refine r_top (mn) (stF_mn (by omega)) ?_
      have M_118 := k_X6_sumOf l D cy mo H.size rn sn co bp ag pn (stF lt mn pt tk mr od rm cd) 20 mn (by omega)
      refine kV_i (wr := [ai (cy 1) (mo 3) 2 kf]) (As := [.int (iI 20), .int (iI mn)]) (rest := []) (q := (RX6, TX6, 16)) (ci := 6) ⟨hx, hb, hml, hown, hts⟩ M_118 0 rfl rfl (cwV 2 hts gX6_count_X6_sumOf rfl rfl rfl (by decide +kernel) ⟨Nat.le_of_ble_eq_true rfl, Nat.le_of_ble_eq_true rfl⟩) hN hK hP hD hS hA [0, 1] [2] rfl rfl (by decide) (by decide) (by decide) rfl hl.1 rfl (Nat.le_of_ble_eq_true rfl) dX6_count_118 ⟨Nat.le_of_ble_eq_true rfl, Nat.le_of_ble_eq_true rfl⟩ (fun r_118 u_118 H locs hw_118 hP hD hS => ?_)
      replace hP : va_P D vwCl [ai (cy 1) (mo 3) 2 kf, oM mo rn sn co bp ag pn, ai (cy 0) (mo 1) 98 (stF lt mn pt tk mr od rm cd)] H := hP
      replace hD : va_D A [ai (cy 1) (mo 3) 2 kf, oM mo rn sn co bp ag pn, ai (cy 0) (mo 1) 98 (stF lt mn pt tk mr od rm cd)] := hD
      have hsm : sumTo (fun i => stF lt mn pt tk mr od rm cd (20 + i)) mn.toNat = sumTo rm mn.toNat := sumTo_congr (fun j q1 q2 => stF_rm rfl q1 (by omega))
      rw [hsm] at hw_118
      exact hret [1, 2, 0] () dX6_count_121 hP hD hS (by decide) rfl (by unfold fCount; (repeat' split) <;> omega)
    by_cases c_25_6 : v = 6
    · refine lv_tableIn (tgt := 122) hx hb dX6_count_25 (by rw [iI_toInt hr_25]; omega) (by rw [iI_toInt hr_25]; omega) (off := 97) (by rw [iI_toInt hr_25, c_25_6]; rfl) (by decide) ?_
      refine lv_aload_n hx hb dX6_count_122 rfl (lv_at hl 0 rfl) ?_
      refine va_get (D := D) (C := RX6) (T := TX6) (N := 16) (ci := 6) (v := .ref (mo 3)) hx hb hts iw_X6_count_6 hown hK hP 0 rfl rfl 2 (by decide) (hts _ fl_X6_count_16) (fun _ h9 => h9) rfl dX6_count_123 ?_
      refine r_const hx hb dX6_count_126 ?_
      refine r_zald hx hb hK hP 2 rfl rfl ⟨by omega, by omega, by omega⟩ dX6_count_127 ?_
      have b_127 := hkf 0
      refine r_eq0 hx hb 135 dX6_count_128 (by decide) ⟨by omega, by omega⟩ (fun c_128 => ?_) (fun c_128 => ?_)
      ·
        refine r_const hx hb dX6_count_135 ?_
        refine lv_aload_n hx hb dX6_count_136 rfl (lv_at hl 0 rfl) ?_
        refine va_get (D := D) (C := RX6) (T := TX6) (N := 16) (ci := 6) (v := .ref (mo 3)) hx hb hts iw_X6_count_6 hown hK hP 0 rfl rfl 2 (by decide) (hts _ fl_X6_count_16) (fun _ h9 => h9) rfl dX6_count_137 ?_
        refine r_const hx hb dX6_count_140 ?_
        refine r_zald hx hb hK hP 2 rfl rfl ⟨by omega, by omega, by omega⟩ dX6_count_141 ?_
        have b_141 := hkf 1
        refine r_eq0 hx hb 149 dX6_count_142 (by decide) ⟨by omega, by omega⟩ (fun c_142 => ?_) (fun c_142 => ?_)
        ·
          refine r_const hx hb dX6_count_149 ?_
          refine r_add hx hb dX6_count_150 ?_
          exact hret [0, 1, 2] () dX6_count_151 hP hD hS (by decide) rfl (by unfold fCount; (repeat' split) <;> omega)
        ·
          refine r_const hx hb dX6_count_145 ?_
          refine lv_goto (tgt := 150) hx hb dX6_count_146 (by decide) ?_
          refine r_add hx hb dX6_count_150 ?_
          exact hret [0, 1, 2] () dX6_count_151 hP hD hS (by decide) rfl (by unfold fCount; (repeat' split) <;> omega)
      ·
        refine r_const hx hb dX6_count_131 ?_
        refine lv_goto (tgt := 136) hx hb dX6_count_132 (by decide) ?_
        refine lv_aload_n hx hb dX6_count_136 rfl (lv_at hl 0 rfl) ?_
        refine va_get (D := D) (C := RX6) (T := TX6) (N := 16) (ci := 6) (v := .ref (mo 3)) hx hb hts iw_X6_count_6 hown hK hP 0 rfl rfl 2 (by decide) (hts _ fl_X6_count_16) (fun _ h9 => h9) rfl dX6_count_137 ?_
        refine r_const hx hb dX6_count_140 ?_
        refine r_zald hx hb hK hP 2 rfl rfl ⟨by omega, by omega, by omega⟩ dX6_count_141 ?_
        have b_141 := hkf 1
        refine r_eq0 hx hb 149 dX6_count_142 (by decide) ⟨by omega, by omega⟩ (fun c_142 => ?_) (fun c_142 => ?_)
        ·
          refine r_const hx hb dX6_count_149 ?_
          refine r_add hx hb dX6_count_150 ?_
          exact hret [0, 1, 2] () dX6_count_151 hP hD hS (by decide) rfl (by unfold fCount; (repeat' split) <;> omega)
        ·
          refine r_const hx hb dX6_count_145 ?_
          refine lv_goto (tgt := 150) hx hb dX6_count_146 (by decide) ?_
          refine r_add hx hb dX6_count_150 ?_
          exact hret [0, 1, 2] () dX6_count_151 hP hD hS (by decide) rfl (by unfold fCount; (repeat' split) <;> omega)
    exact absurd c_25 (by omega)
  ·
    refine lv_aload_n hx hb dX6_count_11 rfl (lv_at hl 0 rfl) ?_
    refine va_get (D := D) (C := RX6) (T := TX6) (N := 16) (ci := 6) (v := .ref (mo 1)) hx hb hts iw_X6_count_6 hown hK hP 0 rfl rfl 0 (by decide) (hts _ fl_X6_count_7) (fun _ h9 => h9) rfl dX6_count_12 ?_
    refine r_bip hx hb (10) dX6_count_15 (by decide) ?_
    refine lv_iload_n hx hb dX6_count_17 rfl (lv_at hl 1 rfl) ?_
    refine r_add hx hb dX6_count_18 ?_
    refine r_bip hx hb (10) dX6_count_19 (by decide) ?_
    refine r_sub hx hb dX6_count_21 ?_
    refine r_ald hx hb hK hP 1 rfl rfl ⟨by omega, by omega, by omega⟩ dX6_count_22 ?_
    refine r_top (cd (v - 10)) (stF_cd (by omega) (by omega) (by omega)) ?_
    exact hret [0, 1, 2] () dX6_count_23 hP hD hS (by decide) rfl (by unfold fCount; (repeat' split) <;> omega)
