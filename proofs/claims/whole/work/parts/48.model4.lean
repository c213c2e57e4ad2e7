abbrev rm_X6_tryPlan : Room := { frames := 4, cells := 0, slots := 0, locals := 92 }
theorem fl_X6_tryPlan_7 : Cond.fieldLink RX6 7 "WalkPassesModel" "state" "[I" ∈ wsX6_tryPlan := by decide +kernel
theorem fl_X6_tryPlan_70 : Cond.fieldLink RX6 70 "WalkPassesModel" "rowMany" "I" ∈ wsX6_tryPlan := by decide +kernel
theorem fl_X6_tryPlan_99 : Cond.fieldLink RX6 99 "WalkPassesModel" "plans" "I" ∈ wsX6_tryPlan := by decide +kernel
theorem fl_X6_tryPlan_102 : Cond.fieldLink RX6 102 "WalkPassesModel" "bestPlan" "I" ∈ wsX6_tryPlan := by decide +kernel
theorem fl_X6_tryPlan_105 : Cond.fieldLink RX6 105 "WalkPassesModel" "cost" "I" ∈ wsX6_tryPlan := by decide +kernel
theorem fl_X6_tryPlan_108 : Cond.fieldLink RX6 108 "WalkPassesModel" "asGood" "I" ∈ wsX6_tryPlan := by decide +kernel
theorem iw_X6_tryPlan_6 : ∀ w ∈ u_ws RX6 TX6 16, w ∈ wsX6_tryPlan := by decide +kernel
set_option maxHeartbeats 4000000 in
set_option maxRecDepth 100000 in
theorem k_X6_tryPlan (l : Launch) (D : va_G) (cy : Nat → ClassId) (mo : Nat → Nat) (z : Nat) (rn sn co bp ag pn : Int) (lt mn : Int) (pt tk mr od pl rm cd : Int → Int) (rv sw gt sa ld : Int → Int) (mk k : Int) (hI : DI lt mn pt tk mr od pl rm cd) (hm : 0 ≤ mk ∧ mk < 65536) (hmb : (bl mk).length = (usd (hasI pt lt) od 10).length) (hk : 1 ≤ k ∧ k ≤ 3) (hbp : bp = -6 ∨ (0 ≤ bp ∧ bp < 65536)) (hco : -6 ≤ co ∧ co ≤ 24) : CtV l yX6_tryPlan wsX6_tryPlan rm_X6_tryPlan D (tyL cy) [.ref (mo 0), .int (iI mk), .int (iI k)] [oM mo rn sn co bp ag pn, ai (cy 0) (mo 1) 98 (stF lt mn pt tk mr od rm cd), ai (cy 0) (mo 4) 24 rv, ai (cy 0) (mo 5) 24 sw, ai (cy 0) (mo 6) 24 gt, ai (cy 0) (mo 7) 24 sa, ai (cy 0) (mo 8) 4 ld] z (fun (u : Int × Int × Int × Int × Int × (Int → Int) × (Int → Int) × (Int → Int) × (Int → Int) × (Int → Int)) => (u.2.2.1, u.2.2.2.1, u.2.2.2.2.1) = mbs (fun m => cst lt mn pt tk mr rm (usd (hasI pt lt) od 10) k (bl m)) (co, ag, bp) mk) (fun (u : Int × Int × Int × Int × Int × (Int → Int) × (Int → Int) × (Int → Int) × (Int → Int) × (Int → Int)) => [oM mo u.1 u.2.1 u.2.2.1 u.2.2.2.2.1 u.2.2.2.1 (pn + 1), ai (cy 0) (mo 1) 98 (stF lt mn pt tk mr od rm (tkC (hasI pt lt) (asg (usd (hasI pt lt) od 10) (bl mk)) cd 10)), ai (cy 0) (mo 4) 24 u.2.2.2.2.2.1, ai (cy 0) (mo 5) 24 u.2.2.2.2.2.2.1, ai (cy 0) (mo 6) 24 u.2.2.2.2.2.2.2.1, ai (cy 0) (mo 7) 24 u.2.2.2.2.2.2.2.2.1, ai (cy 0) (mo 8) 4 u.2.2.2.2.2.2.2.2.2]) 0 0 := by
  refine ct_v (cc := cX6_tryPlan) (maxL := 4) (by decide) rfl (Nat.le_of_ble_eq_true rfl) ?_
  intro p e s m args below meth c A Q H locs ls hx hb hml hown hin hts hK hN hP hD hS hA hl hret
  replace hl : lv_has ls 4 [(0, .ref (mo 0)), (1, .int (iI mk)), (2, .int (iI k))] := hl
  replace hown : s.vm.findClass RX6 = some m.cls := hown
  obtain ⟨⟨⟨hlt0, hlt1⟩, hmn0, hmn1⟩, ⟨hpt, htk, hmr⟩, ⟨hod, hpl, hpo, hop⟩, hrm, hcd⟩ := id hI
  refine lv_aload_n hx hb dX6_tryPlan_0 rfl (lv_at hl 0 rfl) ?_
  refine lv_iload_n hx hb dX6_tryPlan_1 rfl (lv_at hl 1 rfl) ?_
  have M_2 := k_X6_takeCodes l D cy mo H.size rn sn co bp ag pn lt mn pt tk mr od pl rm cd mk (hI) (hm) (hmb)
  refine kV_v (wr := [ai (cy 0) (mo 4) 24 rv, ai (cy 0) (mo 5) 24 sw, ai (cy 0) (mo 6) 24 gt, ai (cy 0) (mo 7) 24 sa, ai (cy 0) (mo 8) 4 ld]) (As := [.int (iI mk)]) (rest := []) (q := (RX6, TX6, 16)) (ci := 6) ⟨hx, hb, hml, hown, hts⟩ M_2 0 rfl rfl (cwV 1 hts gX6_tryPlan_X6_takeCodes rfl rfl rfl (by decide +kernel) ⟨Nat.le_of_ble_eq_true rfl, Nat.le_of_ble_eq_true rfl⟩) hN hK hP hD hS hA [0, 1] [2, 3, 4, 5, 6] rfl rfl (by decide) (by decide) (by decide) rfl hl.1 rfl (Nat.le_of_ble_eq_true rfl) dX6_tryPlan_2 ⟨Nat.le_of_ble_eq_true rfl, Nat.le_of_ble_eq_true rfl⟩ (fun u_2 H locs hw_2 hP hD hS => ?_)
  replace hP : va_P D vwCl [ai (cy 0) (mo 4) 24 rv, ai (cy 0) (mo 5) 24 sw, ai (cy 0) (mo 6) 24 gt, ai (cy 0) (mo 7) 24 sa, ai (cy 0) (mo 8) 4 ld, oM mo rn sn co bp ag pn, ai (cy 0) (mo 1) 98 (stF lt mn pt tk mr od rm (tkC (hasI pt lt) (asg (usd (hasI pt lt) od 10) (bl mk)) cd 10))] H := hP
  replace hD : va_D A [ai (cy 0) (mo 4) 24 rv, ai (cy 0) (mo 5) 24 sw, ai (cy 0) (mo 6) 24 gt, ai (cy 0) (mo 7) 24 sa, ai (cy 0) (mo 8) 4 ld, oM mo rn sn co bp ag pn, ai (cy 0) (mo 1) 98 (stF lt mn pt tk mr od rm (tkC (hasI pt lt) (asg (usd (hasI pt lt) od 10) (bl mk)) cd 10))] := hD
  refine lv_aload_n hx hb dX6_tryPlan_5 rfl (lv_at hl 0 rfl) ?_
  refine lv_iload_n hx hb dX6_tryPlan_6 rfl (lv_at hl 2 rfl) ?_
  have M_7 := k_X6_goRun l D cy mo H.size rn sn co bp ag pn lt mn pt tk mr od pl rm (tkC (hasI pt lt) (asg (usd (hasI pt lt) od 10) (bl mk)) cd 10) rv sw gt sa ld k (⟨⟨⟨hlt0, hlt1⟩, hmn0, hmn1⟩, ⟨hpt, htk, hmr⟩, ⟨hod, hpl, hpo, hop⟩, hrm, tkC_b (asg_b _ _ 0 63 (by omega) (by omega) (bl_b mk)) hcd⟩) (hk)
  refine kV_v (wr := []) (As := [.int (iI k)]) (rest := []) (q := (RX6, TX6, 16)) (ci := 6) ⟨hx, hb, hml, hown, hts⟩ M_7 5 rfl rfl (cwV 1 hts gX6_tryPlan_X6_goRun rfl rfl rfl (by decide +kernel) ⟨Nat.le_of_ble_eq_true rfl, Nat.le_of_ble_eq_true rfl⟩) hN hK hP hD hS hA [5, 6, 0, 1, 2, 3, 4] [] rfl rfl (by decide) (by decide) (by decide) rfl hl.1 rfl (Nat.le_of_ble_eq_true rfl) dX6_tryPlan_7 ⟨Nat.le_of_ble_eq_true rfl, Nat.le_of_ble_eq_true rfl⟩ (fun u_7 H locs hw_7 hP hD hS => ?_)
  obtain ⟨n1, v_1, v_2, v_3, v_4, v_5, v_6⟩ := u_7
  try dsimp only at hw_7
  replace hP : va_P D vwCl [oM mo n1 v_1 co bp ag pn, ai (cy 0) (mo 1) 98 (stF lt mn pt tk mr od rm (tkC (hasI pt lt) (asg (usd (hasI pt lt) od 10) (bl mk)) cd 10)), ai (cy 0) (mo 4) 24 v_2, ai (cy 0) (mo 5) 24 v_3, ai (cy 0) (mo 6) 24 v_4, ai (cy 0) (mo 7) 24 v_5, ai (cy 0) (mo 8) 4 v_6] H := hP
  replace hD : va_D A [oM mo n1 v_1 co bp ag pn, ai (cy 0) (mo 1) 98 (stF lt mn pt tk mr od rm (tkC (hasI pt lt) (asg (usd (hasI pt lt) od 10) (bl mk)) cd 10)), ai (cy 0) (mo 4) 24 v_2, ai (cy 0) (mo 5) 24 v_3, ai (cy 0) (mo 6) 24 v_4, ai (cy 0) (mo 7) 24 v_5, ai (cy 0) (mo 8) 4 v_6] := hD
  have hcs := cst_tk (lt := lt) (mn := mn) (tk := tk) (mr := mr) (rm := rm) (cd := cd) (UL := (usd (hasI pt lt) od 10)) (L := bl mk) (k := k) hpt
  rw [← RnP_cm hw_7] at hcs
  have hcb := cst_b (mn := mn) (pt := pt) (tk := tk) (mr := mr) (rm := rm) (UL := (usd (hasI pt lt) od 10)) (k := k) (L := bl mk) ⟨hlt0, hlt1⟩
  refine lv_aload_n hx hb dX6_tryPlan_10 rfl (lv_at hl 0 rfl) ?_
  refine va_get (D := D) (C := RX6) (T := TX6) (N := 16) (ci := 6) (v := .ref (mo 1)) hx hb hts iw_X6_tryPlan_6 hown hK hP 0 rfl rfl 0 (by decide) (hts _ fl_X6_tryPlan_7) (fun _ h9 => h9) rfl dX6_tryPlan_11 ?_
  refine r_bip hx hb (25) dX6_tryPlan_14 (by decide) ?_
  refine r_ald hx hb hK hP 1 rfl rfl ⟨by omega, by omega, by omega⟩ dX6_tryPlan_16 ?_
  refine r_top (lt) (stF_lt (by omega)) ?_
  refine lv_aload_n hx hb dX6_tryPlan_17 rfl (lv_at hl 0 rfl) ?_
  refine va_get (D := D) (C := RX6) (T := TX6) (N := 16) (ci := 6) (v := .int (iI n1)) hx hb hts iw_X6_tryPlan_6 hown hK hP 0 rfl rfl 4 (by decide) (hts _ fl_X6_tryPlan_70) (fun _ h9 => h9) rfl dX6_tryPlan_18 ?_
  refine r_sub hx hb dX6_tryPlan_21 ?_
  refine lv_istore_n (lv' := [(3, .int (iI (lt - n1))), (0, .ref (mo 0)), (1, .int (iI mk)), (2, .int (iI k))]) hx hb dX6_tryPlan_22 rfl hl (by decide) rfl (fun ls hl => ?_)
  refine lv_aload_n hx hb dX6_tryPlan_23 rfl (lv_at hl 1 rfl) ?_
  refine lv_dup hx hb dX6_tryPlan_24 rfl ?_
  refine va_get (D := D) (C := RX6) (T := TX6) (N := 16) (ci := 6) (v := .int (iI pn)) hx hb hts iw_X6_tryPlan_6 hown hK hP 0 rfl rfl 14 (by decide) (hts _ fl_X6_tryPlan_99) (fun _ h9 => h9) rfl dX6_tryPlan_25 ?_
  refine r_const hx hb dX6_tryPlan_28 ?_
  refine r_add hx hb dX6_tryPlan_29 ?_
  refine va_put (D := D) (C := RX6) (T := TX6) (N := 16) (ci := 6) (v := .int (iI (pn + 1))) (ty := .int) hx hb hts iw_X6_tryPlan_6 tyX6 tyX6_ok nmX6 hown hK hP hD hS 0 rfl rfl 14 (by decide) (hts _ fl_X6_tryPlan_99) (fun _ h9 => h9) rfl (by decide +kernel) rfl rfl (Nat.le_of_ble_eq_true rfl) dX6_tryPlan_30 (fun H locs hP hD hS => ?_)
  replace hP : va_P D vwCl [oM mo n1 v_1 co bp ag (pn + 1), ai (cy 0) (mo 1) 98 (stF lt mn pt tk mr od rm (tkC (hasI pt lt) (asg (usd (hasI pt lt) od 10) (bl mk)) cd 10)), ai (cy 0) (mo 4) 24 v_2, ai (cy 0) (mo 5) 24 v_3, ai (cy 0) (mo 6) 24 v_4, ai (cy 0) (mo 7) 24 v_5, ai (cy 0) (mo 8) 4 v_6] H := hP
  replace hD : va_D A [oM mo n1 v_1 co bp ag (pn + 1), ai (cy 0) (mo 1) 98 (stF lt mn pt tk mr od rm (tkC (hasI pt lt) (asg (usd (hasI pt lt) od 10) (bl mk)) cd 10)), ai (cy 0) (mo 4) 24 v_2, ai (cy 0) (mo 5) 24 v_3, ai (cy 0) (mo 6) 24 v_4, ai (cy 0) (mo 7) 24 v_5, ai (cy 0) (mo 8) 4 v_6] := hD
  refine lv_aload_n hx hb dX6_tryPlan_33 rfl (lv_at hl 1 rfl) ?_
  refine va_get (D := D) (C := RX6) (T := TX6) (N := 16) (ci := 6) (v := .int (iI bp)) hx hb hts iw_X6_tryPlan_6 hown hK hP 0 rfl rfl 12 (by decide) (hts _ fl_X6_tryPlan_102) (fun _ h9 => h9) rfl dX6_tryPlan_34 ?_
  refine r_lt0 hx hb 48 dX6_tryPlan_37 (by decide) ⟨by omega, by omega⟩ (fun c_37 => ?_) (fun c_37 => ?_)
  ·
    refine lv_aload_n hx hb dX6_tryPlan_48 rfl (lv_at hl 1 rfl) ?_
    refine lv_iload_n hx hb dX6_tryPlan_49 rfl (lv_at hl 0 rfl) ?_
    refine va_put (D := D) (C := RX6) (T := TX6) (N := 16) (ci := 6) (v := .int (iI (lt - n1))) (ty := .int) hx hb hts iw_X6_tryPlan_6 tyX6 tyX6_ok nmX6 hown hK hP hD hS 0 rfl rfl 11 (by decide) (hts _ fl_X6_tryPlan_105) (fun _ h9 => h9) rfl (by decide +kernel) rfl rfl (Nat.le_of_ble_eq_true rfl) dX6_tryPlan_50 (fun H locs hP hD hS => ?_)
    replace hP : va_P D vwCl [oM mo n1 v_1 (lt - n1) bp ag (pn + 1), ai (cy 0) (mo 1) 98 (stF lt mn pt tk mr od rm (tkC (hasI pt lt) (asg (usd (hasI pt lt) od 10) (bl mk)) cd 10)), ai (cy 0) (mo 4) 24 v_2, ai (cy 0) (mo 5) 24 v_3, ai (cy 0) (mo 6) 24 v_4, ai (cy 0) (mo 7) 24 v_5, ai (cy 0) (mo 8) 4 v_6] H := hP
    replace hD : va_D A [oM mo n1 v_1 (lt - n1) bp ag (pn + 1), ai (cy 0) (mo 1) 98 (stF lt mn pt tk mr od rm (tkC (hasI pt lt) (asg (usd (hasI pt lt) od 10) (bl mk)) cd 10)), ai (cy 0) (mo 4) 24 v_2, ai (cy 0) (mo 5) 24 v_3, ai (cy 0) (mo 6) 24 v_4, ai (cy 0) (mo 7) 24 v_5, ai (cy 0) (mo 8) 4 v_6] := hD
    refine lv_aload_n hx hb dX6_tryPlan_53 rfl (lv_at hl 1 rfl) ?_
    refine r_const hx hb dX6_tryPlan_54 ?_
    refine va_put (D := D) (C := RX6) (T := TX6) (N := 16) (ci := 6) (v := .int (iI 0)) (ty := .int) hx hb hts iw_X6_tryPlan_6 tyX6 tyX6_ok nmX6 hown hK hP hD hS 0 rfl rfl 13 (by decide) (hts _ fl_X6_tryPlan_108) (fun _ h9 => h9) rfl (by decide +kernel) rfl rfl (Nat.le_of_ble_eq_true rfl) dX6_tryPlan_55 (fun H locs hP hD hS => ?_)
    replace hP : va_P D vwCl [oM mo n1 v_1 (lt - n1) bp 0 (pn + 1), ai (cy 0) (mo 1) 98 (stF lt mn pt tk mr od rm (tkC (hasI pt lt) (asg (usd (hasI pt lt) od 10) (bl mk)) cd 10)), ai (cy 0) (mo 4) 24 v_2, ai (cy 0) (mo 5) 24 v_3, ai (cy 0) (mo 6) 24 v_4, ai (cy 0) (mo 7) 24 v_5, ai (cy 0) (mo 8) 4 v_6] H := hP
    replace hD : va_D A [oM mo n1 v_1 (lt - n1) bp 0 (pn + 1), ai (cy 0) (mo 1) 98 (stF lt mn pt tk mr od rm (tkC (hasI pt lt) (asg (usd (hasI pt lt) od 10) (bl mk)) cd 10)), ai (cy 0) (mo 4) 24 v_2, ai (cy 0) (mo 5) 24 v_3, ai (cy 0) (mo 6) 24 v_4, ai (cy 0) (mo 7) 24 v_5, ai (cy 0) (mo 8) 4 v_6] := hD
    refine lv_aload_n hx hb dX6_tryPlan_58 rfl (lv_at hl 1 rfl) ?_
    refine lv_iload_n hx hb dX6_tryPlan_59 rfl (lv_at hl 2 rfl) ?_
    refine va_put (D := D) (C := RX6) (T := TX6) (N := 16) (ci := 6) (v := .int (iI mk)) (ty := .int) hx hb hts iw_X6_tryPlan_6 tyX6 tyX6_ok nmX6 hown hK hP hD hS 0 rfl rfl 12 (by decide) (hts _ fl_X6_tryPlan_102) (fun _ h9 => h9) rfl (by decide +kernel) rfl rfl (Nat.le_of_ble_eq_true rfl) dX6_tryPlan_60 (fun H locs hP hD hS => ?_)
    replace hP : va_P D vwCl [oM mo n1 v_1 (lt - n1) mk 0 (pn + 1), ai (cy 0) (mo 1) 98 (stF lt mn pt tk mr od rm (tkC (hasI pt lt) (asg (usd (hasI pt lt) od 10) (bl mk)) cd 10)), ai (cy 0) (mo 4) 24 v_2, ai (cy 0) (mo 5) 24 v_3, ai (cy 0) (mo 6) 24 v_4, ai (cy 0) (mo 7) 24 v_5, ai (cy 0) (mo 8) 4 v_6] H := hP
    replace hD : va_D A [oM mo n1 v_1 (lt - n1) mk 0 (pn + 1), ai (cy 0) (mo 1) 98 (stF lt mn pt tk mr od rm (tkC (hasI pt lt) (asg (usd (hasI pt lt) od 10) (bl mk)) cd 10)), ai (cy 0) (mo 4) 24 v_2, ai (cy 0) (mo 5) 24 v_3, ai (cy 0) (mo 6) 24 v_4, ai (cy 0) (mo 7) 24 v_5, ai (cy 0) (mo 8) 4 v_6] := hD
    refine lv_iload_n hx hb dX6_tryPlan_63 rfl (lv_at hl 0 rfl) ?_
    refine lv_aload_n hx hb dX6_tryPlan_64 rfl (lv_at hl 1 rfl) ?_
    refine va_get (D := D) (C := RX6) (T := TX6) (N := 16) (ci := 6) (v := .int (iI (lt - n1))) hx hb hts iw_X6_tryPlan_6 hown hK hP 0 rfl rfl 11 (by decide) (hts _ fl_X6_tryPlan_105) (fun _ h9 => h9) rfl dX6_tryPlan_65 ?_
    refine r_ne hx hb 104 dX6_tryPlan_68 (by decide) ⟨by omega, by omega⟩ ⟨by omega, by omega⟩ (fun c_68 => ?_) (fun c_68 => ?_)
    ·
      exact hret [0, 1, 2, 3, 4, 5, 6] (n1, v_1, lt - n1, 0, mk, v_2, v_3, v_4, v_5, v_6) dX6_tryPlan_104 hP hD hS (by decide) rfl (by (show _ = if bp < 0 ∨ cst lt mn pt tk mr rm (usd (hasI pt lt) od 10) k (bl mk) < co then (cst lt mn pt tk mr rm (usd (hasI pt lt) od 10) k (bl mk), 1, mk) else if cst lt mn pt tk mr rm (usd (hasI pt lt) od 10) k (bl mk) = co then (co, ag + 1, if zand (zand mk (zxor mk bp)) (-zxor mk bp) ≠ 0 then mk else bp) else (co, ag, bp)); rw [← hcs]; first | (exact (if_pos (by omega)).symm) | (rw [if_neg (by omega), if_pos (by omega), if_pos (by omega), ← c_68]; done) | (rw [if_neg (by omega), if_pos (by omega), if_neg (by omega)]; done) | (rw [if_neg (by omega), if_neg (by omega)]; done) | (rw [if_neg (by omega), if_pos (by omega), if_pos (by omega)]; done) | (exact absurd rfl c_68))
    ·
      refine lv_aload_n hx hb dX6_tryPlan_71 rfl (lv_at hl 1 rfl) ?_
      refine lv_dup hx hb dX6_tryPlan_72 rfl ?_
      refine va_get (D := D) (C := RX6) (T := TX6) (N := 16) (ci := 6) (v := .int (iI 0)) hx hb hts iw_X6_tryPlan_6 hown hK hP 0 rfl rfl 13 (by decide) (hts _ fl_X6_tryPlan_108) (fun _ h9 => h9) rfl dX6_tryPlan_73 ?_
      refine r_const hx hb dX6_tryPlan_76 ?_
      refine r_add hx hb dX6_tryPlan_77 ?_
      refine va_put (D := D) (C := RX6) (T := TX6) (N := 16) (ci := 6) (v := .int (iI (0 + 1))) (ty := .int) hx hb hts iw_X6_tryPlan_6 tyX6 tyX6_ok nmX6 hown hK hP hD hS 0 rfl rfl 13 (by decide) (hts _ fl_X6_tryPlan_108) (fun _ h9 => h9) rfl (by decide +kernel) rfl rfl (Nat.le_of_ble_eq_true rfl) dX6_tryPlan_78 (fun H locs hP hD hS => ?_)
      replace hP : va_P D vwCl [oM mo n1 v_1 (lt - n1) mk (0 + 1) (pn + 1), ai (cy 0) (mo 1) 98 (stF lt mn pt tk mr od rm (tkC (hasI pt lt) (asg (usd (hasI pt lt) od 10) (bl mk)) cd 10)), ai (cy 0) (mo 4) 24 v_2, ai (cy 0) (mo 5) 24 v_3, ai (cy 0) (mo 6) 24 v_4, ai (cy 0) (mo 7) 24 v_5, ai (cy 0) (mo 8) 4 v_6] H := hP
      replace hD : va_D A [oM mo n1 v_1 (lt - n1) mk (0 + 1) (pn + 1), ai (cy 0) (mo 1) 98 (stF lt mn pt tk mr od rm (tkC (hasI pt lt) (asg (usd (hasI pt lt) od 10) (bl mk)) cd 10)), ai (cy 0) (mo 4) 24 v_2, ai (cy 0) (mo 5) 24 v_3, ai (cy 0) (mo 6) 24 v_4, ai (cy 0) (mo 7) 24 v_5, ai (cy 0) (mo 8) 4 v_6] := hD
      refine lv_aload_n hx hb dX6_tryPlan_81 rfl (lv_at hl 1 rfl) ?_
      refine lv_iload_n hx hb dX6_tryPlan_82 rfl (lv_at hl 2 rfl) ?_
      refine lv_aload_n hx hb dX6_tryPlan_83 rfl (lv_at hl 1 rfl) ?_
      refine va_get (D := D) (C := RX6) (T := TX6) (N := 16) (ci := 6) (v := .int (iI mk)) hx hb hts iw_X6_tryPlan_6 hown hK hP 0 rfl rfl 12 (by decide) (hts _ fl_X6_tryPlan_102) (fun _ h9 => h9) rfl dX6_tryPlan_84 ?_
      have M_87 := k_X6_isAhead l D cy  H.size mk mk (by omega) (by omega)
      refine kS_i (wr := [oM mo n1 v_1 (lt - n1) mk (0 + 1) (pn + 1), ai (cy 0) (mo 1) 98 (stF lt mn pt tk mr od rm (tkC (hasI pt lt) (asg (usd (hasI pt lt) od 10) (bl mk)) cd 10)), ai (cy 0) (mo 4) 24 v_2, ai (cy 0) (mo 5) 24 v_3, ai (cy 0) (mo 6) 24 v_4, ai (cy 0) (mo 7) 24 v_5, ai (cy 0) (mo 8) 4 v_6]) (As := [.int (iI mk), .int (iI mk)]) (rest := [.ref (mo 0)]) ⟨hx, hb, hml, hown, hts⟩ M_87 (va_cwS 2 hts gX6_tryPlan_X6_isAhead rfl rfl rfl (by decide +kernel) ⟨Nat.le_of_ble_eq_true rfl, Nat.le_of_ble_eq_true rfl⟩) hN hK hP hD hS hA [] [0, 1, 2, 3, 4, 5, 6] rfl rfl (by decide) (by decide) (by decide) rfl hl.1 rfl (Nat.le_of_ble_eq_true rfl) dX6_tryPlan_87 ⟨Nat.le_of_ble_eq_true rfl, Nat.le_of_ble_eq_true rfl⟩ (fun r_87 u_87 H locs hw_87 hP hD hS => ?_)
      replace hP : va_P D vwCl [oM mo n1 v_1 (lt - n1) mk (0 + 1) (pn + 1), ai (cy 0) (mo 1) 98 (stF lt mn pt tk mr od rm (tkC (hasI pt lt) (asg (usd (hasI pt lt) od 10) (bl mk)) cd 10)), ai (cy 0) (mo 4) 24 v_2, ai (cy 0) (mo 5) 24 v_3, ai (cy 0) (mo 6) 24 v_4, ai (cy 0) (mo 7) 24 v_5, ai (cy 0) (mo 8) 4 v_6] H := hP
      replace hD : va_D A [oM mo n1 v_1 (lt - n1) mk (0 + 1) (pn + 1), ai (cy 0) (mo 1) 98 (stF lt mn pt tk mr od rm (tkC (hasI pt lt) (asg (usd (hasI pt lt) od 10) (bl mk)) cd 10)), ai (cy 0) (mo 4) 24 v_2, ai (cy 0) (mo 5) 24 v_3, ai (cy 0) (mo 6) 24 v_4, ai (cy 0) (mo 7) 24 v_5, ai (cy 0) (mo 8) 4 v_6] := hD
      refine r_eq0 hx hb 97 dX6_tryPlan_90 (by decide) ⟨by omega, by omega⟩ (fun c_90 => ?_) (fun c_90 => ?_)
      ·
        refine lv_aload_n hx hb dX6_tryPlan_97 rfl (lv_at hl 1 rfl) ?_
        refine va_get (D := D) (C := RX6) (T := TX6) (N := 16) (ci := 6) (v := .int (iI mk)) hx hb hts iw_X6_tryPlan_6 hown hK hP 0 rfl rfl 12 (by decide) (hts _ fl_X6_tryPlan_102) (fun _ h9 => h9) rfl dX6_tryPlan_98 ?_
        refine va_put (D := D) (C := RX6) (T := TX6) (N := 16) (ci := 6) (v := .int (iI mk)) (ty := .int) hx hb hts iw_X6_tryPlan_6 tyX6 tyX6_ok nmX6 hown hK hP hD hS 0 rfl rfl 12 (by decide) (hts _ fl_X6_tryPlan_102) (fun _ h9 => h9) rfl (by decide +kernel) rfl rfl (Nat.le_of_ble_eq_true rfl) dX6_tryPlan_101 (fun H locs hP hD hS => ?_)
        replace hP : va_P D vwCl [oM mo n1 v_1 (lt - n1) mk (0 + 1) (pn + 1), ai (cy 0) (mo 1) 98 (stF lt mn pt tk mr od rm (tkC (hasI pt lt) (asg (usd (hasI pt lt) od 10) (bl mk)) cd 10)), ai (cy 0) (mo 4) 24 v_2, ai (cy 0) (mo 5) 24 v_3, ai (cy 0) (mo 6) 24 v_4, ai (cy 0) (mo 7) 24 v_5, ai (cy 0) (mo 8) 4 v_6] H := hP
        replace hD : va_D A [oM mo n1 v_1 (lt - n1) mk (0 + 1) (pn + 1), ai (cy 0) (mo 1) 98 (stF lt mn pt tk mr od rm (tkC (hasI pt lt) (asg (usd (hasI pt lt) od 10) (bl mk)) cd 10)), ai (cy 0) (mo 4) 24 v_2, ai (cy 0) (mo 5) 24 v_3, ai (cy 0) (mo 6) 24 v_4, ai (cy 0) (mo 7) 24 v_5, ai (cy 0) (mo 8) 4 v_6] := hD
        exact hret [0, 1, 2, 3, 4, 5, 6] (n1, v_1, lt - n1, 0 + 1, mk, v_2, v_3, v_4, v_5, v_6) dX6_tryPlan_104 hP hD hS (by decide) rfl (by (show _ = if bp < 0 ∨ cst lt mn pt tk mr rm (usd (hasI pt lt) od 10) k (bl mk) < co then (cst lt mn pt tk mr rm (usd (hasI pt lt) od 10) k (bl mk), 1, mk) else if cst lt mn pt tk mr rm (usd (hasI pt lt) od 10) k (bl mk) = co then (co, ag + 1, if zand (zand mk (zxor mk bp)) (-zxor mk bp) ≠ 0 then mk else bp) else (co, ag, bp)); rw [← hcs]; first | (exact (if_pos (by omega)).symm) | (rw [if_neg (by omega), if_pos (by omega), if_pos (by omega), ← c_68]; done) | (rw [if_neg (by omega), if_pos (by omega), if_neg (by omega)]; done) | (rw [if_neg (by omega), if_neg (by omega)]; done) | (rw [if_neg (by omega), if_pos (by omega), if_pos (by omega)]; done) | (exact absurd rfl c_68))
      ·
        refine lv_iload_n hx hb dX6_tryPlan_93 rfl (lv_at hl 2 rfl) ?_
        refine lv_goto (tgt := 101) hx hb dX6_tryPlan_94 (by decide) ?_
        refine va_put (D := D) (C := RX6) (T := TX6) (N := 16) (ci := 6) (v := .int (iI mk)) (ty := .int) hx hb hts iw_X6_tryPlan_6 tyX6 tyX6_ok nmX6 hown hK hP hD hS 0 rfl rfl 12 (by decide) (hts _ fl_X6_tryPlan_102) (fun _ h9 => h9) rfl (by decide +kernel) rfl rfl (Nat.le_of_ble_eq_true rfl) dX6_tryPlan_101 (fun H locs hP hD hS => ?_)
        replace hP : va_P D vwCl [oM mo n1 v_1 (lt - n1) mk (0 + 1) (pn + 1), ai (cy 0) (mo 1) 98 (stF lt mn pt tk mr od rm (tkC (hasI pt lt) (asg (usd (hasI pt lt) od 10) (bl mk)) cd 10)), ai (cy 0) (mo 4) 24 v_2, ai (cy 0) (mo 5) 24 v_3, ai (cy 0) (mo 6) 24 v_4, ai (cy 0) (mo 7) 24 v_5, ai (cy 0) (mo 8) 4 v_6] H := hP
        replace hD : va_D A [oM mo n1 v_1 (lt - n1) mk (0 + 1) (pn + 1), ai (cy 0) (mo 1) 98 (stF lt mn pt tk mr od rm (tkC (hasI pt lt) (asg (usd (hasI pt lt) od 10) (bl mk)) cd 10)), ai (cy 0) (mo 4) 24 v_2, ai (cy 0) (mo 5) 24 v_3, ai (cy 0) (mo 6) 24 v_4, ai (cy 0) (mo 7) 24 v_5, ai (cy 0) (mo 8) 4 v_6] := hD
        exact hret [0, 1, 2, 3, 4, 5, 6] (n1, v_1, lt - n1, 0 + 1, mk, v_2, v_3, v_4, v_5, v_6) dX6_tryPlan_104 hP hD hS (by decide) rfl (by (show _ = if bp < 0 ∨ cst lt mn pt tk mr rm (usd (hasI pt lt) od 10) k (bl mk) < co then (cst lt mn pt tk mr rm (usd (hasI pt lt) od 10) k (bl mk), 1, mk) else if cst lt mn pt tk mr rm (usd (hasI pt lt) od 10) k (bl mk) = co then (co, ag + 1, if zand (zand mk (zxor mk bp)) (-zxor mk bp) ≠ 0 then mk else bp) else (co, ag, bp)); rw [← hcs]; first | (exact (if_pos (by omega)).symm) | (rw [if_neg (by omega), if_pos (by omega), if_pos (by omega), ← c_68]; done) | (rw [if_neg (by omega), if_pos (by omega), if_neg (by omega)]; done) | (rw [if_neg (by omega), if_neg (by omega)]; done) | (rw [if_neg (by omega), if_pos (by omega), if_pos (by omega)]; done) | (exact absurd rfl c_68))
  ·
    refine lv_iload_n hx hb dX6_tryPlan_40 rfl (lv_at hl 0 rfl) ?_
    refine lv_aload_n hx hb dX6_tryPlan_41 rfl (lv_at hl 1 rfl) ?_
    refine va_get (D := D) (C := RX6) (T := TX6) (N := 16) (ci := 6) (v := .int (iI co)) hx hb hts iw_X6_tryPlan_6 hown hK hP 0 rfl rfl 11 (by decide) (hts _ fl_X6_tryPlan_105) (fun _ h9 => h9) rfl dX6_tryPlan_42 ?_
    refine r_ge hx hb 63 dX6_tryPlan_45 (by decide) ⟨by omega, by omega⟩ ⟨by omega, by omega⟩ (fun c_45 => ?_) (fun c_45 => ?_)
    ·
      refine lv_iload_n hx hb dX6_tryPlan_63 rfl (lv_at hl 0 rfl) ?_
      refine lv_aload_n hx hb dX6_tryPlan_64 rfl (lv_at hl 1 rfl) ?_
      refine va_get (D := D) (C := RX6) (T := TX6) (N := 16) (ci := 6) (v := .int (iI co)) hx hb hts iw_X6_tryPlan_6 hown hK hP 0 rfl rfl 11 (by decide) (hts _ fl_X6_tryPlan_105) (fun _ h9 => h9) rfl dX6_tryPlan_65 ?_
      refine r_ne hx hb 104 dX6_tryPlan_68 (by decide) ⟨by omega, by omega⟩ ⟨by omega, by omega⟩ (fun c_68 => ?_) (fun c_68 => ?_)
      ·
        exact hret [0, 1, 2, 3, 4, 5, 6] (n1, v_1, co, ag, bp, v_2, v_3, v_4, v_5, v_6) dX6_tryPlan_104 hP hD hS (by decide) rfl (by (show _ = if bp < 0 ∨ cst lt mn pt tk mr rm (usd (hasI pt lt) od 10) k (bl mk) < co then (cst lt mn pt tk mr rm (usd (hasI pt lt) od 10) k (bl mk), 1, mk) else if cst lt mn pt tk mr rm (usd (hasI pt lt) od 10) k (bl mk) = co then (co, ag + 1, if zand (zand mk (zxor mk bp)) (-zxor mk bp) ≠ 0 then mk else bp) else (co, ag, bp)); rw [← hcs]; first | (exact (if_pos (by omega)).symm) | (rw [if_neg (by omega), if_pos (by omega), if_pos (by omega), ← c_68]; done) | (rw [if_neg (by omega), if_pos (by omega), if_neg (by omega)]; done) | (rw [if_neg (by omega), if_neg (by omega)]; done) | (rw [if_neg (by omega), if_pos (by omega), if_pos (by omega)]; done) | (exact absurd rfl c_68))
      ·
        refine lv_aload_n hx hb dX6_tryPlan_71 rfl (lv_at hl 1 rfl) ?_
        refine lv_dup hx hb dX6_tryPlan_72 rfl ?_
        refine va_get (D := D) (C := RX6) (T := TX6) (N := 16) (ci := 6) (v := .int (iI ag)) hx hb hts iw_X6_tryPlan_6 hown hK hP 0 rfl rfl 13 (by decide) (hts _ fl_X6_tryPlan_108) (fun _ h9 => h9) rfl dX6_tryPlan_73 ?_
        refine r_const hx hb dX6_tryPlan_76 ?_
        refine r_add hx hb dX6_tryPlan_77 ?_
        refine va_put (D := D) (C := RX6) (T := TX6) (N := 16) (ci := 6) (v := .int (iI (ag + 1))) (ty := .int) hx hb hts iw_X6_tryPlan_6 tyX6 tyX6_ok nmX6 hown hK hP hD hS 0 rfl rfl 13 (by decide) (hts _ fl_X6_tryPlan_108) (fun _ h9 => h9) rfl (by decide +kernel) rfl rfl (Nat.le_of_ble_eq_true rfl) dX6_tryPlan_78 (fun H locs hP hD hS => ?_)
        replace hP : va_P D vwCl [oM mo n1 v_1 co bp (ag + 1) (pn + 1), ai (cy 0) (mo 1) 98 (stF lt mn pt tk mr od rm (tkC (hasI pt lt) (asg (usd (hasI pt lt) od 10) (bl mk)) cd 10)), ai (cy 0) (mo 4) 24 v_2, ai (cy 0) (mo 5) 24 v_3, ai (cy 0) (mo 6) 24 v_4, ai (cy 0) (mo 7) 24 v_5, ai (cy 0) (mo 8) 4 v_6] H := hP
        replace hD : va_D A [oM mo n1 v_1 co bp (ag + 1) (pn + 1), ai (cy 0) (mo 1) 98 (stF lt mn pt tk mr od rm (tkC (hasI pt lt) (asg (usd (hasI pt lt) od 10) (bl mk)) cd 10)), ai (cy 0) (mo 4) 24 v_2, ai (cy 0) (mo 5) 24 v_3, ai (cy 0) (mo 6) 24 v_4, ai (cy 0) (mo 7) 24 v_5, ai (cy 0) (mo 8) 4 v_6] := hD
        refine lv_aload_n hx hb dX6_tryPlan_81 rfl (lv_at hl 1 rfl) ?_
        refine lv_iload_n hx hb dX6_tryPlan_82 rfl (lv_at hl 2 rfl) ?_
        refine lv_aload_n hx hb dX6_tryPlan_83 rfl (lv_at hl 1 rfl) ?_
        refine va_get (D := D) (C := RX6) (T := TX6) (N := 16) (ci := 6) (v := .int (iI bp)) hx hb hts iw_X6_tryPlan_6 hown hK hP 0 rfl rfl 12 (by decide) (hts _ fl_X6_tryPlan_102) (fun _ h9 => h9) rfl dX6_tryPlan_84 ?_
        have M_87 := k_X6_isAhead l D cy  H.size mk bp (by omega) (by omega)
        refine kS_i (wr := [oM mo n1 v_1 co bp (ag + 1) (pn + 1), ai (cy 0) (mo 1) 98 (stF lt mn pt tk mr od rm (tkC (hasI pt lt) (asg (usd (hasI pt lt) od 10) (bl mk)) cd 10)), ai (cy 0) (mo 4) 24 v_2, ai (cy 0) (mo 5) 24 v_3, ai (cy 0) (mo 6) 24 v_4, ai (cy 0) (mo 7) 24 v_5, ai (cy 0) (mo 8) 4 v_6]) (As := [.int (iI mk), .int (iI bp)]) (rest := [.ref (mo 0)]) ⟨hx, hb, hml, hown, hts⟩ M_87 (va_cwS 2 hts gX6_tryPlan_X6_isAhead rfl rfl rfl (by decide +kernel) ⟨Nat.le_of_ble_eq_true rfl, Nat.le_of_ble_eq_true rfl⟩) hN hK hP hD hS hA [] [0, 1, 2, 3, 4, 5, 6] rfl rfl (by decide) (by decide) (by decide) rfl hl.1 rfl (Nat.le_of_ble_eq_true rfl) dX6_tryPlan_87 ⟨Nat.le_of_ble_eq_true rfl, Nat.le_of_ble_eq_true rfl⟩ (fun r_87 u_87 H locs hw_87 hP hD hS => ?_)
        replace hP : va_P D vwCl [oM mo n1 v_1 co bp (ag + 1) (pn + 1), ai (cy 0) (mo 1) 98 (stF lt mn pt tk mr od rm (tkC (hasI pt lt) (asg (usd (hasI pt lt) od 10) (bl mk)) cd 10)), ai (cy 0) (mo 4) 24 v_2, ai (cy 0) (mo 5) 24 v_3, ai (cy 0) (mo 6) 24 v_4, ai (cy 0) (mo 7) 24 v_5, ai (cy 0) (mo 8) 4 v_6] H := hP
        replace hD : va_D A [oM mo n1 v_1 co bp (ag + 1) (pn + 1), ai (cy 0) (mo 1) 98 (stF lt mn pt tk mr od rm (tkC (hasI pt lt) (asg (usd (hasI pt lt) od 10) (bl mk)) cd 10)), ai (cy 0) (mo 4) 24 v_2, ai (cy 0) (mo 5) 24 v_3, ai (cy 0) (mo 6) 24 v_4, ai (cy 0) (mo 7) 24 v_5, ai (cy 0) (mo 8) 4 v_6] := hD
        refine r_eq0 hx hb 97 dX6_tryPlan_90 (by decide) ⟨by omega, by omega⟩ (fun c_90 => ?_) (fun c_90 => ?_)
        ·
          refine lv_aload_n hx hb dX6_tryPlan_97 rfl (lv_at hl 1 rfl) ?_
          refine va_get (D := D) (C := RX6) (T := TX6) (N := 16) (ci := 6) (v := .int (iI bp)) hx hb hts iw_X6_tryPlan_6 hown hK hP 0 rfl rfl 12 (by decide) (hts _ fl_X6_tryPlan_102) (fun _ h9 => h9) rfl dX6_tryPlan_98 ?_
          refine va_put (D := D) (C := RX6) (T := TX6) (N := 16) (ci := 6) (v := .int (iI bp)) (ty := .int) hx hb hts iw_X6_tryPlan_6 tyX6 tyX6_ok nmX6 hown hK hP hD hS 0 rfl rfl 12 (by decide) (hts _ fl_X6_tryPlan_102) (fun _ h9 => h9) rfl (by decide +kernel) rfl rfl (Nat.le_of_ble_eq_true rfl) dX6_tryPlan_101 (fun H locs hP hD hS => ?_)
          replace hP : va_P D vwCl [oM mo n1 v_1 co bp (ag + 1) (pn + 1), ai (cy 0) (mo 1) 98 (stF lt mn pt tk mr od rm (tkC (hasI pt lt) (asg (usd (hasI pt lt) od 10) (bl mk)) cd 10)), ai (cy 0) (mo 4) 24 v_2, ai (cy 0) (mo 5) 24 v_3, ai (cy 0) (mo 6) 24 v_4, ai (cy 0) (mo 7) 24 v_5, ai (cy 0) (mo 8) 4 v_6] H := hP
          replace hD : va_D A [oM mo n1 v_1 co bp (ag + 1) (pn + 1), ai (cy 0) (mo 1) 98 (stF lt mn pt tk mr od rm (tkC (hasI pt lt) (asg (usd (hasI pt lt) od 10) (bl mk)) cd 10)), ai (cy 0) (mo 4) 24 v_2, ai (cy 0) (mo 5) 24 v_3, ai (cy 0) (mo 6) 24 v_4, ai (cy 0) (mo 7) 24 v_5, ai (cy 0) (mo 8) 4 v_6] := hD
          exact hret [0, 1, 2, 3, 4, 5, 6] (n1, v_1, co, ag + 1, bp, v_2, v_3, v_4, v_5, v_6) dX6_tryPlan_104 hP hD hS (by decide) rfl (by (show _ = if bp < 0 ∨ cst lt mn pt tk mr rm (usd (hasI pt lt) od 10) k (bl mk) < co then (cst lt mn pt tk mr rm (usd (hasI pt lt) od 10) k (bl mk), 1, mk) else if cst lt mn pt tk mr rm (usd (hasI pt lt) od 10) k (bl mk) = co then (co, ag + 1, if zand (zand mk (zxor mk bp)) (-zxor mk bp) ≠ 0 then mk else bp) else (co, ag, bp)); rw [← hcs]; first | (exact (if_pos (by omega)).symm) | (rw [if_neg (by omega), if_pos (by omega), if_pos (by omega), ← c_68]; done) | (rw [if_neg (by omega), if_pos (by omega), if_neg (by omega)]; done) | (rw [if_neg (by omega), if_neg (by omega)]; done) | (rw [if_neg (by omega), if_pos (by omega), if_pos (by omega)]; done) | (exact absurd rfl c_68))
        ·
          refine lv_iload_n hx hb dX6_tryPlan_93 rfl (lv_at hl 2 rfl) ?_
          refine lv_goto (tgt := 101) hx hb dX6_tryPlan_94 (by decide) ?_
          refine va_put (D := D) (C := RX6) (T := TX6) (N := 16) (ci := 6) (v := .int (iI mk)) (ty := .int) hx hb hts iw_X6_tryPlan_6 tyX6 tyX6_ok nmX6 hown hK hP hD hS 0 rfl rfl 12 (by decide) (hts _ fl_X6_tryPlan_102) (fun _ h9 => h9) rfl (by decide +kernel) rfl rfl (Nat.le_of_ble_eq_true rfl) dX6_tryPlan_101 (fun H locs hP hD hS => ?_)
          replace hP : va_P D vwCl [oM mo n1 v_1 co mk (ag + 1) (pn + 1), ai (cy 0) (mo 1) 98 (stF lt mn pt tk mr od rm (tkC (hasI pt lt) (asg (usd (hasI pt lt) od 10) (bl mk)) cd 10)), ai (cy 0) (mo 4) 24 v_2, ai (cy 0) (mo 5) 24 v_3, ai (cy 0) (mo 6) 24 v_4, ai (cy 0) (mo 7) 24 v_5, ai (cy 0) (mo 8) 4 v_6] H := hP
          replace hD : va_D A [oM mo n1 v_1 co mk (ag + 1) (pn + 1), ai (cy 0) (mo 1) 98 (stF lt mn pt tk mr od rm (tkC (hasI pt lt) (asg (usd (hasI pt lt) od 10) (bl mk)) cd 10)), ai (cy 0) (mo 4) 24 v_2, ai (cy 0) (mo 5) 24 v_3, ai (cy 0) (mo 6) 24 v_4, ai (cy 0) (mo 7) 24 v_5, ai (cy 0) (mo 8) 4 v_6] := hD
          exact hret [0, 1, 2, 3, 4, 5, 6] (n1, v_1, co, ag + 1, mk, v_2, v_3, v_4, v_5, v_6) dX6_tryPlan_104 hP hD hS (by decide) rfl (by (show _ = if bp < 0 ∨ cst lt mn pt tk mr rm (usd (hasI pt lt) od 10) k (bl mk) < co then (cst lt mn pt tk mr rm (usd (hasI pt lt) od 10) k (bl mk), 1, mk) else if cst lt mn pt tk mr rm (usd (hasI pt lt) od 10) k (bl mk) = co then (co, ag + 1, if zand (zand mk (zxor mk bp)) (-zxor mk bp) ≠ 0 then mk else bp) else (co, ag, bp)); rw [← hcs]; first | (exact (if_pos (by omega)).symm) | (rw [if_neg (by omega), if_pos (by omega), if_pos (by omega), ← c_68]; done) | (rw [if_neg (by omega), if_pos (by omega), if_neg (by omega)]; done) | (rw [if_neg (by omega), if_neg (by omega)]; done) | (rw [if_neg (by omega), if_pos (by omega), if_pos (by omega)]; done) | (exact absurd rfl c_68))
    ·
      refine lv_aload_n hx hb dX6_tryPlan_48 rfl (lv_at hl 1 rfl) ?_
      refine lv_iload_n hx hb dX6_tryPlan_49 rfl (lv_at hl 0 rfl) ?_
      refine va_put (D := D) (C := RX6) (T := TX6) (N := 16) (ci := 6) (v := .int (iI (lt - n1))) (ty := .int) hx hb hts iw_X6_tryPlan_6 tyX6 tyX6_ok nmX6 hown hK hP hD hS 0 rfl rfl 11 (by decide) (hts _ fl_X6_tryPlan_105) (fun _ h9 => h9) rfl (by decide +kernel) rfl rfl (Nat.le_of_ble_eq_true rfl) dX6_tryPlan_50 (fun H locs hP hD hS => ?_)
      replace hP : va_P D vwCl [oM mo n1 v_1 (lt - n1) bp ag (pn + 1), ai (cy 0) (mo 1) 98 (stF lt mn pt tk mr od rm (tkC (hasI pt lt) (asg (usd (hasI pt lt) od 10) (bl mk)) cd 10)), ai (cy 0) (mo 4) 24 v_2, ai (cy 0) (mo 5) 24 v_3, ai (cy 0) (mo 6) 24 v_4, ai (cy 0) (mo 7) 24 v_5, ai (cy 0) (mo 8) 4 v_6] H := hP
      replace hD : va_D A [oM mo n1 v_1 (lt - n1) bp ag (pn + 1), ai (cy 0) (mo 1) 98 (stF lt mn pt tk mr od rm (tkC (hasI pt lt) (asg (usd (hasI pt lt) od 10) (bl mk)) cd 10)), ai (cy 0) (mo 4) 24 v_2, ai (cy 0) (mo 5) 24 v_3, ai (cy 0) (mo 6) 24 v_4, ai (cy 0) (mo 7) 24 v_5, ai (cy 0) (mo 8) 4 v_6] := hD
      refine lv_aload_n hx hb dX6_tryPlan_53 rfl (lv_at hl 1 rfl) ?_
      refine r_const hx hb dX6_tryPlan_54 ?_
      refine va_put (D := D) (C := RX6) (T := TX6) (N := 16) (ci := 6) (v := .int (iI 0)) (ty := .int) hx hb hts iw_X6_tryPlan_6 tyX6 tyX6_ok nmX6 hown hK hP hD hS 0 rfl rfl 13 (by decide) (hts _ fl_X6_tryPlan_108) (fun _ h9 => h9) rfl (by decide +kernel) rfl rfl (Nat.le_of_ble_eq_true rfl) dX6_tryPlan_55 (fun H locs hP hD hS => ?_)
      replace hP : va_P D vwCl [oM mo n1 v_1 (lt - n1) bp 0 (pn + 1), ai (cy 0) (mo 1) 98 (stF lt mn pt tk mr od rm (tkC (hasI pt lt) (asg (usd (hasI pt lt) od 10) (bl mk)) cd 10)), ai (cy 0) (mo 4) 24 v_2, ai (cy 0) (mo 5) 24 v_3, ai (cy 0) (mo 6) 24 v_4, ai (cy 0) (mo 7) 24 v_5, ai (cy 0) (mo 8) 4 v_6] H := hP
      replace hD : va_D A [oM mo n1 v_1 (lt - n1) bp 0 (pn + 1), ai (cy 0) (mo 1) 98 (stF lt mn pt tk mr od rm (tkC (hasI pt lt) (asg (usd (hasI pt lt) od 10) (bl mk)) cd 10)), ai (cy 0) (mo 4) 24 v_2, ai (cy 0) (mo 5) 24 v_3, ai (cy 0) (mo 6) 24 v_4, ai (cy 0) (mo 7) 24 v_5, ai (cy 0) (mo 8) 4 v_6] := hD
      refine lv_aload_n hx hb dX6_tryPlan_58 rfl (lv_at hl 1 rfl) ?_
      refine lv_iload_n hx hb dX6_tryPlan_59 rfl (lv_at hl 2 rfl) ?_
      refine va_put (D := D) (C := RX6) (T := TX6) (N := 16) (ci := 6) (v := .int (iI mk)) (ty := .int) hx hb hts iw_X6_tryPlan_6 tyX6 tyX6_ok nmX6 hown hK hP hD hS 0 rfl rfl 12 (by decide) (hts _ fl_X6_tryPlan_102) (fun _ h9 => h9) rfl (by decide +kernel) rfl rfl (Nat.le_of_ble_eq_true rfl) dX6_tryPlan_60 (fun H locs hP hD hS => ?_)
      replace hP : va_P D vwCl [oM mo n1 v_1 (lt - n1) mk 0 (pn + 1), ai (cy 0) (mo 1) 98 (stF lt mn pt tk mr od rm (tkC (hasI pt lt) (asg (usd (hasI pt lt) od 10) (bl mk)) cd 10)), ai (cy 0) (mo 4) 24 v_2, ai (cy 0) (mo 5) 24 v_3, ai (cy 0) (mo 6) 24 v_4, ai (cy 0) (mo 7) 24 v_5, ai (cy 0) (mo 8) 4 v_6] H := hP
      replace hD : va_D A [oM mo n1 v_1 (lt - n1) mk 0 (pn + 1), ai (cy 0) (mo 1) 98 (stF lt mn pt tk mr od rm (tkC (hasI pt lt) (asg (usd (hasI pt lt) od 10) (bl mk)) cd 10)), ai (cy 0) (mo 4) 24 v_2, ai (cy 0) (mo 5) 24 v_3, ai (cy 0) (mo 6) 24 v_4, ai (cy 0) (mo 7) 24 v_5, ai (cy 0) (mo 8) 4 v_6] := hD
      refine lv_iload_n hx hb dX6_tryPlan_63 rfl (lv_at hl 0 rfl) ?_
      refine lv_aload_n hx hb dX6_tryPlan_64 rfl (lv_at hl 1 rfl) ?_
      refine va_get (D := D) (C := RX6) (T := TX6) (N := 16) (ci := 6) (v := .int (iI (lt - n1))) hx hb hts iw_X6_tryPlan_6 hown hK hP 0 rfl rfl 11 (by decide) (hts _ fl_X6_tryPlan_105) (fun _ h9 => h9) rfl dX6_tryPlan_65 ?_
      refine r_ne hx hb 104 dX6_tryPlan_68 (by decide) ⟨by omega, by omega⟩ ⟨by omega, by omega⟩ (fun c_68 => ?_) (fun c_68 => ?_)
      ·
        exact hret [0, 1, 2, 3, 4, 5, 6] (n1, v_1, lt - n1, 0, mk, v_2, v_3, v_4, v_5, v_6) dX6_tryPlan_104 hP hD hS (by decide) rfl (by (show _ = if bp < 0 ∨ cst lt mn pt tk mr rm (usd (hasI pt lt) od 10) k (bl mk) < co then (cst lt mn pt tk mr rm (usd (hasI pt lt) od 10) k (bl mk), 1, mk) else if cst lt mn pt tk mr rm (usd (hasI pt lt) od 10) k (bl mk) = co then (co, ag + 1, if zand (zand mk (zxor mk bp)) (-zxor mk bp) ≠ 0 then mk else bp) else (co, ag, bp)); rw [← hcs]; first | (exact (if_pos (by omega)).symm) | (rw [if_neg (by omega), if_pos (by omega), if_pos (by omega), ← c_68]; done) | (rw [if_neg (by omega), if_pos (by omega), if_neg (by omega)]; done) | (rw [if_neg (by omega), if_neg (by omega)]; done) | (rw [if_neg (by omega), if_pos (by omega), if_pos (by omega)]; done) | (exact absurd rfl c_68))
      ·
        refine lv_aload_n hx hb dX6_tryPlan_71 rfl (lv_at hl 1 rfl) ?_
        refine lv_dup hx hb dX6_tryPlan_72 rfl ?_
        refine va_get (D := D) (C := RX6) (T := TX6) (N := 16) (ci := 6) (v := .int (iI 0)) hx hb hts iw_X6_tryPlan_6 hown hK hP 0 rfl rfl 13 (by decide) (hts _ fl_X6_tryPlan_108) (fun _ h9 => h9) rfl dX6_tryPlan_73 ?_
        refine r_const hx hb dX6_tryPlan_76 ?_
        refine r_add hx hb dX6_tryPlan_77 ?_
        refine va_put (D := D) (C := RX6) (T := TX6) (N := 16) (ci := 6) (v := .int (iI (0 + 1))) (ty := .int) hx hb hts iw_X6_tryPlan_6 tyX6 tyX6_ok nmX6 hown hK hP hD hS 0 rfl rfl 13 (by decide) (hts _ fl_X6_tryPlan_108) (fun _ h9 => h9) rfl (by decide +kernel) rfl rfl (Nat.le_of_ble_eq_true rfl) dX6_tryPlan_78 (fun H locs hP hD hS => ?_)
        replace hP : va_P D vwCl [oM mo n1 v_1 (lt - n1) mk (0 + 1) (pn + 1), ai (cy 0) (mo 1) 98 (stF lt mn pt tk mr od rm (tkC (hasI pt lt) (asg (usd (hasI pt lt) od 10) (bl mk)) cd 10)), ai (cy 0) (mo 4) 24 v_2, ai (cy 0) (mo 5) 24 v_3, ai (cy 0) (mo 6) 24 v_4, ai (cy 0) (mo 7) 24 v_5, ai (cy 0) (mo 8) 4 v_6] H := hP
        replace hD : va_D A [oM mo n1 v_1 (lt - n1) mk (0 + 1) (pn + 1), ai (cy 0) (mo 1) 98 (stF lt mn pt tk mr od rm (tkC (hasI pt lt) (asg (usd (hasI pt lt) od 10) (bl mk)) cd 10)), ai (cy 0) (mo 4) 24 v_2, ai (cy 0) (mo 5) 24 v_3, ai (cy 0) (mo 6) 24 v_4, ai (cy 0) (mo 7) 24 v_5, ai (cy 0) (mo 8) 4 v_6] := hD
        refine lv_aload_n hx hb dX6_tryPlan_81 rfl (lv_at hl 1 rfl) ?_
        refine lv_iload_n hx hb dX6_tryPlan_82 rfl (lv_at hl 2 rfl) ?_
        refine lv_aload_n hx hb dX6_tryPlan_83 rfl (lv_at hl 1 rfl) ?_
        refine va_get (D := D) (C := RX6) (T := TX6) (N := 16) (ci := 6) (v := .int (iI mk)) hx hb hts iw_X6_tryPlan_6 hown hK hP 0 rfl rfl 12 (by decide) (hts _ fl_X6_tryPlan_102) (fun _ h9 => h9) rfl dX6_tryPlan_84 ?_
        have M_87 := k_X6_isAhead l D cy  H.size mk mk (by omega) (by omega)
        refine kS_i (wr := [oM mo n1 v_1 (lt - n1) mk (0 + 1) (pn + 1), ai (cy 0) (mo 1) 98 (stF lt mn pt tk mr od rm (tkC (hasI pt lt) (asg (usd (hasI pt lt) od 10) (bl mk)) cd 10)), ai (cy 0) (mo 4) 24 v_2, ai (cy 0) (mo 5) 24 v_3, ai (cy 0) (mo 6) 24 v_4, ai (cy 0) (mo 7) 24 v_5, ai (cy 0) (mo 8) 4 v_6]) (As := [.int (iI mk), .int (iI mk)]) (rest := [.ref (mo 0)]) ⟨hx, hb, hml, hown, hts⟩ M_87 (va_cwS 2 hts gX6_tryPlan_X6_isAhead rfl rfl rfl (by decide +kernel) ⟨Nat.le_of_ble_eq_true rfl, Nat.le_of_ble_eq_true rfl⟩) hN hK hP hD hS hA [] [0, 1, 2, 3, 4, 5, 6] rfl rfl (by decide) (by decide) (by decide) rfl hl.1 rfl (Nat.le_of_ble_eq_true rfl) dX6_tryPlan_87 ⟨Nat.le_of_ble_eq_true rfl, Nat.le_of_ble_eq_true rfl⟩ (fun r_87 u_87 H locs hw_87 hP hD hS => ?_)
        replace hP : va_P D vwCl [oM mo n1 v_1 (lt - n1) mk (0 + 1) (pn + 1), ai (cy 0) (mo 1) 98 (stF lt mn pt tk mr od rm (tkC (hasI pt lt) (asg (usd (hasI pt lt) od 10) (bl mk)) cd 10)), ai (cy 0) (mo 4) 24 v_2, ai (cy 0) (mo 5) 24 v_3, ai (cy 0) (mo 6) 24 v_4, ai (cy 0) (mo 7) 24 v_5, ai (cy 0) (mo 8) 4 v_6] H := hP
        replace hD : va_D A [oM mo n1 v_1 (lt - n1) mk (0 + 1) (pn + 1), ai (cy 0) (mo 1) 98 (stF lt mn pt tk mr od rm (tkC (hasI pt lt) (asg (usd (hasI pt lt) od 10) (bl mk)) cd 10)), ai (cy 0) (mo 4) 24 v_2, ai (cy 0) (mo 5) 24 v_3, ai (cy 0) (mo 6) 24 v_4, ai (cy 0) (mo 7) 24 v_5, ai (cy 0) (mo 8) 4 v_6] := hD
        refine r_eq0 hx hb 97 dX6_tryPlan_90 (by decide) ⟨by omega, by omega⟩ (fun c_90 => ?_) (fun c_90 => ?_)
        ·
          refine lv_aload_n hx hb dX6_tryPlan_97 rfl (lv_at hl 1 rfl) ?_
          refine va_get (D := D) (C := RX6) (T := TX6) (N := 16) (ci := 6) (v := .int (iI mk)) hx hb hts iw_X6_tryPlan_6 hown hK hP 0 rfl rfl 12 (by decide) (hts _ fl_X6_tryPlan_102) (fun _ h9 => h9) rfl dX6_tryPlan_98 ?_
          refine va_put (D := D) (C := RX6) (T := TX6) (N := 16) (ci := 6) (v := .int (iI mk)) (ty := .int) hx hb hts iw_X6_tryPlan_6 tyX6 tyX6_ok nmX6 hown hK hP hD hS 0 rfl rfl 12 (by decide) (hts _ fl_X6_tryPlan_102) (fun _ h9 => h9) rfl (by decide +kernel) rfl rfl (Nat.le_of_ble_eq_true rfl) dX6_tryPlan_101 (fun H locs hP hD hS => ?_)
          replace hP : va_P D vwCl [oM mo n1 v_1 (lt - n1) mk (0 + 1) (pn + 1), ai (cy 0) (mo 1) 98 (stF lt mn pt tk mr od rm (tkC (hasI pt lt) (asg (usd (hasI pt lt) od 10) (bl mk)) cd 10)), ai (cy 0) (mo 4) 24 v_2, ai (cy 0) (mo 5) 24 v_3, ai (cy 0) (mo 6) 24 v_4, ai (cy 0) (mo 7) 24 v_5, ai (cy 0) (mo 8) 4 v_6] H := hP
          replace hD : va_D A [oM mo n1 v_1 (lt - n1) mk (0 + 1) (pn + 1), ai (cy 0) (mo 1) 98 (stF lt mn pt tk mr od rm (tkC (hasI pt lt) (asg (usd (hasI pt lt) od 10) (bl mk)) cd 10)), ai (cy 0) (mo 4) 24 v_2, ai (cy 0) (mo 5) 24 v_3, ai (cy 0) (mo 6) 24 v_4, ai (cy 0) (mo 7) 24 v_5, ai (cy 0) (mo 8) 4 v_6] := hD
          exact hret [0, 1, 2, 3, 4, 5, 6] (n1, v_1, lt - n1, 0 + 1, mk, v_2, v_3, v_4, v_5, v_6) dX6_tryPlan_104 hP hD hS (by decide) rfl (by (show _ = if bp < 0 ∨ cst lt mn pt tk mr rm (usd (hasI pt lt) od 10) k (bl mk) < co then (cst lt mn pt tk mr rm (usd (hasI pt lt) od 10) k (bl mk), 1, mk) else if cst lt mn pt tk mr rm (usd (hasI pt lt) od 10) k (bl mk) = co then (co, ag + 1, if zand (zand mk (zxor mk bp)) (-zxor mk bp) ≠ 0 then mk else bp) else (co, ag, bp)); rw [← hcs]; first | (exact (if_pos (by omega)).symm) | (rw [if_neg (by omega), if_pos (by omega), if_pos (by omega), ← c_68]; done) | (rw [if_neg (by omega), if_pos (by omega), if_neg (by omega)]; done) | (rw [if_neg (by omega), if_neg (by omega)]; done) | (rw [if_neg (by omega), if_pos (by omega), if_pos (by omega)]; done) | (exact absurd rfl c_68))
        ·
          refine lv_iload_n hx hb dX6_tryPlan_93 rfl (lv_at hl 2 rfl) ?_
          refine lv_goto (tgt := 101) hx hb dX6_tryPlan_94 (by decide) ?_
          refine va_put (D := D) (C := RX6) (T := TX6) (N := 16) (ci := 6) (v := .int (iI mk)) (ty := .int) hx hb hts iw_X6_tryPlan_6 tyX6 tyX6_ok nmX6 hown hK hP hD hS 0 rfl rfl 12 (by decide) (hts _ fl_X6_tryPlan_102) (fun _ h9 => h9) rfl (by decide +kernel) rfl rfl (Nat.le_of_ble_eq_true rfl) dX6_tryPlan_101 (fun H locs hP hD hS => ?_)
          replace hP : va_P D vwCl [oM mo n1 v_1 (lt - n1) mk (0 + 1) (pn + 1), ai (cy 0) (mo 1) 98 (stF lt mn pt tk mr od rm (tkC (hasI pt lt) (asg (usd (hasI pt lt) od 10) (bl mk)) cd 10)), ai (cy 0) (mo 4) 24 v_2, ai (cy 0) (mo 5) 24 v_3, ai (cy 0) (mo 6) 24 v_4, ai (cy 0) (mo 7) 24 v_5, ai (cy 0) (mo 8) 4 v_6] H := hP
          replace hD : va_D A [oM mo n1 v_1 (lt - n1) mk (0 + 1) (pn + 1), ai (cy 0) (mo 1) 98 (stF lt mn pt tk mr od rm (tkC (hasI pt lt) (asg (usd (hasI pt lt) od 10) (bl mk)) cd 10)), ai (cy 0) (mo 4) 24 v_2, ai (cy 0) (mo 5) 24 v_3, ai (cy 0) (mo 6) 24 v_4, ai (cy 0) (mo 7) 24 v_5, ai (cy 0) (mo 8) 4 v_6] := hD
          exact hret [0, 1, 2, 3, 4, 5, 6] (n1, v_1, lt - n1, 0 + 1, mk, v_2, v_3, v_4, v_5, v_6) dX6_tryPlan_104 hP hD hS (by decide) rfl (by (show _ = if bp < 0 ∨ cst lt mn pt tk mr rm (usd (hasI pt lt) od 10) k (bl mk) < co then (cst lt mn pt tk mr rm (usd (hasI pt lt) od 10) k (bl mk), 1, mk) else if cst lt mn pt tk mr rm (usd (hasI pt lt) od 10) k (bl mk) = co then (co, ag + 1, if zand (zand mk (zxor mk bp)) (-zxor mk bp) ≠ 0 then mk else bp) else (co, ag, bp)); rw [← hcs]; first | (exact (if_pos (by omega)).symm) | (rw [if_neg (by omega), if_pos (by omega), if_pos (by omega), ← c_68]; done) | (rw [if_neg (by omega), if_pos (by omega), if_neg (by omega)]; done) | (rw [if_neg (by omega), if_neg (by omega)]; done) | (rw [if_neg (by omega), if_pos (by omega), if_pos (by omega)]; done) | (exact absurd rfl c_68))
abbrev rm_X6_layBest : Room := { frames := 5, cells := 0, slots := 0, locals := 115 }
theorem fl_X6_layBest_99 : Cond.fieldLink RX6 99 "WalkPassesModel" "plans" "I" ∈ wsX6_layBest := by decide +kernel
theorem fl_X6_layBest_102 : Cond.fieldLink RX6 102 "WalkPassesModel" "bestPlan" "I" ∈ wsX6_layBest := by decide +kernel
theorem fl_X6_layBest_105 : Cond.fieldLink RX6 105 "WalkPassesModel" "cost" "I" ∈ wsX6_layBest := by decide +kernel
theorem fl_X6_layBest_108 : Cond.fieldLink RX6 108 "WalkPassesModel" "asGood" "I" ∈ wsX6_layBest := by decide +kernel
theorem iw_X6_layBest_6 : ∀ w ∈ u_ws RX6 TX6 16, w ∈ wsX6_layBest := by decide +kernel
set_option maxHeartbeats 4000000 in
set_option maxRecDepth 100000 in
theorem k_X6_layBest (l : Launch) (D : va_G) (cy : Nat → ClassId) (mo : Nat → Nat) (z : Nat) (rn sn co bp ag pn : Int) (lt mn : Int) (pt tk mr od pl rm cd : Int → Int) (rv sw gt sa ld : Int → Int) (cq : Int → Int) (k : Int) (hI : DI lt mn pt tk mr od pl rm cd) (hk : 1 ≤ k ∧ k ≤ 3) (hpw : pw mn k.toNat ≤ 16) : CtV l yX6_layBest wsX6_layBest rm_X6_layBest D (tyL cy) [.ref (mo 0), .int (iI k)] [oM mo rn sn co bp ag pn, ai (cy 0) (mo 1) 98 (stF lt mn pt tk mr od rm cd), ai (cy 0) (mo 4) 24 rv, ai (cy 0) (mo 5) 24 sw, ai (cy 0) (mo 6) 24 gt, ai (cy 0) (mo 7) 24 sa, ai (cy 0) (mo 8) 4 ld, ai (cy 0) (mo 9) 10 cq] z (fun (u : Int × Int × Int × Int × Int × Int × (Int → Int) × (Int → Int) × (Int → Int) × (Int → Int) × (Int → Int)) => LayR lt mn pt tk mr od rm k u.2.2.1 u.2.2.2.1 u.2.2.2.2.1 u.2.2.2.2.2.1) (fun (u : Int × Int × Int × Int × Int × Int × (Int → Int) × (Int → Int) × (Int → Int) × (Int → Int) × (Int → Int)) => [oM mo u.1 u.2.1 u.2.2.1 u.2.2.2.1 u.2.2.2.2.1 u.2.2.2.2.2.1, ai (cy 0) (mo 1) 98 (stF lt mn pt tk mr od rm cd), ai (cy 0) (mo 4) 24 u.2.2.2.2.2.2.1, ai (cy 0) (mo 5) 24 u.2.2.2.2.2.2.2.1, ai (cy 0) (mo 6) 24 u.2.2.2.2.2.2.2.2.1, ai (cy 0) (mo 7) 24 u.2.2.2.2.2.2.2.2.2.1, ai (cy 0) (mo 8) 4 u.2.2.2.2.2.2.2.2.2.2, ai (cy 0) (mo 9) 10 cd]) 0 0 := by
  refine ct_v (cc := cX6_layBest) (maxL := 4) (by decide) rfl (Nat.le_of_ble_eq_true rfl) ?_
  intro p e s m args below meth c A Q H locs ls hx hb hml hown hin hts hK hN hP hD hS hA hl hret
  replace hl : lv_has ls 4 [(0, .ref (mo 0)), (1, .int (iI k))] := hl
  replace hown : s.vm.findClass RX6 = some m.cls := hown
  obtain ⟨⟨⟨hlt0, hlt1⟩, hmn0, hmn1⟩, ⟨hpt, htk, hmr⟩, ⟨hod, hpl, hpo, hop⟩, hrm, hcd⟩ := id hI
  have hpb := pw_b hmn0 hmn1 (n := k.toNat) (by omega)
  have hsh : zshl 1 (pw mn k.toNat) = ((2 ^ (pw mn k.toNat).toNat : Nat) : Int) := by have e := shl_one (pw mn k.toNat).toNat (by omega); rw [show (((pw mn k.toNat).toNat : Nat) : Int) = pw mn k.toNat by omega] at e; exact e
  have h2p : ((2 ^ (pw mn k.toNat).toNat : Nat) : Int) ≤ 65536 := by have e : (2 : Nat) ^ (pw mn k.toNat).toNat ≤ 2 ^ 16 := Nat.pow_le_pow_right (by decide) (by omega); (have e2 : (2 : Nat) ^ 16 = 65536 := by decide); omega
  have h2p0 : (0 : Int) ≤ ((2 ^ (pw mn k.toNat).toNat : Nat) : Int) := Int.natCast_nonneg _
  have hcnt := usd_cnt (hs := hasI pt lt) (fun q => by have := hasI_b pt lt q; omega) hod hpl hpo hop
  refine lv_aload_n hx hb dX6_layBest_0 rfl (lv_at hl 0 rfl) ?_
  refine r_const hx hb dX6_layBest_1 ?_
  refine va_put (D := D) (C := RX6) (T := TX6) (N := 16) (ci := 6) (v := .int (iI 0)) (ty := .int) hx hb hts iw_X6_layBest_6 tyX6 tyX6_ok nmX6 hown hK hP hD hS 0 rfl rfl 14 (by decide) (hts _ fl_X6_layBest_99) (fun _ h9 => h9) rfl (by decide +kernel) rfl rfl (Nat.le_of_ble_eq_true rfl) dX6_layBest_2 (fun H locs hP hD hS => ?_)
  replace hP : va_P D vwCl [oM mo rn sn co bp ag 0, ai (cy 0) (mo 1) 98 (stF lt mn pt tk mr od rm cd), ai (cy 0) (mo 4) 24 rv, ai (cy 0) (mo 5) 24 sw, ai (cy 0) (mo 6) 24 gt, ai (cy 0) (mo 7) 24 sa, ai (cy 0) (mo 8) 4 ld, ai (cy 0) (mo 9) 10 cq] H := hP
  replace hD : va_D A [oM mo rn sn co bp ag 0, ai (cy 0) (mo 1) 98 (stF lt mn pt tk mr od rm cd), ai (cy 0) (mo 4) 24 rv, ai (cy 0) (mo 5) 24 sw, ai (cy 0) (mo 6) 24 gt, ai (cy 0) (mo 7) 24 sa, ai (cy 0) (mo 8) 4 ld, ai (cy 0) (mo 9) 10 cq] := hD
  refine lv_aload_n hx hb dX6_layBest_5 rfl (lv_at hl 0 rfl) ?_
  refine r_const hx hb dX6_layBest_6 ?_
  refine va_put (D := D) (C := RX6) (T := TX6) (N := 16) (ci := 6) (v := .int (iI 0)) (ty := .int) hx hb hts iw_X6_layBest_6 tyX6 tyX6_ok nmX6 hown hK hP hD hS 0 rfl rfl 13 (by decide) (hts _ fl_X6_layBest_108) (fun _ h9 => h9) rfl (by decide +kernel) rfl rfl (Nat.le_of_ble_eq_true rfl) dX6_layBest_7 (fun H locs hP hD hS => ?_)
  replace hP : va_P D vwCl [oM mo rn sn co bp 0 0, ai (cy 0) (mo 1) 98 (stF lt mn pt tk mr od rm cd), ai (cy 0) (mo 4) 24 rv, ai (cy 0) (mo 5) 24 sw, ai (cy 0) (mo 6) 24 gt, ai (cy 0) (mo 7) 24 sa, ai (cy 0) (mo 8) 4 ld, ai (cy 0) (mo 9) 10 cq] H := hP
  replace hD : va_D A [oM mo rn sn co bp 0 0, ai (cy 0) (mo 1) 98 (stF lt mn pt tk mr od rm cd), ai (cy 0) (mo 4) 24 rv, ai (cy 0) (mo 5) 24 sw, ai (cy 0) (mo 6) 24 gt, ai (cy 0) (mo 7) 24 sa, ai (cy 0) (mo 8) 4 ld, ai (cy 0) (mo 9) 10 cq] := hD
  refine lv_aload_n hx hb dX6_layBest_10 rfl (lv_at hl 0 rfl) ?_
  refine r_bip hx hb (-6) dX6_layBest_11 (by decide) ?_
  refine va_put (D := D) (C := RX6) (T := TX6) (N := 16) (ci := 6) (v := .int (iI (-6))) (ty := .int) hx hb hts iw_X6_layBest_6 tyX6 tyX6_ok nmX6 hown hK hP hD hS 0 rfl rfl 12 (by decide) (hts _ fl_X6_layBest_102) (fun _ h9 => h9) rfl (by decide +kernel) rfl rfl (Nat.le_of_ble_eq_true rfl) dX6_layBest_13 (fun H locs hP hD hS => ?_)
  replace hP : va_P D vwCl [oM mo rn sn co (-6) 0 0, ai (cy 0) (mo 1) 98 (stF lt mn pt tk mr od rm cd), ai (cy 0) (mo 4) 24 rv, ai (cy 0) (mo 5) 24 sw, ai (cy 0) (mo 6) 24 gt, ai (cy 0) (mo 7) 24 sa, ai (cy 0) (mo 8) 4 ld, ai (cy 0) (mo 9) 10 cq] H := hP
  replace hD : va_D A [oM mo rn sn co (-6) 0 0, ai (cy 0) (mo 1) 98 (stF lt mn pt tk mr od rm cd), ai (cy 0) (mo 4) 24 rv, ai (cy 0) (mo 5) 24 sw, ai (cy 0) (mo 6) 24 gt, ai (cy 0) (mo 7) 24 sa, ai (cy 0) (mo 8) 4 ld, ai (cy 0) (mo 9) 10 cq] := hD
  refine lv_aload_n hx hb dX6_layBest_16 rfl (lv_at hl 0 rfl) ?_
  refine r_bip hx hb (-6) dX6_layBest_17 (by decide) ?_
  refine va_put (D := D) (C := RX6) (T := TX6) (N := 16) (ci := 6) (v := .int (iI (-6))) (ty := .int) hx hb hts iw_X6_layBest_6 tyX6 tyX6_ok nmX6 hown hK hP hD hS 0 rfl rfl 11 (by decide) (hts _ fl_X6_layBest_105) (fun _ h9 => h9) rfl (by decide +kernel) rfl rfl (Nat.le_of_ble_eq_true rfl) dX6_layBest_19 (fun H locs hP hD hS => ?_)
  replace hP : va_P D vwCl [oM mo rn sn (-6) (-6) 0 0, ai (cy 0) (mo 1) 98 (stF lt mn pt tk mr od rm cd), ai (cy 0) (mo 4) 24 rv, ai (cy 0) (mo 5) 24 sw, ai (cy 0) (mo 6) 24 gt, ai (cy 0) (mo 7) 24 sa, ai (cy 0) (mo 8) 4 ld, ai (cy 0) (mo 9) 10 cq] H := hP
  replace hD : va_D A [oM mo rn sn (-6) (-6) 0 0, ai (cy 0) (mo 1) 98 (stF lt mn pt tk mr od rm cd), ai (cy 0) (mo 4) 24 rv, ai (cy 0) (mo 5) 24 sw, ai (cy 0) (mo 6) 24 gt, ai (cy 0) (mo 7) 24 sa, ai (cy 0) (mo 8) 4 ld, ai (cy 0) (mo 9) 10 cq] := hD
  refine lv_aload_n hx hb dX6_layBest_22 rfl (lv_at hl 0 rfl) ?_
  have M_23 := k_X6_usedMany l D cy mo H.size rn sn (-6) (-6) 0 0 lt mn pt tk mr od pl rm cd (⟨⟨hlt0, hlt1⟩, hpt⟩)
  refine kV_i (wr := [ai (cy 0) (mo 4) 24 rv, ai (cy 0) (mo 5) 24 sw, ai (cy 0) (mo 6) 24 gt, ai (cy 0) (mo 7) 24 sa, ai (cy 0) (mo 8) 4 ld, ai (cy 0) (mo 9) 10 cq]) (As := []) (rest := []) (q := (RX6, TX6, 16)) (ci := 6) ⟨hx, hb, hml, hown, hts⟩ M_23 0 rfl rfl (cwV 0 hts gX6_layBest_X6_usedMany rfl rfl rfl (by decide +kernel) ⟨Nat.le_of_ble_eq_true rfl, Nat.le_of_ble_eq_true rfl⟩) hN hK hP hD hS hA [0, 1] [2, 3, 4, 5, 6, 7] rfl rfl (by decide) (by decide) (by decide) rfl hl.1 rfl (Nat.le_of_ble_eq_true rfl) dX6_layBest_23 ⟨Nat.le_of_ble_eq_true rfl, Nat.le_of_ble_eq_true rfl⟩ (fun r_23 u_23 H locs hw_23 hP hD hS => ?_)
  replace hP : va_P D vwCl [ai (cy 0) (mo 4) 24 rv, ai (cy 0) (mo 5) 24 sw, ai (cy 0) (mo 6) 24 gt, ai (cy 0) (mo 7) 24 sa, ai (cy 0) (mo 8) 4 ld, ai (cy 0) (mo 9) 10 cq, oM mo rn sn (-6) (-6) 0 0, ai (cy 0) (mo 1) 98 (stF lt mn pt tk mr od rm cd)] H := hP
  replace hD : va_D A [ai (cy 0) (mo 4) 24 rv, ai (cy 0) (mo 5) 24 sw, ai (cy 0) (mo 6) 24 gt, ai (cy 0) (mo 7) 24 sa, ai (cy 0) (mo 8) 4 ld, ai (cy 0) (mo 9) 10 cq, oM mo rn sn (-6) (-6) 0 0, ai (cy 0) (mo 1) 98 (stF lt mn pt tk mr od rm cd)] := hD
  rw [hcnt] at hw_23
  have hu10 := usd_len (hasI pt lt) od 10
  refine lv_istore_n (lv' := [(2, .int (iI r_23)), (0, .ref (mo 0)), (1, .int (iI k))]) hx hb dX6_layBest_26 rfl hl (by decide) rfl (fun ls hl => ?_)
  refine lv_aload_n hx hb dX6_layBest_27 rfl (lv_at hl 1 rfl) ?_
  have M_28 := k_X6_saveCodes l D cy mo H.size rn sn (-6) (-6) 0 0 lt mn pt tk mr od pl rm cd cq 
  refine kV_v (wr := [ai (cy 0) (mo 4) 24 rv, ai (cy 0) (mo 5) 24 sw, ai (cy 0) (mo 6) 24 gt, ai (cy 0) (mo 7) 24 sa, ai (cy 0) (mo 8) 4 ld]) (As := []) (rest := []) (q := (RX6, TX6, 16)) (ci := 6) ⟨hx, hb, hml, hown, hts⟩ M_28 6 rfl rfl (cwV 0 hts gX6_layBest_X6_saveCodes rfl rfl rfl (by decide +kernel) ⟨Nat.le_of_ble_eq_true rfl, Nat.le_of_ble_eq_true rfl⟩) hN hK hP hD hS hA [6, 7, 5] [0, 1, 2, 3, 4] rfl rfl (by decide) (by decide) (by decide) rfl hl.1 rfl (Nat.le_of_ble_eq_true rfl) dX6_layBest_28 ⟨Nat.le_of_ble_eq_true rfl, Nat.le_of_ble_eq_true rfl⟩ (fun u_28 H locs hw_28 hP hD hS => ?_)
  replace hP : va_P D vwCl [ai (cy 0) (mo 4) 24 rv, ai (cy 0) (mo 5) 24 sw, ai (cy 0) (mo 6) 24 gt, ai (cy 0) (mo 7) 24 sa, ai (cy 0) (mo 8) 4 ld, oM mo rn sn (-6) (-6) 0 0, ai (cy 0) (mo 1) 98 (stF lt mn pt tk mr od rm cd), ai (cy 0) (mo 9) 10 cd] H := hP
  replace hD : va_D A [ai (cy 0) (mo 4) 24 rv, ai (cy 0) (mo 5) 24 sw, ai (cy 0) (mo 6) 24 gt, ai (cy 0) (mo 7) 24 sa, ai (cy 0) (mo 8) 4 ld, oM mo rn sn (-6) (-6) 0 0, ai (cy 0) (mo 1) 98 (stF lt mn pt tk mr od rm cd), ai (cy 0) (mo 9) 10 cd] := hD
  refine r_const hx hb dX6_layBest_31 ?_
  refine lv_istore_n (lv' := [(3, .int (iI 0)), (2, .int (iI r_23)), (0, .ref (mo 0)), (1, .int (iI k))]) hx hb dX6_layBest_32 rfl hl (by decide) rfl (fun ls hl => ?_)
  have lp_33 : ∀ (fu : Nat) (x : Int) (n1 : Int) (n2 : Int) (c1 : Int) (b1 : Int) (a1 : Int) (p1 : Int) (B : Int → Int) (RV : Int → Int) (SW : Int → Int) (GT : Int → Int) (SA : Int → Int) (LD : Int → Int), (0 ≤ x ∧ x ≤ ((2 ^ (pw mn k.toNat).toNat : Nat) : Int)) → ((c1, a1, b1) = mbF (fun m => cst lt mn pt tk mr rm (usd (hasI pt lt) od 10) k (bl m)) (msk (usd (hasI pt lt) od 10).length x.toNat)) → (p1 = ((msk (usd (hasI pt lt) od 10).length x.toNat).length : Int)) → (∀ j, 0 ≤ B j ∧ B j ≤ 63) → (b1 = -6 ∨ (0 ≤ b1 ∧ b1 < 65536)) → (-6 ≤ c1 ∧ c1 ≤ 24) → (((2 ^ (pw mn k.toNat).toNat : Nat) : Int) - x).toNat < fu → ∀ (H : Heap) (locs : List Loc), va_P D vwCl [ai (cy 0) (mo 4) 24 RV, ai (cy 0) (mo 5) 24 SW, ai (cy 0) (mo 6) 24 GT, ai (cy 0) (mo 7) 24 SA, ai (cy 0) (mo 8) 4 LD, oM mo n1 n2 c1 b1 a1 p1, ai (cy 0) (mo 1) 98 (stF lt mn pt tk mr od rm B), ai (cy 0) (mo 9) 10 cd] H → va_D A [ai (cy 0) (mo 4) 24 RV, ai (cy 0) (mo 5) 24 SW, ai (cy 0) (mo 6) 24 GT, ai (cy 0) (mo 7) 24 SA, ai (cy 0) (mo 8) 4 LD, oM mo n1 n2 c1 b1 a1 p1, ai (cy 0) (mo 1) 98 (stF lt mn pt tk mr od rm B), ai (cy 0) (mo 9) 10 cd] → va_S A s.heap H locs → ∀ (ls : Array Slot), lv_has ls 4 [(0, .ref (mo 0)), (1, .int (iI k)), (2, .int (iI r_23)), (3, .int (iI x))] → W p l e rm_X6_layBest s m args below meth c H locs 0 0 Q (F0 m 33 ls []) := by
    intro fu
    induction fu with
    | zero =>
      intro x n1 n2 c1 b1 a1 p1 B RV SW GT SA LD h1 h2 h3 hB hb1 hc1 hm
      exact absurd hm (Nat.not_lt_zero _)
    | succ fu ih_33 =>
      intro x n1 n2 c1 b1 a1 p1 B RV SW GT SA LD h1 h2 h3 hB hb1 hc1 hm H locs hP hD hS ls hl
      refine lv_iload_n hx hb dX6_layBest_33 rfl (lv_at hl 3 rfl) ?_
      refine r_const hx hb dX6_layBest_34 ?_
      refine lv_aload_n hx hb dX6_layBest_35 rfl (lv_at hl 0 rfl) ?_
      refine lv_iload_n hx hb dX6_layBest_36 rfl (lv_at hl 1 rfl) ?_
      have M_37 := k_X6_power l D cy mo H.size n1 n2 c1 b1 a1 p1 lt mn pt tk mr od pl rm B k (by omega)
      refine kV_i (wr := [ai (cy 0) (mo 4) 24 RV, ai (cy 0) (mo 5) 24 SW, ai (cy 0) (mo 6) 24 GT, ai (cy 0) (mo 7) 24 SA, ai (cy 0) (mo 8) 4 LD, ai (cy 0) (mo 9) 10 cd]) (As := [.int (iI k)]) (rest := [.int (iI 1), .int (iI x)]) (q := (RX6, TX6, 16)) (ci := 6) ⟨hx, hb, hml, hown, hts⟩ M_37 5 rfl rfl (cwV 1 hts gX6_layBest_X6_power rfl rfl rfl (by decide +kernel) ⟨Nat.le_of_ble_eq_true rfl, Nat.le_of_ble_eq_true rfl⟩) hN hK hP hD hS hA [5, 6] [0, 1, 2, 3, 4, 7] rfl rfl (by decide) (by decide) (by decide) rfl hl.1 rfl (Nat.le_of_ble_eq_true rfl) dX6_layBest_37 ⟨Nat.le_of_ble_eq_true rfl, Nat.le_of_ble_eq_true rfl⟩ (fun r_37 u_37 H locs hw_37 hP hD hS => ?_)
      replace hP : va_P D vwCl [ai (cy 0) (mo 4) 24 RV, ai (cy 0) (mo 5) 24 SW, ai (cy 0) (mo 6) 24 GT, ai (cy 0) (mo 7) 24 SA, ai (cy 0) (mo 8) 4 LD, ai (cy 0) (mo 9) 10 cd, oM mo n1 n2 c1 b1 a1 p1, ai (cy 0) (mo 1) 98 (stF lt mn pt tk mr od rm B)] H := hP
      replace hD : va_D A [ai (cy 0) (mo 4) 24 RV, ai (cy 0) (mo 5) 24 SW, ai (cy 0) (mo 6) 24 GT, ai (cy 0) (mo 7) 24 SA, ai (cy 0) (mo 8) 4 LD, ai (cy 0) (mo 9) 10 cd, oM mo n1 n2 c1 b1 a1 p1, ai (cy 0) (mo 1) 98 (stF lt mn pt tk mr od rm B)] := hD
      subst hw_37
      refine r_shl hx hb dX6_layBest_40 ?_
      refine r_top (((2 ^ (pw mn k.toNat).toNat : Nat) : Int)) (hsh) ?_
      refine r_ge hx hb 64 dX6_layBest_41 (by decide) ⟨by omega, by omega⟩ ⟨by omega, by omega⟩ (fun c_41 => ?_) (fun c_41 => ?_)
      ·
        refine lv_aload_n hx hb dX6_layBest_64 rfl (lv_at hl 0 rfl) ?_
        have M_65 := k_X6_loadCodes l D cy mo H.size n1 n2 c1 b1 a1 p1 lt mn pt tk mr od pl rm B cd 
        refine kV_v (wr := [ai (cy 0) (mo 4) 24 RV, ai (cy 0) (mo 5) 24 SW, ai (cy 0) (mo 6) 24 GT, ai (cy 0) (mo 7) 24 SA, ai (cy 0) (mo 8) 4 LD]) (As := []) (rest := []) (q := (RX6, TX6, 16)) (ci := 6) ⟨hx, hb, hml, hown, hts⟩ M_65 6 rfl rfl (cwV 0 hts gX6_layBest_X6_loadCodes rfl rfl rfl (by decide +kernel) ⟨Nat.le_of_ble_eq_true rfl, Nat.le_of_ble_eq_true rfl⟩) hN hK hP hD hS hA [6, 7, 5] [0, 1, 2, 3, 4] rfl rfl (by decide) (by decide) (by decide) rfl hl.1 rfl (Nat.le_of_ble_eq_true rfl) dX6_layBest_65 ⟨Nat.le_of_ble_eq_true rfl, Nat.le_of_ble_eq_true rfl⟩ (fun u_65 H locs hw_65 hP hD hS => ?_)
        replace hP : va_P D vwCl [ai (cy 0) (mo 4) 24 RV, ai (cy 0) (mo 5) 24 SW, ai (cy 0) (mo 6) 24 GT, ai (cy 0) (mo 7) 24 SA, ai (cy 0) (mo 8) 4 LD, oM mo n1 n2 c1 b1 a1 p1, ai (cy 0) (mo 1) 98 (stF lt mn pt tk mr od rm cd), ai (cy 0) (mo 9) 10 cd] H := hP
        replace hD : va_D A [ai (cy 0) (mo 4) 24 RV, ai (cy 0) (mo 5) 24 SW, ai (cy 0) (mo 6) 24 GT, ai (cy 0) (mo 7) 24 SA, ai (cy 0) (mo 8) 4 LD, oM mo n1 n2 c1 b1 a1 p1, ai (cy 0) (mo 1) 98 (stF lt mn pt tk mr od rm cd), ai (cy 0) (mo 9) 10 cd] := hD
        exact hret [5, 6, 0, 1, 2, 3, 4, 7] (n1, n2, c1, b1, a1, p1, RV, SW, GT, SA, LD) dX6_layBest_68 hP hD hS (by decide) rfl (LayR_of ⟨hlt0, hlt1⟩ ⟨hpb.1, hpw⟩ (by rw [h2, show x.toNat = 2 ^ (pw mn k.toNat).toNat by omega]) (by rw [h3, show x.toNat = 2 ^ (pw mn k.toNat).toNat by omega]))
      ·
        refine lv_iload_n hx hb dX6_layBest_44 rfl (lv_at hl 3 rfl) ?_
        have M_45 := k_X6_size l D cy  H.size x (by omega)
        refine kS_i (wr := [ai (cy 0) (mo 4) 24 RV, ai (cy 0) (mo 5) 24 SW, ai (cy 0) (mo 6) 24 GT, ai (cy 0) (mo 7) 24 SA, ai (cy 0) (mo 8) 4 LD, ai (cy 0) (mo 9) 10 cd, oM mo n1 n2 c1 b1 a1 p1, ai (cy 0) (mo 1) 98 (stF lt mn pt tk mr od rm B)]) (As := [.int (iI x)]) (rest := []) ⟨hx, hb, hml, hown, hts⟩ M_45 (va_cwS 1 hts gX6_layBest_X6_size rfl rfl rfl (by decide +kernel) ⟨Nat.le_of_ble_eq_true rfl, Nat.le_of_ble_eq_true rfl⟩) hN hK hP hD hS hA [] [0, 1, 2, 3, 4, 5, 6, 7] rfl rfl (by decide) (by decide) (by decide) rfl hl.1 rfl (Nat.le_of_ble_eq_true rfl) dX6_layBest_45 ⟨Nat.le_of_ble_eq_true rfl, Nat.le_of_ble_eq_true rfl⟩ (fun r_45 u_45 H locs hw_45 hP hD hS => ?_)
        replace hP : va_P D vwCl [ai (cy 0) (mo 4) 24 RV, ai (cy 0) (mo 5) 24 SW, ai (cy 0) (mo 6) 24 GT, ai (cy 0) (mo 7) 24 SA, ai (cy 0) (mo 8) 4 LD, ai (cy 0) (mo 9) 10 cd, oM mo n1 n2 c1 b1 a1 p1, ai (cy 0) (mo 1) 98 (stF lt mn pt tk mr od rm B)] H := hP
        replace hD : va_D A [ai (cy 0) (mo 4) 24 RV, ai (cy 0) (mo 5) 24 SW, ai (cy 0) (mo 6) 24 GT, ai (cy 0) (mo 7) 24 SA, ai (cy 0) (mo 8) 4 LD, ai (cy 0) (mo 9) 10 cd, oM mo n1 n2 c1 b1 a1 p1, ai (cy 0) (mo 1) 98 (stF lt mn pt tk mr od rm B)] := hD
        have hbl := bl_len x
        refine lv_iload_n hx hb dX6_layBest_48 rfl (lv_at hl 2 rfl) ?_
        refine r_ne hx hb 58 dX6_layBest_49 (by decide) ⟨by omega, by omega⟩ ⟨by omega, by omega⟩ (fun c_49 => ?_) (fun c_49 => ?_)
        ·
          refine r_inc (k := 3) (lv' := [(3, .int (iI (x + 1))), (0, .ref (mo 0)), (1, .int (iI k)), (2, .int (iI r_23))]) hx hb dX6_layBest_58 hl rfl (by decide) rfl (fun ls hl => ?_)
          refine lv_goto (tgt := 33) hx hb dX6_layBest_61 (by decide) ?_
          exact ih_33 (x + 1) n1 n2 c1 b1 a1 p1 B RV SW GT SA LD (by omega) (by rw [msk_s h1.1, if_neg (by omega)]; exact h2) (by rw [msk_s h1.1, if_neg (by omega)]; exact h3) (hB) (hb1) (hc1) (by omega) H locs (pick_P hP (is := [0, 1, 2, 3, 4, 6, 7, 5]) rfl) (hD.sub [0, 1, 2, 3, 4, 6, 7, 5] (by decide) rfl) hS ls (lv_sub hl [1, 2, 3, 0] rfl)
        ·
          refine lv_aload_n hx hb dX6_layBest_52 rfl (lv_at hl 0 rfl) ?_
          refine lv_iload_n hx hb dX6_layBest_53 rfl (lv_at hl 3 rfl) ?_
          refine lv_iload_n hx hb dX6_layBest_54 rfl (lv_at hl 1 rfl) ?_
          have M_55 := k_X6_tryPlan l D cy mo H.size n1 n2 c1 b1 a1 p1 lt mn pt tk mr od pl rm B RV SW GT SA LD x k (⟨⟨⟨hlt0, hlt1⟩, hmn0, hmn1⟩, ⟨hpt, htk, hmr⟩, ⟨hod, hpl, hpo, hop⟩, hrm, hB⟩) (by omega) (by omega) (hk) (hb1) (hc1)
          refine kV_v (wr := [ai (cy 0) (mo 9) 10 cd]) (As := [.int (iI x), .int (iI k)]) (rest := []) (q := (RX6, TX6, 16)) (ci := 6) ⟨hx, hb, hml, hown, hts⟩ M_55 6 rfl rfl (cwV 2 hts gX6_layBest_X6_tryPlan rfl rfl rfl (by decide +kernel) ⟨Nat.le_of_ble_eq_true rfl, Nat.le_of_ble_eq_true rfl⟩) hN hK hP hD hS hA [6, 7, 0, 1, 2, 3, 4] [5] rfl rfl (by decide) (by decide) (by decide) rfl hl.1 rfl (Nat.le_of_ble_eq_true rfl) dX6_layBest_55 ⟨Nat.le_of_ble_eq_true rfl, Nat.le_of_ble_eq_true rfl⟩ (fun u_55 H locs hw_55 hP hD hS => ?_)
          obtain ⟨v_1, v_2, v_3, v_4, v_5, v_6, v_7, v_8, v_9, v_10⟩ := u_55
          try dsimp only at hw_55
          replace hP : va_P D vwCl [ai (cy 0) (mo 9) 10 cd, oM mo v_1 v_2 v_3 v_5 v_4 (p1 + 1), ai (cy 0) (mo 1) 98 (stF lt mn pt tk mr od rm (tkC (hasI pt lt) (asg (usd (hasI pt lt) od 10) (bl x)) B 10)), ai (cy 0) (mo 4) 24 v_6, ai (cy 0) (mo 5) 24 v_7, ai (cy 0) (mo 6) 24 v_8, ai (cy 0) (mo 7) 24 v_9, ai (cy 0) (mo 8) 4 v_10] H := hP
          replace hD : va_D A [ai (cy 0) (mo 9) 10 cd, oM mo v_1 v_2 v_3 v_5 v_4 (p1 + 1), ai (cy 0) (mo 1) 98 (stF lt mn pt tk mr od rm (tkC (hasI pt lt) (asg (usd (hasI pt lt) od 10) (bl x)) B 10)), ai (cy 0) (mo 4) 24 v_6, ai (cy 0) (mo 5) 24 v_7, ai (cy 0) (mo 6) 24 v_8, ai (cy 0) (mo 7) 24 v_9, ai (cy 0) (mo 8) 4 v_10] := hD
          refine r_inc (k := 3) (lv' := [(3, .int (iI (x + 1))), (0, .ref (mo 0)), (1, .int (iI k)), (2, .int (iI r_23))]) hx hb dX6_layBest_58 hl rfl (by decide) rfl (fun ls hl => ?_)
          refine lv_goto (tgt := 33) hx hb dX6_layBest_61 (by decide) ?_
          have hmr9 := mbs_r (cs := (fun m => cst lt mn pt tk mr rm (usd (hasI pt lt) od 10) k (bl m))) (x := (c1, a1, b1)) (m := x) (fun m => cst_b ⟨hlt0, hlt1⟩) hb1 hc1 (by omega)
          rw [← hw_55] at hmr9
          exact ih_33 (x + 1) v_1 v_2 v_3 v_5 v_4 (p1 + 1) (tkC (hasI pt lt) (asg (usd (hasI pt lt) od 10) (bl x)) B 10) v_6 v_7 v_8 v_9 v_10 (by omega) (by rw [hw_55, msk_s h1.1, if_pos (by omega), mbF_s, ← h2]) (by rw [msk_s h1.1, if_pos (by omega), List.length_append, h3]; rfl) (tkC_b (asg_b _ _ 0 63 (by omega) (by omega) (bl_b x)) hB) (hmr9.1) (hmr9.2) (by omega) H locs (pick_P hP (is := [3, 4, 5, 6, 7, 1, 2, 0]) rfl) (hD.sub [3, 4, 5, 6, 7, 1, 2, 0] (by decide) rfl) hS ls (lv_sub hl [1, 2, 3, 0] rfl)
  exact lp_33 _ 0 rn sn (-6) (-6) 0 0 cd rv sw gt sa ld (by omega) (rfl) (rfl) (hcd) (Or.inl rfl) (by omega) (Nat.lt_succ_self _) H locs (pick_P hP (is := [0, 1, 2, 3, 4, 5, 6, 7]) rfl) (hD.sub [0, 1, 2, 3, 4, 5, 6, 7] (by decide) rfl) hS ls (lv_sub hl [2, 3, 1, 0] rfl)
abbrev rm_X6_codeOf : Room := { frames := 2, cells := 0, slots := 0, locals := 46 }
theorem fl_X6_codeOf_7 : Cond.fieldLink RX6 7 "WalkPassesModel" "state" "[I" ∈ wsX6_codeOf := by decide +kernel
theorem fl_X6_codeOf_102 : Cond.fieldLink RX6 102 "WalkPassesModel" "bestPlan" "I" ∈ wsX6_codeOf := by decide +kernel
theorem iw_X6_codeOf_6 : ∀ w ∈ u_ws RX6 TX6 16, w ∈ wsX6_codeOf := by decide +kernel
set_option maxHeartbeats 4000000 in
set_option maxRecDepth 100000 in
theorem k_X6_codeOf (l : Launch) (D : va_G) (cy : Nat → ClassId) (mo : Nat → Nat) (z : Nat) (rn sn co bp ag pn : Int) (lt mn : Int) (pt tk mr od pl rm cd : Int → Int) (cq : Int → Int) (q : Int) (hI : DI lt mn pt tk mr od pl rm cd) (hm : 0 ≤ bp ∧ bp < 65536) (hmb : (bl bp).length = (usd (hasI pt lt) od 10).length) (hq : 0 ≤ q ∧ q ≤ 9) : CtI l yX6_codeOf wsX6_codeOf rm_X6_codeOf D (tyL cy) [.ref (mo 0), .int (iI q)] [oM mo rn sn co bp ag pn, ai (cy 0) (mo 1) 98 (stF lt mn pt tk mr od rm cd), ai (cy 0) (mo 9) 10 cq] z (fun (r : Int) (u : Int → Int) => r = if hasI pt lt q = 1 then asg (usd (hasI pt lt) od 10) (bl bp) q else -6) (fun (u : Int → Int) => [oM mo rn sn co bp ag pn, ai (cy 0) (mo 1) 98 (stF lt mn pt tk mr od rm cd), ai (cy 0) (mo 9) 10 u]) 0 0 := by
  refine ct_i (cc := cX6_codeOf) (maxL := 3) (by decide) rfl (Nat.le_of_ble_eq_true rfl) ?_
  intro p e s m args below meth c A Q H locs ls hx hb hml hown hin hts hK hN hP hD hS hA hl hret
  replace hl : lv_has ls 3 [(0, .ref (mo 0)), (1, .int (iI q))] := hl
  replace hown : s.vm.findClass RX6 = some m.cls := hown
  obtain ⟨⟨⟨hlt0, hlt1⟩, hmn0, hmn1⟩, ⟨hpt, htk, hmr⟩, ⟨hod, hpl, hpo, hop⟩, hrm, hcd⟩ := id hI
  refine lv_aload_n hx hb dX6_codeOf_0 rfl (lv_at hl 0 rfl) ?_
  refine lv_iload_n hx hb dX6_codeOf_1 rfl (lv_at hl 1 rfl) ?_
  have M_2 := k_X6_isUsed l D cy mo H.size rn sn co bp ag pn lt mn pt tk mr od pl rm cd q (⟨⟨hlt0, hlt1⟩, hpt⟩) (⟨by omega, by omega⟩)
  refine kV_i (wr := [ai (cy 0) (mo 9) 10 cq]) (As := [.int (iI q)]) (rest := []) (q := (RX6, TX6, 16)) (ci := 6) ⟨hx, hb, hml, hown, hts⟩ M_2 0 rfl rfl (cwV 1 hts gX6_codeOf_X6_isUsed rfl rfl rfl (by decide +kernel) ⟨Nat.le_of_ble_eq_true rfl, Nat.le_of_ble_eq_true rfl⟩) hN hK hP hD hS hA [0, 1] [2] rfl rfl (by decide) (by decide) (by decide) rfl hl.1 rfl (Nat.le_of_ble_eq_true rfl) dX6_codeOf_2 ⟨Nat.le_of_ble_eq_true rfl, Nat.le_of_ble_eq_true rfl⟩ (fun r_2 u_2 H locs hw_2 hP hD hS => ?_)
  replace hP : va_P D vwCl [ai (cy 0) (mo 9) 10 cq, oM mo rn sn co bp ag pn, ai (cy 0) (mo 1) 98 (stF lt mn pt tk mr od rm cd)] H := hP
  replace hD : va_D A [ai (cy 0) (mo 9) 10 cq, oM mo rn sn co bp ag pn, ai (cy 0) (mo 1) 98 (stF lt mn pt tk mr od rm cd)] := hD
  have hb0 := hasI_b pt lt q
  refine r_ne0 hx hb 11 dX6_codeOf_5 (by decide) ⟨by omega, by omega⟩ (fun c_5 => ?_) (fun c_5 => ?_)
  ·
    refine lv_aload_n hx hb dX6_codeOf_11 rfl (lv_at hl 0 rfl) ?_
    have M_12 := k_X6_saveCodes l D cy mo H.size rn sn co bp ag pn lt mn pt tk mr od pl rm cd cq 
    refine kV_v (wr := []) (As := []) (rest := []) (q := (RX6, TX6, 16)) (ci := 6) ⟨hx, hb, hml, hown, hts⟩ M_12 1 rfl rfl (cwV 0 hts gX6_codeOf_X6_saveCodes rfl rfl rfl (by decide +kernel) ⟨Nat.le_of_ble_eq_true rfl, Nat.le_of_ble_eq_true rfl⟩) hN hK hP hD hS hA [1, 2, 0] [] rfl rfl (by decide) (by decide) (by decide) rfl hl.1 rfl (Nat.le_of_ble_eq_true rfl) dX6_codeOf_12 ⟨Nat.le_of_ble_eq_true rfl, Nat.le_of_ble_eq_true rfl⟩ (fun u_12 H locs hw_12 hP hD hS => ?_)
    replace hP : va_P D vwCl [oM mo rn sn co bp ag pn, ai (cy 0) (mo 1) 98 (stF lt mn pt tk mr od rm cd), ai (cy 0) (mo 9) 10 cd] H := hP
    replace hD : va_D A [oM mo rn sn co bp ag pn, ai (cy 0) (mo 1) 98 (stF lt mn pt tk mr od rm cd), ai (cy 0) (mo 9) 10 cd] := hD
    refine lv_aload_n hx hb dX6_codeOf_15 rfl (lv_at hl 0 rfl) ?_
    refine lv_aload_n hx hb dX6_codeOf_16 rfl (lv_at hl 0 rfl) ?_
    refine va_get (D := D) (C := RX6) (T := TX6) (N := 16) (ci := 6) (v := .int (iI bp)) hx hb hts iw_X6_codeOf_6 hown hK hP 0 rfl rfl 12 (by decide) (hts _ fl_X6_codeOf_102) (fun _ h9 => h9) rfl dX6_codeOf_17 ?_
    have M_20 := k_X6_takeCodes l D cy mo H.size rn sn co bp ag pn lt mn pt tk mr od pl rm cd bp (hI) (hm) (hmb)
    refine kV_v (wr := [ai (cy 0) (mo 9) 10 cd]) (As := [.int (iI bp)]) (rest := []) (q := (RX6, TX6, 16)) (ci := 6) ⟨hx, hb, hml, hown, hts⟩ M_20 0 rfl rfl (cwV 1 hts gX6_codeOf_X6_takeCodes rfl rfl rfl (by decide +kernel) ⟨Nat.le_of_ble_eq_true rfl, Nat.le_of_ble_eq_true rfl⟩) hN hK hP hD hS hA [0, 1] [2] rfl rfl (by decide) (by decide) (by decide) rfl hl.1 rfl (Nat.le_of_ble_eq_true rfl) dX6_codeOf_20 ⟨Nat.le_of_ble_eq_true rfl, Nat.le_of_ble_eq_true rfl⟩ (fun u_20 H locs hw_20 hP hD hS => ?_)
    replace hP : va_P D vwCl [ai (cy 0) (mo 9) 10 cd, oM mo rn sn co bp ag pn, ai (cy 0) (mo 1) 98 (stF lt mn pt tk mr od rm (tkC (hasI pt lt) (asg (usd (hasI pt lt) od 10) (bl bp)) cd 10))] H := hP
    replace hD : va_D A [ai (cy 0) (mo 9) 10 cd, oM mo rn sn co bp ag pn, ai (cy 0) (mo 1) 98 (stF lt mn pt tk mr od rm (tkC (hasI pt lt) (asg (usd (hasI pt lt) od 10) (bl bp)) cd 10))] := hD
    refine lv_aload_n hx hb dX6_codeOf_23 rfl (lv_at hl 0 rfl) ?_
    refine va_get (D := D) (C := RX6) (T := TX6) (N := 16) (ci := 6) (v := .ref (mo 1)) hx hb hts iw_X6_codeOf_6 hown hK hP 1 rfl rfl 0 (by decide) (hts _ fl_X6_codeOf_7) (fun _ h9 => h9) rfl dX6_codeOf_24 ?_
    refine r_bip hx hb (10) dX6_codeOf_27 (by decide) ?_
    refine lv_iload_n hx hb dX6_codeOf_29 rfl (lv_at hl 1 rfl) ?_
    refine r_add hx hb dX6_codeOf_30 ?_
    refine r_ald hx hb hK hP 2 rfl rfl ⟨by omega, by omega, by omega⟩ dX6_codeOf_31 ?_
    refine r_top ((tkC (hasI pt lt) (asg (usd (hasI pt lt) od 10) (bl bp)) cd 10) q) (stF_cd (by omega) (by omega) (by omega)) ?_
    refine lv_istore_n (lv' := [(2, .int (iI ((tkC (hasI pt lt) (asg (usd (hasI pt lt) od 10) (bl bp)) cd 10) q))), (0, .ref (mo 0)), (1, .int (iI q))]) hx hb dX6_codeOf_32 rfl hl (by decide) rfl (fun ls hl => ?_)
    refine lv_aload_n hx hb dX6_codeOf_33 rfl (lv_at hl 1 rfl) ?_
    have M_34 := k_X6_loadCodes l D cy mo H.size rn sn co bp ag pn lt mn pt tk mr od pl rm (tkC (hasI pt lt) (asg (usd (hasI pt lt) od 10) (bl bp)) cd 10) cd 
    refine kV_v (wr := []) (As := []) (rest := []) (q := (RX6, TX6, 16)) (ci := 6) ⟨hx, hb, hml, hown, hts⟩ M_34 1 rfl rfl (cwV 0 hts gX6_codeOf_X6_loadCodes rfl rfl rfl (by decide +kernel) ⟨Nat.le_of_ble_eq_true rfl, Nat.le_of_ble_eq_true rfl⟩) hN hK hP hD hS hA [1, 2, 0] [] rfl rfl (by decide) (by decide) (by decide) rfl hl.1 rfl (Nat.le_of_ble_eq_true rfl) dX6_codeOf_34 ⟨Nat.le_of_ble_eq_true rfl, Nat.le_of_ble_eq_true rfl⟩ (fun u_34 H locs hw_34 hP hD hS => ?_)
    replace hP : va_P D vwCl [oM mo rn sn co bp ag pn, ai (cy 0) (mo 1) 98 (stF lt mn pt tk mr od rm cd), ai (cy 0) (mo 9) 10 cd] H := hP
    replace hD : va_D A [oM mo rn sn co bp ag pn, ai (cy 0) (mo 1) 98 (stF lt mn pt tk mr od rm cd), ai (cy 0) (mo 9) 10 cd] := hD
    refine lv_iload_n hx hb dX6_codeOf_37 rfl (lv_at hl 0 rfl) ?_
    exact hret [0, 1, 2] cd dX6_codeOf_38 hP hD hS (by decide) rfl (by rw [if_pos (by omega)]; show tkC _ _ _ _ q = _; unfold tkC; rw [if_pos ⟨by omega, by omega⟩])
  ·
    refine r_bip hx hb (-6) dX6_codeOf_8 (by decide) ?_
    exact hret [1, 2, 0] cq dX6_codeOf_10 hP hD hS (by decide) rfl (by rw [if_neg (by omega)])
abbrev rm_X6_best : Room := { frames := 6, cells := 0, slots := 0, locals := 138 }
theorem fl_X6_best_99 : Cond.fieldLink RX6 99 "WalkPassesModel" "plans" "I" ∈ wsX6_best := by decide +kernel
theorem fl_X6_best_105 : Cond.fieldLink RX6 105 "WalkPassesModel" "cost" "I" ∈ wsX6_best := by decide +kernel
theorem fl_X6_best_108 : Cond.fieldLink RX6 108 "WalkPassesModel" "asGood" "I" ∈ wsX6_best := by decide +kernel
theorem iw_X6_best_6 : ∀ w ∈ u_ws RX6 TX6 16, w ∈ wsX6_best := by decide +kernel
set_option maxHeartbeats 4000000 in
set_option maxRecDepth 100000 in
theorem k_X6_best (l : Launch) (D : va_G) (cy : Nat → ClassId) (mo : Nat → Nat) (z : Nat) (rn sn co bp ag pn : Int) (lt mn : Int) (pt tk mr od pl rm cd : Int → Int) (rv sw gt sa ld : Int → Int) (cq : Int → Int) (k v : Int) (hI : DI lt mn pt tk mr od pl rm cd) (hk9 : inR k) (hv : inR v) : CtI l yX6_best wsX6_best rm_X6_best D (tyL cy) [.ref (mo 0), .int (iI k), .int (iI v)] [oM mo rn sn co bp ag pn, ai (cy 0) (mo 1) 98 (stF lt mn pt tk mr od rm cd), ai (cy 0) (mo 4) 24 rv, ai (cy 0) (mo 5) 24 sw, ai (cy 0) (mo 6) 24 gt, ai (cy 0) (mo 7) 24 sa, ai (cy 0) (mo 8) 4 ld, ai (cy 0) (mo 9) 10 cq] z (fun (r : Int) (u : Int × Int × Int × Int × Int × Int × (Int → Int) × (Int → Int) × (Int → Int) × (Int → Int) × (Int → Int) × (Int → Int)) => r = fBest lt mn pt tk mr od rm k v) (fun (u : Int × Int × Int × Int × Int × Int × (Int → Int) × (Int → Int) × (Int → Int) × (Int → Int) × (Int → Int) × (Int → Int)) => [oM mo u.1 u.2.1 u.2.2.1 u.2.2.2.1 u.2.2.2.2.1 u.2.2.2.2.2.1, ai (cy 0) (mo 1) 98 (stF lt mn pt tk mr od rm cd), ai (cy 0) (mo 4) 24 u.2.2.2.2.2.2.1, ai (cy 0) (mo 5) 24 u.2.2.2.2.2.2.2.1, ai (cy 0) (mo 6) 24 u.2.2.2.2.2.2.2.2.1, ai (cy 0) (mo 7) 24 u.2.2.2.2.2.2.2.2.2.1, ai (cy 0) (mo 8) 4 u.2.2.2.2.2.2.2.2.2.2.1, ai (cy 0) (mo 9) 10 u.2.2.2.2.2.2.2.2.2.2.2]) 0 0 := by
  refine ct_i (cc := cX6_best) (maxL := 3) (by decide) rfl (Nat.le_of_ble_eq_true rfl) ?_
  intro p e s m args below meth c A Q H locs ls hx hb hml hown hin hts hK hN hP hD hS hA hl hret
  replace hl : lv_has ls 3 [(0, .ref (mo 0)), (1, .int (iI k)), (2, .int (iI v))] := hl
  replace hown : s.vm.findClass RX6 = some m.cls := hown
  obtain ⟨⟨⟨hlt0, hlt1⟩, hmn0, hmn1⟩, ⟨hpt, htk, hmr⟩, ⟨hod, hpl, hpo, hop⟩, hrm, hcd⟩ := id hI
  refine lv_iload_n hx hb dX6_best_0 rfl (lv_at hl 1 rfl) ?_
  have M_1 := k_X6_isRun l D cy  H.size k (hk9)
  refine kS_i (wr := [oM mo rn sn co bp ag pn, ai (cy 0) (mo 1) 98 (stF lt mn pt tk mr od rm cd), ai (cy 0) (mo 4) 24 rv, ai (cy 0) (mo 5) 24 sw, ai (cy 0) (mo 6) 24 gt, ai (cy 0) (mo 7) 24 sa, ai (cy 0) (mo 8) 4 ld, ai (cy 0) (mo 9) 10 cq]) (As := [.int (iI k)]) (rest := []) ⟨hx, hb, hml, hown, hts⟩ M_1 (va_cwS 1 hts gX6_best_X6_isRun rfl rfl rfl (by decide +kernel) ⟨Nat.le_of_ble_eq_true rfl, Nat.le_of_ble_eq_true rfl⟩) hN hK hP hD hS hA [] [0, 1, 2, 3, 4, 5, 6, 7] rfl rfl (by decide) (by decide) (by decide) rfl hl.1 rfl (Nat.le_of_ble_eq_true rfl) dX6_best_1 ⟨Nat.le_of_ble_eq_true rfl, Nat.le_of_ble_eq_true rfl⟩ (fun r_1 u_1 H locs hw_1 hP hD hS => ?_)
  replace hP : va_P D vwCl [oM mo rn sn co bp ag pn, ai (cy 0) (mo 1) 98 (stF lt mn pt tk mr od rm cd), ai (cy 0) (mo 4) 24 rv, ai (cy 0) (mo 5) 24 sw, ai (cy 0) (mo 6) 24 gt, ai (cy 0) (mo 7) 24 sa, ai (cy 0) (mo 8) 4 ld, ai (cy 0) (mo 9) 10 cq] H := hP
  replace hD : va_D A [oM mo rn sn co bp ag pn, ai (cy 0) (mo 1) 98 (stF lt mn pt tk mr od rm cd), ai (cy 0) (mo 4) 24 rv, ai (cy 0) (mo 5) 24 sw, ai (cy 0) (mo 6) 24 gt, ai (cy 0) (mo 7) 24 sa, ai (cy 0) (mo 8) 4 ld, ai (cy 0) (mo 9) 10 cq] := hD
  refine r_eq0 hx hb 27 dX6_best_4 (by decide) ⟨by omega, by omega⟩ (fun c_4 => ?_) (fun c_4 => ?_)
  ·
    refine r_bip hx hb (-2) dX6_best_27 (by decide) ?_
    exact hret [0, 1, 2, 3, 4, 5, 6, 7] (rn, sn, co, bp, ag, pn, rv, sw, gt, sa, ld, cq) dX6_best_29 hP hD hS (by decide) rfl (by unfold fBest; (repeat' split) <;> omega)
  ·
    refine lv_iload_n hx hb dX6_best_7 rfl (lv_at hl 2 rfl) ?_
    refine r_const hx hb dX6_best_8 ?_
    refine r_const hx hb dX6_best_9 ?_
    have M_10 := k_X6_in l D cy  H.size v 0 2 (hv) (⟨by omega, by omega⟩) (⟨by omega, by omega⟩)
    refine kS_i (wr := [oM mo rn sn co bp ag pn, ai (cy 0) (mo 1) 98 (stF lt mn pt tk mr od rm cd), ai (cy 0) (mo 4) 24 rv, ai (cy 0) (mo 5) 24 sw, ai (cy 0) (mo 6) 24 gt, ai (cy 0) (mo 7) 24 sa, ai (cy 0) (mo 8) 4 ld, ai (cy 0) (mo 9) 10 cq]) (As := [.int (iI v), .int (iI 0), .int (iI 2)]) (rest := []) ⟨hx, hb, hml, hown, hts⟩ M_10 (va_cwS 3 hts gX6_best_X6_in rfl rfl rfl (by decide +kernel) ⟨Nat.le_of_ble_eq_true rfl, Nat.le_of_ble_eq_true rfl⟩) hN hK hP hD hS hA [] [0, 1, 2, 3, 4, 5, 6, 7] rfl rfl (by decide) (by decide) (by decide) rfl hl.1 rfl (Nat.le_of_ble_eq_true rfl) dX6_best_10 ⟨Nat.le_of_ble_eq_true rfl, Nat.le_of_ble_eq_true rfl⟩ (fun r_10 u_10 H locs hw_10 hP hD hS => ?_)
    replace hP : va_P D vwCl [oM mo rn sn co bp ag pn, ai (cy 0) (mo 1) 98 (stF lt mn pt tk mr od rm cd), ai (cy 0) (mo 4) 24 rv, ai (cy 0) (mo 5) 24 sw, ai (cy 0) (mo 6) 24 gt, ai (cy 0) (mo 7) 24 sa, ai (cy 0) (mo 8) 4 ld, ai (cy 0) (mo 9) 10 cq] H := hP
    replace hD : va_D A [oM mo rn sn co bp ag pn, ai (cy 0) (mo 1) 98 (stF lt mn pt tk mr od rm cd), ai (cy 0) (mo 4) 24 rv, ai (cy 0) (mo 5) 24 sw, ai (cy 0) (mo 6) 24 gt, ai (cy 0) (mo 7) 24 sa, ai (cy 0) (mo 8) 4 ld, ai (cy 0) (mo 9) 10 cq] := hD
    refine r_ne0 hx hb 30 dX6_best_13 (by decide) ⟨by omega, by omega⟩ (fun c_13 => ?_) (fun c_13 => ?_)
    ·
      refine lv_aload_n hx hb dX6_best_30 rfl (lv_at hl 0 rfl) ?_
      refine lv_iload_n hx hb dX6_best_31 rfl (lv_at hl 1 rfl) ?_
      have M_32 := k_X6_power l D cy mo H.size rn sn co bp ag pn lt mn pt tk mr od pl rm cd k (by omega)
      refine kV_i (wr := [ai (cy 0) (mo 4) 24 rv, ai (cy 0) (mo 5) 24 sw, ai (cy 0) (mo 6) 24 gt, ai (cy 0) (mo 7) 24 sa, ai (cy 0) (mo 8) 4 ld, ai (cy 0) (mo 9) 10 cq]) (As := [.int (iI k)]) (rest := []) (q := (RX6, TX6, 16)) (ci := 6) ⟨hx, hb, hml, hown, hts⟩ M_32 0 rfl rfl (cwV 1 hts gX6_best_X6_power rfl rfl rfl (by decide +kernel) ⟨Nat.le_of_ble_eq_true rfl, Nat.le_of_ble_eq_true rfl⟩) hN hK hP hD hS hA [0, 1] [2, 3, 4, 5, 6, 7] rfl rfl (by decide) (by decide) (by decide) rfl hl.1 rfl (Nat.le_of_ble_eq_true rfl) dX6_best_32 ⟨Nat.le_of_ble_eq_true rfl, Nat.le_of_ble_eq_true rfl⟩ (fun r_32 u_32 H locs hw_32 hP hD hS => ?_)
      replace hP : va_P D vwCl [ai (cy 0) (mo 4) 24 rv, ai (cy 0) (mo 5) 24 sw, ai (cy 0) (mo 6) 24 gt, ai (cy 0) (mo 7) 24 sa, ai (cy 0) (mo 8) 4 ld, ai (cy 0) (mo 9) 10 cq, oM mo rn sn co bp ag pn, ai (cy 0) (mo 1) 98 (stF lt mn pt tk mr od rm cd)] H := hP
      replace hD : va_D A [ai (cy 0) (mo 4) 24 rv, ai (cy 0) (mo 5) 24 sw, ai (cy 0) (mo 6) 24 gt, ai (cy 0) (mo 7) 24 sa, ai (cy 0) (mo 8) 4 ld, ai (cy 0) (mo 9) 10 cq, oM mo rn sn co bp ag pn, ai (cy 0) (mo 1) 98 (stF lt mn pt tk mr od rm cd)] := hD
      have hpb := pw_b hmn0 hmn1 (n := k.toNat) (by omega)
      refine r_bip hx hb (16) dX6_best_35 (by decide) ?_
      refine r_le hx hb 43 dX6_best_37 (by decide) ⟨by omega, by omega⟩ ⟨by omega, by omega⟩ (fun c_37 => ?_) (fun c_37 => ?_)
      ·
        refine lv_aload_n hx hb dX6_best_43 rfl (lv_at hl 0 rfl) ?_
        refine lv_iload_n hx hb dX6_best_44 rfl (lv_at hl 1 rfl) ?_
        have M_45 := k_X6_layBest l D cy mo H.size rn sn co bp ag pn lt mn pt tk mr od pl rm cd rv sw gt sa ld cq k (hI) (by omega) (by omega)
        refine kV_v (wr := []) (As := [.int (iI k)]) (rest := []) (q := (RX6, TX6, 16)) (ci := 6) ⟨hx, hb, hml, hown, hts⟩ M_45 6 rfl rfl (cwV 1 hts gX6_best_X6_layBest rfl rfl rfl (by decide +kernel) ⟨Nat.le_of_ble_eq_true rfl, Nat.le_of_ble_eq_true rfl⟩) hN hK hP hD hS hA [6, 7, 0, 1, 2, 3, 4, 5] [] rfl rfl (by decide) (by decide) (by decide) rfl hl.1 rfl (Nat.le_of_ble_eq_true rfl) dX6_best_45 ⟨Nat.le_of_ble_eq_true rfl, Nat.le_of_ble_eq_true rfl⟩ (fun u_45 H locs hw_45 hP hD hS => ?_)
        obtain ⟨v_1, v_2, v_3, v_4, v_5, v_6, v_7, v_8, v_9, v_10, v_11⟩ := u_45
        try dsimp only at hw_45
        replace hP : va_P D vwCl [oM mo v_1 v_2 v_3 v_4 v_5 v_6, ai (cy 0) (mo 1) 98 (stF lt mn pt tk mr od rm cd), ai (cy 0) (mo 4) 24 v_7, ai (cy 0) (mo 5) 24 v_8, ai (cy 0) (mo 6) 24 v_9, ai (cy 0) (mo 7) 24 v_10, ai (cy 0) (mo 8) 4 v_11, ai (cy 0) (mo 9) 10 cd] H := hP
        replace hD : va_D A [oM mo v_1 v_2 v_3 v_4 v_5 v_6, ai (cy 0) (mo 1) 98 (stF lt mn pt tk mr od rm cd), ai (cy 0) (mo 4) 24 v_7, ai (cy 0) (mo 5) 24 v_8, ai (cy 0) (mo 6) 24 v_9, ai (cy 0) (mo 7) 24 v_10, ai (cy 0) (mo 8) 4 v_11, ai (cy 0) (mo 9) 10 cd] := hD
        have hpl0 : 0 ≤ ((plsA mn k (usd (hasI pt lt) od 10).length).length : Int) := by omega
        have hplm := plsA_len (mn := mn) (k := k) (by omega) (usd_len (hasI pt lt) od 10)
        have hL1 := hw_45.1
        refine lv_iload_n hx hb dX6_best_48 rfl (lv_at hl 2 rfl) ?_
        refine r_const hx hb dX6_best_49 ?_
        refine r_ne hx hb 58 dX6_best_50 (by decide) ⟨by omega, by omega⟩ ⟨by omega, by omega⟩ (fun c_50 => ?_) (fun c_50 => ?_)
        ·
          refine lv_aload_n hx hb dX6_best_58 rfl (lv_at hl 0 rfl) ?_
          refine va_get (D := D) (C := RX6) (T := TX6) (N := 16) (ci := 6) (v := .int (iI v_6)) hx hb hts iw_X6_best_6 hown hK hP 0 rfl rfl 14 (by decide) (hts _ fl_X6_best_99) (fun _ h9 => h9) rfl dX6_best_59 ?_
          refine r_ne0 hx hb 68 dX6_best_62 (by decide) ⟨by omega, by omega⟩ (fun c_62 => ?_) (fun c_62 => ?_)
          ·
            refine lv_iload_n hx hb dX6_best_68 rfl (lv_at hl 2 rfl) ?_
            refine r_ne0 hx hb 79 dX6_best_69 (by decide) ⟨by omega, by omega⟩ (fun c_69 => ?_) (fun c_69 => ?_)
            ·
              refine lv_iload_n hx hb dX6_best_79 rfl (lv_at hl 2 rfl) ?_
              refine r_const hx hb dX6_best_80 ?_
              refine r_ne hx hb 91 dX6_best_81 (by decide) ⟨by omega, by omega⟩ ⟨by omega, by omega⟩ (fun c_81 => ?_) (fun c_81 => ?_)
              ·
                refine lv_aload_n hx hb dX6_best_91 rfl (lv_at hl 0 rfl) ?_
                refine lv_iload_n hx hb dX6_best_92 rfl (lv_at hl 2 rfl) ?_
                refine r_bip hx hb (10) dX6_best_93 (by decide) ?_
                refine r_sub hx hb dX6_best_95 ?_
                have M_96 := k_X6_codeOf l D cy mo H.size v_1 v_2 v_3 v_4 v_5 v_6 lt mn pt tk mr od pl rm cd cd (v - 10) (hI) ((LayR_len ⟨hlt0, hlt1⟩ hpb.1 hw_45 (by omega)).1) ((LayR_len ⟨hlt0, hlt1⟩ hpb.1 hw_45 (by omega)).2) (by omega)
                refine kV_i (wr := [ai (cy 0) (mo 4) 24 v_7, ai (cy 0) (mo 5) 24 v_8, ai (cy 0) (mo 6) 24 v_9, ai (cy 0) (mo 7) 24 v_10, ai (cy 0) (mo 8) 4 v_11]) (As := [.int (iI (v - 10))]) (rest := []) (q := (RX6, TX6, 16)) (ci := 6) ⟨hx, hb, hml, hown, hts⟩ M_96 0 rfl rfl (cwV 1 hts gX6_best_X6_codeOf rfl rfl rfl (by decide +kernel) ⟨Nat.le_of_ble_eq_true rfl, Nat.le_of_ble_eq_true rfl⟩) hN hK hP hD hS hA [0, 1, 7] [2, 3, 4, 5, 6] rfl rfl (by decide) (by decide) (by decide) rfl hl.1 rfl (Nat.le_of_ble_eq_true rfl) dX6_best_96 ⟨Nat.le_of_ble_eq_true rfl, Nat.le_of_ble_eq_true rfl⟩ (fun r_96 u_96 H locs hw_96 hP hD hS => ?_)
                obtain ⟨v_12, rfl⟩ : ∃ z, z = u_96 := ⟨_, rfl⟩
                try dsimp only at hw_96
                replace hP : va_P D vwCl [ai (cy 0) (mo 4) 24 v_7, ai (cy 0) (mo 5) 24 v_8, ai (cy 0) (mo 6) 24 v_9, ai (cy 0) (mo 7) 24 v_10, ai (cy 0) (mo 8) 4 v_11, oM mo v_1 v_2 v_3 v_4 v_5 v_6, ai (cy 0) (mo 1) 98 (stF lt mn pt tk mr od rm cd), ai (cy 0) (mo 9) 10 v_12] H := hP
                replace hD : va_D A [ai (cy 0) (mo 4) 24 v_7, ai (cy 0) (mo 5) 24 v_8, ai (cy 0) (mo 6) 24 v_9, ai (cy 0) (mo 7) 24 v_10, ai (cy 0) (mo 8) 4 v_11, oM mo v_1 v_2 v_3 v_4 v_5 v_6, ai (cy 0) (mo 1) 98 (stF lt mn pt tk mr od rm cd), ai (cy 0) (mo 9) 10 v_12] := hD
                rw [(hw_45.2 (by omega)).2.2.2] at hw_96
                exact hret [5, 6, 0, 1, 2, 3, 4, 7] (v_1, v_2, v_3, v_4, v_5, v_6, v_7, v_8, v_9, v_10, v_11, v_12) dX6_best_99 hP hD hS (by decide) rfl (by first | (have hLc := (hw_45.2 (by omega)).1; unfold fBest; (repeat' split) <;> first | omega | (exact hLc) | (exact (hw_45.2 (by omega)).2.1)) | (unfold fBest; rw [if_neg (by omega), if_neg (by omega), if_neg (by omega), if_neg (by omega), if_neg (by omega), if_neg (by omega)]; exact hw_96))
              ·
                refine lv_aload_n hx hb dX6_best_84 rfl (lv_at hl 0 rfl) ?_
                refine va_get (D := D) (C := RX6) (T := TX6) (N := 16) (ci := 6) (v := .int (iI v_5)) hx hb hts iw_X6_best_6 hown hK hP 0 rfl rfl 13 (by decide) (hts _ fl_X6_best_108) (fun _ h9 => h9) rfl dX6_best_85 ?_
                refine lv_goto (tgt := 99) hx hb dX6_best_88 (by decide) ?_
                exact hret [0, 1, 2, 3, 4, 5, 6, 7] (v_1, v_2, v_3, v_4, v_5, v_6, v_7, v_8, v_9, v_10, v_11, cd) dX6_best_99 hP hD hS (by decide) rfl (by first | (have hLc := (hw_45.2 (by omega)).1; unfold fBest; (repeat' split) <;> first | omega | (exact hLc) | (exact (hw_45.2 (by omega)).2.1)) | (unfold fBest; rw [if_neg (by omega), if_neg (by omega), if_neg (by omega), if_neg (by omega), if_neg (by omega), if_neg (by omega)]; exact hw_96))
            ·
              refine lv_aload_n hx hb dX6_best_72 rfl (lv_at hl 0 rfl) ?_
              refine va_get (D := D) (C := RX6) (T := TX6) (N := 16) (ci := 6) (v := .int (iI v_3)) hx hb hts iw_X6_best_6 hown hK hP 0 rfl rfl 11 (by decide) (hts _ fl_X6_best_105) (fun _ h9 => h9) rfl dX6_best_73 ?_
              refine lv_goto (tgt := 99) hx hb dX6_best_76 (by decide) ?_
              exact hret [0, 1, 2, 3, 4, 5, 6, 7] (v_1, v_2, v_3, v_4, v_5, v_6, v_7, v_8, v_9, v_10, v_11, cd) dX6_best_99 hP hD hS (by decide) rfl (by first | (have hLc := (hw_45.2 (by omega)).1; unfold fBest; (repeat' split) <;> first | omega | (exact hLc) | (exact (hw_45.2 (by omega)).2.1)) | (unfold fBest; rw [if_neg (by omega), if_neg (by omega), if_neg (by omega), if_neg (by omega), if_neg (by omega), if_neg (by omega)]; exact hw_96))
          ·
            refine r_bip hx hb (-6) dX6_best_65 (by decide) ?_
            exact hret [0, 1, 2, 3, 4, 5, 6, 7] (v_1, v_2, v_3, v_4, v_5, v_6, v_7, v_8, v_9, v_10, v_11, cd) dX6_best_67 hP hD hS (by decide) rfl (by unfold fBest; (repeat' split) <;> omega)
        ·
          refine lv_aload_n hx hb dX6_best_53 rfl (lv_at hl 0 rfl) ?_
          refine va_get (D := D) (C := RX6) (T := TX6) (N := 16) (ci := 6) (v := .int (iI v_6)) hx hb hts iw_X6_best_6 hown hK hP 0 rfl rfl 14 (by decide) (hts _ fl_X6_best_99) (fun _ h9 => h9) rfl dX6_best_54 ?_
          exact hret [0, 1, 2, 3, 4, 5, 6, 7] (v_1, v_2, v_3, v_4, v_5, v_6, v_7, v_8, v_9, v_10, v_11, cd) dX6_best_57 hP hD hS (by decide) rfl (by unfold fBest; (repeat' split) <;> omega)
      ·
        refine r_bip hx hb (-5) dX6_best_40 (by decide) ?_
        exact hret [6, 7, 0, 1, 2, 3, 4, 5] (rn, sn, co, bp, ag, pn, rv, sw, gt, sa, ld, cq) dX6_best_42 hP hD hS (by decide) rfl (by unfold fBest; (repeat' split) <;> omega)
    ·
      refine lv_iload_n hx hb dX6_best_16 rfl (lv_at hl 2 rfl) ?_
      refine r_bip hx hb (10) dX6_best_17 (by decide) ?_
      refine r_bip hx hb (19) dX6_best_19 (by decide) ?_
      have M_21 := k_X6_in l D cy  H.size v 10 19 (hv) (⟨by omega, by omega⟩) (⟨by omega, by omega⟩)
      refine kS_i (wr := [oM mo rn sn co bp ag pn, ai (cy 0) (mo 1) 98 (stF lt mn pt tk mr od rm cd), ai (cy 0) (mo 4) 24 rv, ai (cy 0) (mo 5) 24 sw, ai (cy 0) (mo 6) 24 gt, ai (cy 0) (mo 7) 24 sa, ai (cy 0) (mo 8) 4 ld, ai (cy 0) (mo 9) 10 cq]) (As := [.int (iI v), .int (iI 10), .int (iI 19)]) (rest := []) ⟨hx, hb, hml, hown, hts⟩ M_21 (va_cwS 3 hts gX6_best_X6_in rfl rfl rfl (by decide +kernel) ⟨Nat.le_of_ble_eq_true rfl, Nat.le_of_ble_eq_true rfl⟩) hN hK hP hD hS hA [] [0, 1, 2, 3, 4, 5, 6, 7] rfl rfl (by decide) (by decide) (by decide) rfl hl.1 rfl (Nat.le_of_ble_eq_true rfl) dX6_best_21 ⟨Nat.le_of_ble_eq_true rfl, Nat.le_of_ble_eq_true rfl⟩ (fun r_21 u_21 H locs hw_21 hP hD hS => ?_)
      replace hP : va_P D vwCl [oM mo rn sn co bp ag pn, ai (cy 0) (mo 1) 98 (stF lt mn pt tk mr od rm cd), ai (cy 0) (mo 4) 24 rv, ai (cy 0) (mo 5) 24 sw, ai (cy 0) (mo 6) 24 gt, ai (cy 0) (mo 7) 24 sa, ai (cy 0) (mo 8) 4 ld, ai (cy 0) (mo 9) 10 cq] H := hP
      replace hD : va_D A [oM mo rn sn co bp ag pn, ai (cy 0) (mo 1) 98 (stF lt mn pt tk mr od rm cd), ai (cy 0) (mo 4) 24 rv, ai (cy 0) (mo 5) 24 sw, ai (cy 0) (mo 6) 24 gt, ai (cy 0) (mo 7) 24 sa, ai (cy 0) (mo 8) 4 ld, ai (cy 0) (mo 9) 10 cq] := hD
      refine r_ne0 hx hb 30 dX6_best_24 (by decide) ⟨by omega, by omega⟩ (fun c_24 => ?_) (fun c_24 => ?_)
      ·
        refine lv_aload_n hx hb dX6_best_30 rfl (lv_at hl 0 rfl) ?_
        refine lv_iload_n hx hb dX6_best_31 rfl (lv_at hl 1 rfl) ?_
        have M_32 := k_X6_power l D cy mo H.size rn sn co bp ag pn lt mn pt tk mr od pl rm cd k (by omega)
        refine kV_i (wr := [ai (cy 0) (mo 4) 24 rv, ai (cy 0) (mo 5) 24 sw, ai (cy 0) (mo 6) 24 gt, ai (cy 0) (mo 7) 24 sa, ai (cy 0) (mo 8) 4 ld, ai (cy 0) (mo 9) 10 cq]) (As := [.int (iI k)]) (rest := []) (q := (RX6, TX6, 16)) (ci := 6) ⟨hx, hb, hml, hown, hts⟩ M_32 0 rfl rfl (cwV 1 hts gX6_best_X6_power rfl rfl rfl (by decide +kernel) ⟨Nat.le_of_ble_eq_true rfl, Nat.le_of_ble_eq_true rfl⟩) hN hK hP hD hS hA [0, 1] [2, 3, 4, 5, 6, 7] rfl rfl (by decide) (by decide) (by decide) rfl hl.1 rfl (Nat.le_of_ble_eq_true rfl) dX6_best_32 ⟨Nat.le_of_ble_eq_true rfl, Nat.le_of_ble_eq_true rfl⟩ (fun r_32 u_32 H locs hw_32 hP hD hS => ?_)
        replace hP : va_P D vwCl [ai (cy 0) (mo 4) 24 rv, ai (cy 0) (mo 5) 24 sw, ai (cy 0) (mo 6) 24 gt, ai (cy 0) (mo 7) 24 sa, ai (cy 0) (mo 8) 4 ld, ai (cy 0) (mo 9) 10 cq, oM mo rn sn co bp ag pn, ai (cy 0) (mo 1) 98 (stF lt mn pt tk mr od rm cd)] H := hP
        replace hD : va_D A [ai (cy 0) (mo 4) 24 rv, ai (cy 0) (mo 5) 24 sw, ai (cy 0) (mo 6) 24 gt, ai (cy 0) (mo 7) 24 sa, ai (cy 0) (mo 8) 4 ld, ai (cy 0) (mo 9) 10 cq, oM mo rn sn co bp ag pn, ai (cy 0) (mo 1) 98 (stF lt mn pt tk mr od rm cd)] := hD
        have hpb := pw_b hmn0 hmn1 (n := k.toNat) (by omega)
        refine r_bip hx hb (16) dX6_best_35 (by decide) ?_
        refine r_le hx hb 43 dX6_best_37 (by decide) ⟨by omega, by omega⟩ ⟨by omega, by omega⟩ (fun c_37 => ?_) (fun c_37 => ?_)
        ·
          refine lv_aload_n hx hb dX6_best_43 rfl (lv_at hl 0 rfl) ?_
          refine lv_iload_n hx hb dX6_best_44 rfl (lv_at hl 1 rfl) ?_
          have M_45 := k_X6_layBest l D cy mo H.size rn sn co bp ag pn lt mn pt tk mr od pl rm cd rv sw gt sa ld cq k (hI) (by omega) (by omega)
          refine kV_v (wr := []) (As := [.int (iI k)]) (rest := []) (q := (RX6, TX6, 16)) (ci := 6) ⟨hx, hb, hml, hown, hts⟩ M_45 6 rfl rfl (cwV 1 hts gX6_best_X6_layBest rfl rfl rfl (by decide +kernel) ⟨Nat.le_of_ble_eq_true rfl, Nat.le_of_ble_eq_true rfl⟩) hN hK hP hD hS hA [6, 7, 0, 1, 2, 3, 4, 5] [] rfl rfl (by decide) (by decide) (by decide) rfl hl.1 rfl (Nat.le_of_ble_eq_true rfl) dX6_best_45 ⟨Nat.le_of_ble_eq_true rfl, Nat.le_of_ble_eq_true rfl⟩ (fun u_45 H locs hw_45 hP hD hS => ?_)
          obtain ⟨v_13, v_14, v_15, v_16, v_17, v_18, v_19, v_20, v_21, v_22, v_23⟩ := u_45
          try dsimp only at hw_45
          replace hP : va_P D vwCl [oM mo v_13 v_14 v_15 v_16 v_17 v_18, ai (cy 0) (mo 1) 98 (stF lt mn pt tk mr od rm cd), ai (cy 0) (mo 4) 24 v_19, ai (cy 0) (mo 5) 24 v_20, ai (cy 0) (mo 6) 24 v_21, ai (cy 0) (mo 7) 24 v_22, ai (cy 0) (mo 8) 4 v_23, ai (cy 0) (mo 9) 10 cd] H := hP
          replace hD : va_D A [oM mo v_13 v_14 v_15 v_16 v_17 v_18, ai (cy 0) (mo 1) 98 (stF lt mn pt tk mr od rm cd), ai (cy 0) (mo 4) 24 v_19, ai (cy 0) (mo 5) 24 v_20, ai (cy 0) (mo 6) 24 v_21, ai (cy 0) (mo 7) 24 v_22, ai (cy 0) (mo 8) 4 v_23, ai (cy 0) (mo 9) 10 cd] := hD
          have hpl0 : 0 ≤ ((plsA mn k (usd (hasI pt lt) od 10).length).length : Int) := by omega
          have hplm := plsA_len (mn := mn) (k := k) (by omega) (usd_len (hasI pt lt) od 10)
          have hL1 := hw_45.1
          refine lv_iload_n hx hb dX6_best_48 rfl (lv_at hl 2 rfl) ?_
          refine r_const hx hb dX6_best_49 ?_
          refine r_ne hx hb 58 dX6_best_50 (by decide) ⟨by omega, by omega⟩ ⟨by omega, by omega⟩ (fun c_50 => ?_) (fun c_50 => ?_)
          ·
            refine lv_aload_n hx hb dX6_best_58 rfl (lv_at hl 0 rfl) ?_
            refine va_get (D := D) (C := RX6) (T := TX6) (N := 16) (ci := 6) (v := .int (iI v_18)) hx hb hts iw_X6_best_6 hown hK hP 0 rfl rfl 14 (by decide) (hts _ fl_X6_best_99) (fun _ h9 => h9) rfl dX6_best_59 ?_
            refine r_ne0 hx hb 68 dX6_best_62 (by decide) ⟨by omega, by omega⟩ (fun c_62 => ?_) (fun c_62 => ?_)
            ·
              refine lv_iload_n hx hb dX6_best_68 rfl (lv_at hl 2 rfl) ?_
              refine r_ne0 hx hb 79 dX6_best_69 (by decide) ⟨by omega, by omega⟩ (fun c_69 => ?_) (fun c_69 => ?_)
              ·
                refine lv_iload_n hx hb dX6_best_79 rfl (lv_at hl 2 rfl) ?_
                refine r_const hx hb dX6_best_80 ?_
                refine r_ne hx hb 91 dX6_best_81 (by decide) ⟨by omega, by omega⟩ ⟨by omega, by omega⟩ (fun c_81 => ?_) (fun c_81 => ?_)
                ·
                  refine lv_aload_n hx hb dX6_best_91 rfl (lv_at hl 0 rfl) ?_
                  refine lv_iload_n hx hb dX6_best_92 rfl (lv_at hl 2 rfl) ?_
                  refine r_bip hx hb (10) dX6_best_93 (by decide) ?_
                  refine r_sub hx hb dX6_best_95 ?_
                  have M_96 := k_X6_codeOf l D cy mo H.size v_13 v_14 v_15 v_16 v_17 v_18 lt mn pt tk mr od pl rm cd cd (v - 10) (hI) ((LayR_len ⟨hlt0, hlt1⟩ hpb.1 hw_45 (by omega)).1) ((LayR_len ⟨hlt0, hlt1⟩ hpb.1 hw_45 (by omega)).2) (by omega)
                  refine kV_i (wr := [ai (cy 0) (mo 4) 24 v_19, ai (cy 0) (mo 5) 24 v_20, ai (cy 0) (mo 6) 24 v_21, ai (cy 0) (mo 7) 24 v_22, ai (cy 0) (mo 8) 4 v_23]) (As := [.int (iI (v - 10))]) (rest := []) (q := (RX6, TX6, 16)) (ci := 6) ⟨hx, hb, hml, hown, hts⟩ M_96 0 rfl rfl (cwV 1 hts gX6_best_X6_codeOf rfl rfl rfl (by decide +kernel) ⟨Nat.le_of_ble_eq_true rfl, Nat.le_of_ble_eq_true rfl⟩) hN hK hP hD hS hA [0, 1, 7] [2, 3, 4, 5, 6] rfl rfl (by decide) (by decide) (by decide) rfl hl.1 rfl (Nat.le_of_ble_eq_true rfl) dX6_best_96 ⟨Nat.le_of_ble_eq_true rfl, Nat.le_of_ble_eq_true rfl⟩ (fun r_96 u_96 H locs hw_96 hP hD hS => ?_)
                  obtain ⟨v_24, rfl⟩ : ∃ z, z = u_96 := ⟨_, rfl⟩
                  try dsimp only at hw_96
                  replace hP : va_P D vwCl [ai (cy 0) (mo 4) 24 v_19, ai (cy 0) (mo 5) 24 v_20, ai (cy 0) (mo 6) 24 v_21, ai (cy 0) (mo 7) 24 v_22, ai (cy 0) (mo 8) 4 v_23, oM mo v_13 v_14 v_15 v_16 v_17 v_18, ai (cy 0) (mo 1) 98 (stF lt mn pt tk mr od rm cd), ai (cy 0) (mo 9) 10 v_24] H := hP
                  replace hD : va_D A [ai (cy 0) (mo 4) 24 v_19, ai (cy 0) (mo 5) 24 v_20, ai (cy 0) (mo 6) 24 v_21, ai (cy 0) (mo 7) 24 v_22, ai (cy 0) (mo 8) 4 v_23, oM mo v_13 v_14 v_15 v_16 v_17 v_18, ai (cy 0) (mo 1) 98 (stF lt mn pt tk mr od rm cd), ai (cy 0) (mo 9) 10 v_24] := hD
                  rw [(hw_45.2 (by omega)).2.2.2] at hw_96
                  exact hret [5, 6, 0, 1, 2, 3, 4, 7] (v_13, v_14, v_15, v_16, v_17, v_18, v_19, v_20, v_21, v_22, v_23, v_24) dX6_best_99 hP hD hS (by decide) rfl (by first | (have hLc := (hw_45.2 (by omega)).1; unfold fBest; (repeat' split) <;> first | omega | (exact hLc) | (exact (hw_45.2 (by omega)).2.1)) | (unfold fBest; rw [if_neg (by omega), if_neg (by omega), if_neg (by omega), if_neg (by omega), if_neg (by omega), if_neg (by omega)]; exact hw_96))
                ·
                  refine lv_aload_n hx hb dX6_best_84 rfl (lv_at hl 0 rfl) ?_
                  refine va_get (D := D) (C := RX6) (T := TX6) (N := 16) (ci := 6) (v := .int (iI v_17)) hx hb hts iw_X6_best_6 hown hK hP 0 rfl rfl 13 (by decide) (hts _ fl_X6_best_108) (fun _ h9 => h9) rfl dX6_best_85 ?_
                  refine lv_goto (tgt := 99) hx hb dX6_best_88 (by decide) ?_
                  exact hret [0, 1, 2, 3, 4, 5, 6, 7] (v_13, v_14, v_15, v_16, v_17, v_18, v_19, v_20, v_21, v_22, v_23, cd) dX6_best_99 hP hD hS (by decide) rfl (by first | (have hLc := (hw_45.2 (by omega)).1; unfold fBest; (repeat' split) <;> first | omega | (exact hLc) | (exact (hw_45.2 (by omega)).2.1)) | (unfold fBest; rw [if_neg (by omega), if_neg (by omega), if_neg (by omega), if_neg (by omega), if_neg (by omega), if_neg (by omega)]; exact hw_96))
              ·
                refine lv_aload_n hx hb dX6_best_72 rfl (lv_at hl 0 rfl) ?_
                refine va_get (D := D) (C := RX6) (T := TX6) (N := 16) (ci := 6) (v := .int (iI v_15)) hx hb hts iw_X6_best_6 hown hK hP 0 rfl rfl 11 (by decide) (hts _ fl_X6_best_105) (fun _ h9 => h9) rfl dX6_best_73 ?_
                refine lv_goto (tgt := 99) hx hb dX6_best_76 (by decide) ?_
                exact hret [0, 1, 2, 3, 4, 5, 6, 7] (v_13, v_14, v_15, v_16, v_17, v_18, v_19, v_20, v_21, v_22, v_23, cd) dX6_best_99 hP hD hS (by decide) rfl (by first | (have hLc := (hw_45.2 (by omega)).1; unfold fBest; (repeat' split) <;> first | omega | (exact hLc) | (exact (hw_45.2 (by omega)).2.1)) | (unfold fBest; rw [if_neg (by omega), if_neg (by omega), if_neg (by omega), if_neg (by omega), if_neg (by omega), if_neg (by omega)]; exact hw_96))
            ·
              refine r_bip hx hb (-6) dX6_best_65 (by decide) ?_
              exact hret [0, 1, 2, 3, 4, 5, 6, 7] (v_13, v_14, v_15, v_16, v_17, v_18, v_19, v_20, v_21, v_22, v_23, cd) dX6_best_67 hP hD hS (by decide) rfl (by unfold fBest; (repeat' split) <;> omega)
          ·
            refine lv_aload_n hx hb dX6_best_53 rfl (lv_at hl 0 rfl) ?_
            refine va_get (D := D) (C := RX6) (T := TX6) (N := 16) (ci := 6) (v := .int (iI v_18)) hx hb hts iw_X6_best_6 hown hK hP 0 rfl rfl 14 (by decide) (hts _ fl_X6_best_99) (fun _ h9 => h9) rfl dX6_best_54 ?_
            exact hret [0, 1, 2, 3, 4, 5, 6, 7] (v_13, v_14, v_15, v_16, v_17, v_18, v_19, v_20, v_21, v_22, v_23, cd) dX6_best_57 hP hD hS (by decide) rfl (by unfold fBest; (repeat' split) <;> omega)
        ·
          refine r_bip hx hb (-5) dX6_best_40 (by decide) ?_
          exact hret [6, 7, 0, 1, 2, 3, 4, 5] (rn, sn, co, bp, ag, pn, rv, sw, gt, sa, ld, cq) dX6_best_42 hP hD hS (by decide) rfl (by unfold fBest; (repeat' split) <;> omega)
      ·
        refine r_bip hx hb (-2) dX6_best_27 (by decide) ?_
        exact hret [0, 1, 2, 3, 4, 5, 6, 7] (rn, sn, co, bp, ag, pn, rv, sw, gt, sa, ld, cq) dX6_best_29 hP hD hS (by decide) rfl (by unfold fBest; (repeat' split) <;> omega)
abbrev rm_X6_take : Room := { frames := 6, cells := 0, slots := 0, locals := 138 }
theorem fl_X6_take_99 : Cond.fieldLink RX6 99 "WalkPassesModel" "plans" "I" ∈ wsX6_take := by decide +kernel
theorem fl_X6_take_102 : Cond.fieldLink RX6 102 "WalkPassesModel" "bestPlan" "I" ∈ wsX6_take := by decide +kernel
theorem fl_X6_take_105 : Cond.fieldLink RX6 105 "WalkPassesModel" "cost" "I" ∈ wsX6_take := by decide +kernel
theorem iw_X6_take_6 : ∀ w ∈ u_ws RX6 TX6 16, w ∈ wsX6_take := by decide +kernel
set_option maxHeartbeats 4000000 in
set_option maxRecDepth 100000 in
theorem k_X6_take (l : Launch) (D : va_G) (cy : Nat → ClassId) (mo : Nat → Nat) (z : Nat) (rn sn co bp ag pn : Int) (lt mn : Int) (pt tk mr od pl rm cd : Int → Int) (rv sw gt sa ld : Int → Int) (cq : Int → Int) (k : Int) (hI : DI lt mn pt tk mr od pl rm cd) (hk9 : inR k) : CtI l yX6_take wsX6_take rm_X6_take D (tyL cy) [.ref (mo 0), .int (iI k)] [oM mo rn sn co bp ag pn, ai (cy 0) (mo 1) 98 (stF lt mn pt tk mr od rm cd), ai (cy 0) (mo 4) 24 rv, ai (cy 0) (mo 5) 24 sw, ai (cy 0) (mo 6) 24 gt, ai (cy 0) (mo 7) 24 sa, ai (cy 0) (mo 8) 4 ld, ai (cy 0) (mo 9) 10 cq] z (fun (r : Int) (u : Int × Int × Int × Int × Int × Int × (Int → Int) × (Int → Int) × (Int → Int) × (Int → Int) × (Int → Int) × (Int → Int) × (Int → Int)) => r = fTake lt mn pt tk mr od rm k ∧ ((((1 ≤ k ∧ k ≤ 3) ∧ pw mn k.toNat ≤ 16 ∧ ((plsA mn k (usd (hasI pt lt) od 10).length).length : Int) ≠ 0) ∧ u.2.2.2.2.2.2.2.2.2.2.2.2 = tkC (hasI pt lt) (asg (usd (hasI pt lt) od 10) (bsF lt mn pt tk mr rm (usd (hasI pt lt) od 10) k (plsA mn k (usd (hasI pt lt) od 10).length)).2.2) cd 10) ∨ (¬ ((1 ≤ k ∧ k ≤ 3) ∧ pw mn k.toNat ≤ 16 ∧ ((plsA mn k (usd (hasI pt lt) od 10).length).length : Int) ≠ 0) ∧ u.2.2.2.2.2.2.2.2.2.2.2.2 = cd))) (fun (u : Int × Int × Int × Int × Int × Int × (Int → Int) × (Int → Int) × (Int → Int) × (Int → Int) × (Int → Int) × (Int → Int) × (Int → Int)) => [oM mo u.1 u.2.1 u.2.2.1 u.2.2.2.1 u.2.2.2.2.1 u.2.2.2.2.2.1, ai (cy 0) (mo 1) 98 (stF lt mn pt tk mr od rm u.2.2.2.2.2.2.2.2.2.2.2.2), ai (cy 0) (mo 4) 24 u.2.2.2.2.2.2.1, ai (cy 0) (mo 5) 24 u.2.2.2.2.2.2.2.1, ai (cy 0) (mo 6) 24 u.2.2.2.2.2.2.2.2.1, ai (cy 0) (mo 7) 24 u.2.2.2.2.2.2.2.2.2.1, ai (cy 0) (mo 8) 4 u.2.2.2.2.2.2.2.2.2.2.1, ai (cy 0) (mo 9) 10 u.2.2.2.2.2.2.2.2.2.2.2.1]) 0 0 := by
  refine ct_i (cc := cX6_take) (maxL := 2) (by decide) rfl (Nat.le_of_ble_eq_true rfl) ?_
  intro p e s m args below meth c A Q H locs ls hx hb hml hown hin hts hK hN hP hD hS hA hl hret
  replace hl : lv_has ls 2 [(0, .ref (mo 0)), (1, .int (iI k))] := hl
  replace hown : s.vm.findClass RX6 = some m.cls := hown
  obtain ⟨⟨⟨hlt0, hlt1⟩, hmn0, hmn1⟩, ⟨hpt, htk, hmr⟩, ⟨hod, hpl, hpo, hop⟩, hrm, hcd⟩ := id hI
  refine lv_iload_n hx hb dX6_take_0 rfl (lv_at hl 1 rfl) ?_
  have M_1 := k_X6_isRun l D cy  H.size k (hk9)
  refine kS_i (wr := [oM mo rn sn co bp ag pn, ai (cy 0) (mo 1) 98 (stF lt mn pt tk mr od rm cd), ai (cy 0) (mo 4) 24 rv, ai (cy 0) (mo 5) 24 sw, ai (cy 0) (mo 6) 24 gt, ai (cy 0) (mo 7) 24 sa, ai (cy 0) (mo 8) 4 ld, ai (cy 0) (mo 9) 10 cq]) (As := [.int (iI k)]) (rest := []) ⟨hx, hb, hml, hown, hts⟩ M_1 (va_cwS 1 hts gX6_take_X6_isRun rfl rfl rfl (by decide +kernel) ⟨Nat.le_of_ble_eq_true rfl, Nat.le_of_ble_eq_true rfl⟩) hN hK hP hD hS hA [] [0, 1, 2, 3, 4, 5, 6, 7] rfl rfl (by decide) (by decide) (by decide) rfl hl.1 rfl (Nat.le_of_ble_eq_true rfl) dX6_take_1 ⟨Nat.le_of_ble_eq_true rfl, Nat.le_of_ble_eq_true rfl⟩ (fun r_1 u_1 H locs hw_1 hP hD hS => ?_)
  replace hP : va_P D vwCl [oM mo rn sn co bp ag pn, ai (cy 0) (mo 1) 98 (stF lt mn pt tk mr od rm cd), ai (cy 0) (mo 4) 24 rv, ai (cy 0) (mo 5) 24 sw, ai (cy 0) (mo 6) 24 gt, ai (cy 0) (mo 7) 24 sa, ai (cy 0) (mo 8) 4 ld, ai (cy 0) (mo 9) 10 cq] H := hP
  replace hD : va_D A [oM mo rn sn co bp ag pn, ai (cy 0) (mo 1) 98 (stF lt mn pt tk mr od rm cd), ai (cy 0) (mo 4) 24 rv, ai (cy 0) (mo 5) 24 sw, ai (cy 0) (mo 6) 24 gt, ai (cy 0) (mo 7) 24 sa, ai (cy 0) (mo 8) 4 ld, ai (cy 0) (mo 9) 10 cq] := hD
  refine r_ne0 hx hb 10 dX6_take_4 (by decide) ⟨by omega, by omega⟩ (fun c_4 => ?_) (fun c_4 => ?_)
  ·
    refine lv_aload_n hx hb dX6_take_10 rfl (lv_at hl 0 rfl) ?_
    refine lv_iload_n hx hb dX6_take_11 rfl (lv_at hl 1 rfl) ?_
    have M_12 := k_X6_power l D cy mo H.size rn sn co bp ag pn lt mn pt tk mr od pl rm cd k (by omega)
    refine kV_i (wr := [ai (cy 0) (mo 4) 24 rv, ai (cy 0) (mo 5) 24 sw, ai (cy 0) (mo 6) 24 gt, ai (cy 0) (mo 7) 24 sa, ai (cy 0) (mo 8) 4 ld, ai (cy 0) (mo 9) 10 cq]) (As := [.int (iI k)]) (rest := []) (q := (RX6, TX6, 16)) (ci := 6) ⟨hx, hb, hml, hown, hts⟩ M_12 0 rfl rfl (cwV 1 hts gX6_take_X6_power rfl rfl rfl (by decide +kernel) ⟨Nat.le_of_ble_eq_true rfl, Nat.le_of_ble_eq_true rfl⟩) hN hK hP hD hS hA [0, 1] [2, 3, 4, 5, 6, 7] rfl rfl (by decide) (by decide) (by decide) rfl hl.1 rfl (Nat.le_of_ble_eq_true rfl) dX6_take_12 ⟨Nat.le_of_ble_eq_true rfl, Nat.le_of_ble_eq_true rfl⟩ (fun r_12 u_12 H locs hw_12 hP hD hS => ?_)
    replace hP : va_P D vwCl [ai (cy 0) (mo 4) 24 rv, ai (cy 0) (mo 5) 24 sw, ai (cy 0) (mo 6) 24 gt, ai (cy 0) (mo 7) 24 sa, ai (cy 0) (mo 8) 4 ld, ai (cy 0) (mo 9) 10 cq, oM mo rn sn co bp ag pn, ai (cy 0) (mo 1) 98 (stF lt mn pt tk mr od rm cd)] H := hP
    replace hD : va_D A [ai (cy 0) (mo 4) 24 rv, ai (cy 0) (mo 5) 24 sw, ai (cy 0) (mo 6) 24 gt, ai (cy 0) (mo 7) 24 sa, ai (cy 0) (mo 8) 4 ld, ai (cy 0) (mo 9) 10 cq, oM mo rn sn co bp ag pn, ai (cy 0) (mo 1) 98 (stF lt mn pt tk mr od rm cd)] := hD
    have hpb := pw_b hmn0 hmn1 (n := k.toNat) (by omega)
    refine r_bip hx hb (16) dX6_take_15 (by decide) ?_
    refine r_le hx hb 23 dX6_take_17 (by decide) ⟨by omega, by omega⟩ ⟨by omega, by omega⟩ (fun c_17 => ?_) (fun c_17 => ?_)
    ·
      refine lv_aload_n hx hb dX6_take_23 rfl (lv_at hl 0 rfl) ?_
      refine lv_iload_n hx hb dX6_take_24 rfl (lv_at hl 1 rfl) ?_
      have M_25 := k_X6_layBest l D cy mo H.size rn sn co bp ag pn lt mn pt tk mr od pl rm cd rv sw gt sa ld cq k (hI) (by omega) (by omega)
      refine kV_v (wr := []) (As := [.int (iI k)]) (rest := []) (q := (RX6, TX6, 16)) (ci := 6) ⟨hx, hb, hml, hown, hts⟩ M_25 6 rfl rfl (cwV 1 hts gX6_take_X6_layBest rfl rfl rfl (by decide +kernel) ⟨Nat.le_of_ble_eq_true rfl, Nat.le_of_ble_eq_true rfl⟩) hN hK hP hD hS hA [6, 7, 0, 1, 2, 3, 4, 5] [] rfl rfl (by decide) (by decide) (by decide) rfl hl.1 rfl (Nat.le_of_ble_eq_true rfl) dX6_take_25 ⟨Nat.le_of_ble_eq_true rfl, Nat.le_of_ble_eq_true rfl⟩ (fun u_25 H locs hw_25 hP hD hS => ?_)
      obtain ⟨v_1, v_2, v_3, v_4, v_5, v_6, v_7, v_8, v_9, v_10, v_11⟩ := u_25
      try dsimp only at hw_25
      replace hP : va_P D vwCl [oM mo v_1 v_2 v_3 v_4 v_5 v_6, ai (cy 0) (mo 1) 98 (stF lt mn pt tk mr od rm cd), ai (cy 0) (mo 4) 24 v_7, ai (cy 0) (mo 5) 24 v_8, ai (cy 0) (mo 6) 24 v_9, ai (cy 0) (mo 7) 24 v_10, ai (cy 0) (mo 8) 4 v_11, ai (cy 0) (mo 9) 10 cd] H := hP
      replace hD : va_D A [oM mo v_1 v_2 v_3 v_4 v_5 v_6, ai (cy 0) (mo 1) 98 (stF lt mn pt tk mr od rm cd), ai (cy 0) (mo 4) 24 v_7, ai (cy 0) (mo 5) 24 v_8, ai (cy 0) (mo 6) 24 v_9, ai (cy 0) (mo 7) 24 v_10, ai (cy 0) (mo 8) 4 v_11, ai (cy 0) (mo 9) 10 cd] := hD
      have hpl0 : 0 ≤ ((plsA mn k (usd (hasI pt lt) od 10).length).length : Int) := by omega
      have hplm := plsA_len (mn := mn) (k := k) (by omega) (usd_len (hasI pt lt) od 10)
      have hL1 := hw_25.1
      refine lv_aload_n hx hb dX6_take_28 rfl (lv_at hl 0 rfl) ?_
      refine va_get (D := D) (C := RX6) (T := TX6) (N := 16) (ci := 6) (v := .int (iI v_6)) hx hb hts iw_X6_take_6 hown hK hP 0 rfl rfl 14 (by decide) (hts _ fl_X6_take_99) (fun _ h9 => h9) rfl dX6_take_29 ?_
      refine r_ne0 hx hb 38 dX6_take_32 (by decide) ⟨by omega, by omega⟩ (fun c_32 => ?_) (fun c_32 => ?_)
      ·
        refine lv_aload_n hx hb dX6_take_38 rfl (lv_at hl 0 rfl) ?_
        refine lv_aload_n hx hb dX6_take_39 rfl (lv_at hl 0 rfl) ?_
        refine va_get (D := D) (C := RX6) (T := TX6) (N := 16) (ci := 6) (v := .int (iI v_4)) hx hb hts iw_X6_take_6 hown hK hP 0 rfl rfl 12 (by decide) (hts _ fl_X6_take_102) (fun _ h9 => h9) rfl dX6_take_40 ?_
        have M_43 := k_X6_takeCodes l D cy mo H.size v_1 v_2 v_3 v_4 v_5 v_6 lt mn pt tk mr od pl rm cd v_4 (hI) ((LayR_len ⟨hlt0, hlt1⟩ hpb.1 hw_25 (by omega)).1) ((LayR_len ⟨hlt0, hlt1⟩ hpb.1 hw_25 (by omega)).2)
        refine kV_v (wr := [ai (cy 0) (mo 4) 24 v_7, ai (cy 0) (mo 5) 24 v_8, ai (cy 0) (mo 6) 24 v_9, ai (cy 0) (mo 7) 24 v_10, ai (cy 0) (mo 8) 4 v_11, ai (cy 0) (mo 9) 10 cd]) (As := [.int (iI v_4)]) (rest := []) (q := (RX6, TX6, 16)) (ci := 6) ⟨hx, hb, hml, hown, hts⟩ M_43 0 rfl rfl (cwV 1 hts gX6_take_X6_takeCodes rfl rfl rfl (by decide +kernel) ⟨Nat.le_of_ble_eq_true rfl, Nat.le_of_ble_eq_true rfl⟩) hN hK hP hD hS hA [0, 1] [2, 3, 4, 5, 6, 7] rfl rfl (by decide) (by decide) (by decide) rfl hl.1 rfl (Nat.le_of_ble_eq_true rfl) dX6_take_43 ⟨Nat.le_of_ble_eq_true rfl, Nat.le_of_ble_eq_true rfl⟩ (fun u_43 H locs hw_43 hP hD hS => ?_)
        replace hP : va_P D vwCl [ai (cy 0) (mo 4) 24 v_7, ai (cy 0) (mo 5) 24 v_8, ai (cy 0) (mo 6) 24 v_9, ai (cy 0) (mo 7) 24 v_10, ai (cy 0) (mo 8) 4 v_11, ai (cy 0) (mo 9) 10 cd, oM mo v_1 v_2 v_3 v_4 v_5 v_6, ai (cy 0) (mo 1) 98 (stF lt mn pt tk mr od rm (tkC (hasI pt lt) (asg (usd (hasI pt lt) od 10) (bl v_4)) cd 10))] H := hP
        replace hD : va_D A [ai (cy 0) (mo 4) 24 v_7, ai (cy 0) (mo 5) 24 v_8, ai (cy 0) (mo 6) 24 v_9, ai (cy 0) (mo 7) 24 v_10, ai (cy 0) (mo 8) 4 v_11, ai (cy 0) (mo 9) 10 cd, oM mo v_1 v_2 v_3 v_4 v_5 v_6, ai (cy 0) (mo 1) 98 (stF lt mn pt tk mr od rm (tkC (hasI pt lt) (asg (usd (hasI pt lt) od 10) (bl v_4)) cd 10))] := hD
        refine lv_aload_n hx hb dX6_take_46 rfl (lv_at hl 0 rfl) ?_
        refine va_get (D := D) (C := RX6) (T := TX6) (N := 16) (ci := 6) (v := .int (iI v_3)) hx hb hts iw_X6_take_6 hown hK hP 6 rfl rfl 11 (by decide) (hts _ fl_X6_take_105) (fun _ h9 => h9) rfl dX6_take_47 ?_
        have hLx := hw_25.2 (by omega)
        rw [hLx.2.2.2] at hP hD
        exact hret [6, 7, 0, 1, 2, 3, 4, 5] (v_1, v_2, v_3, v_4, v_5, v_6, v_7, v_8, v_9, v_10, v_11, cd, tkC (hasI pt lt) (asg (usd (hasI pt lt) od 10) (bsF lt mn pt tk mr rm (usd (hasI pt lt) od 10) k (plsA mn k (usd (hasI pt lt) od 10).length)).2.2) cd 10) dX6_take_50 hP hD hS (by decide) rfl (⟨by have hLc := hLx.1; unfold fTake; (repeat' split) <;> omega, Or.inl ⟨⟨by omega, by omega, by omega⟩, rfl⟩⟩)
      ·
        refine r_bip hx hb (-5) dX6_take_35 (by decide) ?_
        exact hret [0, 1, 2, 3, 4, 5, 6, 7] (v_1, v_2, v_3, v_4, v_5, v_6, v_7, v_8, v_9, v_10, v_11, cd, cd) dX6_take_37 hP hD hS (by decide) rfl (⟨by unfold fTake; (repeat' split) <;> omega, Or.inr ⟨by omega, rfl⟩⟩)
    ·
      refine r_bip hx hb (-5) dX6_take_20 (by decide) ?_
      exact hret [6, 7, 0, 1, 2, 3, 4, 5] (rn, sn, co, bp, ag, pn, rv, sw, gt, sa, ld, cq, cd) dX6_take_22 hP hD hS (by decide) rfl (⟨by unfold fTake; (repeat' split) <;> omega, Or.inr ⟨by omega, rfl⟩⟩)
  ·
    refine r_bip hx hb (-2) dX6_take_7 (by decide) ?_
    exact hret [0, 1, 2, 3, 4, 5, 6, 7] (rn, sn, co, bp, ag, pn, rv, sw, gt, sa, ld, cq, cd) dX6_take_9 hP hD hS (by decide) rfl (⟨by unfold fTake; (repeat' split) <;> omega, Or.inr ⟨by omega, rfl⟩⟩)
abbrev rm_X6_isClean : Room := { frames := 6, cells := 0, slots := 0, locals := 138 }
theorem fl_X6_isClean_99 : Cond.fieldLink RX6 99 "WalkPassesModel" "plans" "I" ∈ wsX6_isClean := by decide +kernel
theorem fl_X6_isClean_105 : Cond.fieldLink RX6 105 "WalkPassesModel" "cost" "I" ∈ wsX6_isClean := by decide +kernel
theorem iw_X6_isClean_6 : ∀ w ∈ u_ws RX6 TX6 16, w ∈ wsX6_isClean := by decide +kernel
set_option maxHeartbeats 4000000 in
set_option maxRecDepth 100000 in
theorem k_X6_isClean (l : Launch) (D : va_G) (cy : Nat → ClassId) (mo : Nat → Nat) (z : Nat) (rn sn co bp ag pn : Int) (lt mn : Int) (pt tk mr od pl rm cd : Int → Int) (rv sw gt sa ld : Int → Int) (cq : Int → Int) (k : Int) (hI : DI lt mn pt tk mr od pl rm cd) (hk : 1 ≤ k ∧ k ≤ 3) (hpw : pw mn k.toNat ≤ 16) : CtI l yX6_isClean wsX6_isClean rm_X6_isClean D (tyL cy) [.ref (mo 0), .int (iI k)] [oM mo rn sn co bp ag pn, ai (cy 0) (mo 1) 98 (stF lt mn pt tk mr od rm cd), ai (cy 0) (mo 4) 24 rv, ai (cy 0) (mo 5) 24 sw, ai (cy 0) (mo 6) 24 gt, ai (cy 0) (mo 7) 24 sa, ai (cy 0) (mo 8) 4 ld, ai (cy 0) (mo 9) 10 cq] z (fun (r : Int) (u : Int × Int × Int × Int × Int × Int × (Int → Int) × (Int → Int) × (Int → Int) × (Int → Int) × (Int → Int) × (Int → Int)) => (r = 1 ∧ clM lt mn pt tk mr od rm k) ∨ (r = 0 ∧ ¬ clM lt mn pt tk mr od rm k)) (fun (u : Int × Int × Int × Int × Int × Int × (Int → Int) × (Int → Int) × (Int → Int) × (Int → Int) × (Int → Int) × (Int → Int)) => [oM mo u.1 u.2.1 u.2.2.1 u.2.2.2.1 u.2.2.2.2.1 u.2.2.2.2.2.1, ai (cy 0) (mo 1) 98 (stF lt mn pt tk mr od rm cd), ai (cy 0) (mo 4) 24 u.2.2.2.2.2.2.1, ai (cy 0) (mo 5) 24 u.2.2.2.2.2.2.2.1, ai (cy 0) (mo 6) 24 u.2.2.2.2.2.2.2.2.1, ai (cy 0) (mo 7) 24 u.2.2.2.2.2.2.2.2.2.1, ai (cy 0) (mo 8) 4 u.2.2.2.2.2.2.2.2.2.2.1, ai (cy 0) (mo 9) 10 u.2.2.2.2.2.2.2.2.2.2.2]) 0 0 := by
  refine ct_z (cc := cX6_isClean) (maxL := 2) (by decide) rfl (Nat.le_of_ble_eq_true rfl) ?_
  intro p e s m args below meth c A Q H locs ls hx hb hml hown hin hts hK hN hP hD hS hA hl hret
  replace hl : lv_has ls 2 [(0, .ref (mo 0)), (1, .int (iI k))] := hl
  replace hown : s.vm.findClass RX6 = some m.cls := hown
  obtain ⟨⟨⟨hlt0, hlt1⟩, hmn0, hmn1⟩, ⟨hpt, htk, hmr⟩, ⟨hod, hpl, hpo, hop⟩, hrm, hcd⟩ := id hI
  refine lv_aload_n hx hb dX6_isClean_0 rfl (lv_at hl 0 rfl) ?_
  refine lv_iload_n hx hb dX6_isClean_1 rfl (lv_at hl 1 rfl) ?_
  have M_2 := k_X6_layBest l D cy mo H.size rn sn co bp ag pn lt mn pt tk mr od pl rm cd rv sw gt sa ld cq k (hI) (hk) (hpw)
  refine kV_v (wr := []) (As := [.int (iI k)]) (rest := []) (q := (RX6, TX6, 16)) (ci := 6) ⟨hx, hb, hml, hown, hts⟩ M_2 0 rfl rfl (cwV 1 hts gX6_isClean_X6_layBest rfl rfl rfl (by decide +kernel) ⟨Nat.le_of_ble_eq_true rfl, Nat.le_of_ble_eq_true rfl⟩) hN hK hP hD hS hA [0, 1, 2, 3, 4, 5, 6, 7] [] rfl rfl (by decide) (by decide) (by decide) rfl hl.1 rfl (Nat.le_of_ble_eq_true rfl) dX6_isClean_2 ⟨Nat.le_of_ble_eq_true rfl, Nat.le_of_ble_eq_true rfl⟩ (fun u_2 H locs hw_2 hP hD hS => ?_)
  obtain ⟨v_1, v_2, v_3, v_4, v_5, v_6, v_7, v_8, v_9, v_10, v_11⟩ := u_2
  try dsimp only at hw_2
  replace hP : va_P D vwCl [oM mo v_1 v_2 v_3 v_4 v_5 v_6, ai (cy 0) (mo 1) 98 (stF lt mn pt tk mr od rm cd), ai (cy 0) (mo 4) 24 v_7, ai (cy 0) (mo 5) 24 v_8, ai (cy 0) (mo 6) 24 v_9, ai (cy 0) (mo 7) 24 v_10, ai (cy 0) (mo 8) 4 v_11, ai (cy 0) (mo 9) 10 cd] H := hP
  replace hD : va_D A [oM mo v_1 v_2 v_3 v_4 v_5 v_6, ai (cy 0) (mo 1) 98 (stF lt mn pt tk mr od rm cd), ai (cy 0) (mo 4) 24 v_7, ai (cy 0) (mo 5) 24 v_8, ai (cy 0) (mo 6) 24 v_9, ai (cy 0) (mo 7) 24 v_10, ai (cy 0) (mo 8) 4 v_11, ai (cy 0) (mo 9) 10 cd] := hD
  have hpl0 : 0 ≤ ((plsA mn k (usd (hasI pt lt) od 10).length).length : Int) := by omega
  have hplm := plsA_len (mn := mn) (k := k) (by omega) (usd_len (hasI pt lt) od 10)
  have hL1 := hw_2.1
  have hsm := sumTo_b hmr lt.toNat
  have hcF := bsF_b (mn := mn) (pt := pt) (tk := tk) (mr := mr) (rm := rm) (UL := (usd (hasI pt lt) od 10)) (k := k) ⟨hlt0, hlt1⟩ (plsA mn k (usd (hasI pt lt) od 10).length)
  refine lv_aload_n hx hb dX6_isClean_5 rfl (lv_at hl 0 rfl) ?_
  refine va_get (D := D) (C := RX6) (T := TX6) (N := 16) (ci := 6) (v := .int (iI v_6)) hx hb hts iw_X6_isClean_6 hown hK hP 0 rfl rfl 14 (by decide) (hts _ fl_X6_isClean_99) (fun _ h9 => h9) rfl dX6_isClean_6 ?_
  refine r_le0 hx hb 27 dX6_isClean_9 (by decide) ⟨by omega, by omega⟩ (fun c_9 => ?_) (fun c_9 => ?_)
  ·
    refine r_const hx hb dX6_isClean_27 ?_
    exact hret [0, 1, 2, 3, 4, 5, 6, 7] (v_1, v_2, v_3, v_4, v_5, v_6, v_7, v_8, v_9, v_10, v_11, cd) dX6_isClean_28 hP hD hS (by decide) rfl (by omega) (by first | exact Or.inl ⟨rfl, by omega, by omega⟩ | exact Or.inr ⟨rfl, fun z => by have z1 := z.1; omega⟩ | exact Or.inr ⟨rfl, fun z => by have z1 := z.2; omega⟩)
  ·
    refine lv_aload_n hx hb dX6_isClean_12 rfl (lv_at hl 0 rfl) ?_
    have hLx := hw_2.2 (by omega)
    have hLx1 := hLx.1
    refine va_get (D := D) (C := RX6) (T := TX6) (N := 16) (ci := 6) (v := .int (iI v_3)) hx hb hts iw_X6_isClean_6 hown hK hP 0 rfl rfl 11 (by decide) (hts _ fl_X6_isClean_105) (fun _ h9 => h9) rfl dX6_isClean_13 ?_
    refine lv_aload_n hx hb dX6_isClean_16 rfl (lv_at hl 0 rfl) ?_
    have M_17 := k_X6_misreads l D cy mo H.size v_1 v_2 v_3 v_4 v_5 v_6 lt mn pt tk mr od pl rm cd (⟨hlt0, hlt1⟩)
    refine kV_i (wr := [ai (cy 0) (mo 4) 24 v_7, ai (cy 0) (mo 5) 24 v_8, ai (cy 0) (mo 6) 24 v_9, ai (cy 0) (mo 7) 24 v_10, ai (cy 0) (mo 8) 4 v_11, ai (cy 0) (mo 9) 10 cd]) (As := []) (rest := [.int (iI v_3)]) (q := (RX6, TX6, 16)) (ci := 6) ⟨hx, hb, hml, hown, hts⟩ M_17 0 rfl rfl (cwV 0 hts gX6_isClean_X6_misreads rfl rfl rfl (by decide +kernel) ⟨Nat.le_of_ble_eq_true rfl, Nat.le_of_ble_eq_true rfl⟩) hN hK hP hD hS hA [0, 1] [2, 3, 4, 5, 6, 7] rfl rfl (by decide) (by decide) (by decide) rfl hl.1 rfl (Nat.le_of_ble_eq_true rfl) dX6_isClean_17 ⟨Nat.le_of_ble_eq_true rfl, Nat.le_of_ble_eq_true rfl⟩ (fun r_17 u_17 H locs hw_17 hP hD hS => ?_)
    replace hP : va_P D vwCl [ai (cy 0) (mo 4) 24 v_7, ai (cy 0) (mo 5) 24 v_8, ai (cy 0) (mo 6) 24 v_9, ai (cy 0) (mo 7) 24 v_10, ai (cy 0) (mo 8) 4 v_11, ai (cy 0) (mo 9) 10 cd, oM mo v_1 v_2 v_3 v_4 v_5 v_6, ai (cy 0) (mo 1) 98 (stF lt mn pt tk mr od rm cd)] H := hP
    replace hD : va_D A [ai (cy 0) (mo 4) 24 v_7, ai (cy 0) (mo 5) 24 v_8, ai (cy 0) (mo 6) 24 v_9, ai (cy 0) (mo 7) 24 v_10, ai (cy 0) (mo 8) 4 v_11, ai (cy 0) (mo 9) 10 cd, oM mo v_1 v_2 v_3 v_4 v_5 v_6, ai (cy 0) (mo 1) 98 (stF lt mn pt tk mr od rm cd)] := hD
    refine r_ne hx hb 27 dX6_isClean_20 (by decide) ⟨by omega, by omega⟩ ⟨by omega, by omega⟩ (fun c_20 => ?_) (fun c_20 => ?_)
    ·
      refine r_const hx hb dX6_isClean_27 ?_
      exact hret [6, 7, 0, 1, 2, 3, 4, 5] (v_1, v_2, v_3, v_4, v_5, v_6, v_7, v_8, v_9, v_10, v_11, cd) dX6_isClean_28 hP hD hS (by decide) rfl (by omega) (by first | exact Or.inl ⟨rfl, by omega, by omega⟩ | exact Or.inr ⟨rfl, fun z => by have z1 := z.1; omega⟩ | exact Or.inr ⟨rfl, fun z => by have z1 := z.2; omega⟩)
    ·
      refine r_const hx hb dX6_isClean_23 ?_
      refine lv_goto (tgt := 28) hx hb dX6_isClean_24 (by decide) ?_
      exact hret [6, 7, 0, 1, 2, 3, 4, 5] (v_1, v_2, v_3, v_4, v_5, v_6, v_7, v_8, v_9, v_10, v_11, cd) dX6_isClean_28 hP hD hS (by decide) rfl (by omega) (by first | exact Or.inl ⟨rfl, by omega, by omega⟩ | exact Or.inr ⟨rfl, fun z => by have z1 := z.1; omega⟩ | exact Or.inr ⟨rfl, fun z => by have z1 := z.2; omega⟩)
abbrev rm_X6_fewest : Room := { frames := 7, cells := 0, slots := 0, locals := 159 }
set_option maxHeartbeats 4000000 in
set_option maxRecDepth 100000 in
theorem k_X6_fewest (l : Launch) (D : va_G) (cy : Nat → ClassId) (mo : Nat → Nat) (z : Nat) (rn sn co bp ag pn : Int) (lt mn : Int) (pt tk mr od pl rm cd : Int → Int) (rv sw gt sa ld : Int → Int) (cq : Int → Int) (hI : DI lt mn pt tk mr od pl rm cd) : CtI l yX6_fewest wsX6_fewest rm_X6_fewest D (tyL cy) [.ref (mo 0)] [oM mo rn sn co bp ag pn, ai (cy 0) (mo 1) 98 (stF lt mn pt tk mr od rm cd), ai (cy 0) (mo 4) 24 rv, ai (cy 0) (mo 5) 24 sw, ai (cy 0) (mo 6) 24 gt, ai (cy 0) (mo 7) 24 sa, ai (cy 0) (mo 8) 4 ld, ai (cy 0) (mo 9) 10 cq] z (fun (r : Int) (u : Int × Int × Int × Int × Int × Int × (Int → Int) × (Int → Int) × (Int → Int) × (Int → Int) × (Int → Int) × (Int → Int)) => ((1 ≤ r ∧ r ≤ 3) ∧ (pw mn r.toNat ≤ 16 ∧ clM lt mn pt tk mr od rm r) ∧ ∀ j, 1 ≤ j → j < r → ¬ (pw mn j.toNat ≤ 16 ∧ clM lt mn pt tk mr od rm j)) ∨ (r = -6 ∧ ∀ j, 1 ≤ j → j ≤ 3 → ¬ (pw mn j.toNat ≤ 16 ∧ clM lt mn pt tk mr od rm j))) (fun (u : Int × Int × Int × Int × Int × Int × (Int → Int) × (Int → Int) × (Int → Int) × (Int → Int) × (Int → Int) × (Int → Int)) => [oM mo u.1 u.2.1 u.2.2.1 u.2.2.2.1 u.2.2.2.2.1 u.2.2.2.2.2.1, ai (cy 0) (mo 1) 98 (stF lt mn pt tk mr od rm cd), ai (cy 0) (mo 4) 24 u.2.2.2.2.2.2.1, ai (cy 0) (mo 5) 24 u.2.2.2.2.2.2.2.1, ai (cy 0) (mo 6) 24 u.2.2.2.2.2.2.2.2.1, ai (cy 0) (mo 7) 24 u.2.2.2.2.2.2.2.2.2.1, ai (cy 0) (mo 8) 4 u.2.2.2.2.2.2.2.2.2.2.1, ai (cy 0) (mo 9) 10 u.2.2.2.2.2.2.2.2.2.2.2]) 0 0 := by
  refine ct_i (cc := cX6_fewest) (maxL := 2) (by decide) rfl (Nat.le_of_ble_eq_true rfl) ?_
  intro p e s m args below meth c A Q H locs ls hx hb hml hown hin hts hK hN hP hD hS hA hl hret
  replace hl : lv_has ls 2 [(0, .ref (mo 0))] := hl
  replace hown : s.vm.findClass RX6 = some m.cls := hown
  obtain ⟨⟨⟨hlt0, hlt1⟩, hmn0, hmn1⟩, ⟨hpt, htk, hmr⟩, ⟨hod, hpl, hpo, hop⟩, hrm, hcd⟩ := id hI
  refine r_const hx hb dX6_fewest_0 ?_
  refine lv_istore_n (lv' := [(1, .int (iI 1)), (0, .ref (mo 0))]) hx hb dX6_fewest_1 rfl hl (by decide) rfl (fun ls hl => ?_)
  have lp_2 : ∀ (fu : Nat) (k : Int) (n1 : Int) (n2 : Int) (c1 : Int) (b1 : Int) (a1 : Int) (p1 : Int) (RV : Int → Int) (SW : Int → Int) (GT : Int → Int) (SA : Int → Int) (LD : Int → Int) (CQ : Int → Int), (1 ≤ k ∧ k ≤ 4) → (∀ j, 1 ≤ j → j < k → ¬ (pw mn j.toNat ≤ 16 ∧ clM lt mn pt tk mr od rm j)) → (4 - k).toNat < fu → ∀ (H : Heap) (locs : List Loc), va_P D vwCl [oM mo n1 n2 c1 b1 a1 p1, ai (cy 0) (mo 1) 98 (stF lt mn pt tk mr od rm cd), ai (cy 0) (mo 4) 24 RV, ai (cy 0) (mo 5) 24 SW, ai (cy 0) (mo 6) 24 GT, ai (cy 0) (mo 7) 24 SA, ai (cy 0) (mo 8) 4 LD, ai (cy 0) (mo 9) 10 CQ] H → va_D A [oM mo n1 n2 c1 b1 a1 p1, ai (cy 0) (mo 1) 98 (stF lt mn pt tk mr od rm cd), ai (cy 0) (mo 4) 24 RV, ai (cy 0) (mo 5) 24 SW, ai (cy 0) (mo 6) 24 GT, ai (cy 0) (mo 7) 24 SA, ai (cy 0) (mo 8) 4 LD, ai (cy 0) (mo 9) 10 CQ] → va_S A s.heap H locs → ∀ (ls : Array Slot), lv_has ls 2 [(0, .ref (mo 0)), (1, .int (iI k))] → W p l e rm_X6_fewest s m args below meth c H locs 0 0 Q (F0 m 2 ls []) := by
    intro fu
    induction fu with
    | zero =>
      intro k n1 n2 c1 b1 a1 p1 RV SW GT SA LD CQ h1 h2 hm
      exact absurd hm (Nat.not_lt_zero _)
    | succ fu ih_2 =>
      intro k n1 n2 c1 b1 a1 p1 RV SW GT SA LD CQ h1 h2 hm H locs hP hD hS ls hl
      refine lv_iload_n hx hb dX6_fewest_2 rfl (lv_at hl 1 rfl) ?_
      refine r_const hx hb dX6_fewest_3 ?_
      refine r_gt hx hb 33 dX6_fewest_4 (by decide) ⟨by omega, by omega⟩ ⟨by omega, by omega⟩ (fun c_4 => ?_) (fun c_4 => ?_)
      ·
        refine r_bip hx hb (-6) dX6_fewest_33 (by decide) ?_
        exact hret [0, 1, 2, 3, 4, 5, 6, 7] (n1, n2, c1, b1, a1, p1, RV, SW, GT, SA, LD, CQ) dX6_fewest_35 hP hD hS (by decide) rfl (Or.inr ⟨rfl, fun j q1 q2 => h2 j q1 (by omega)⟩)
      ·
        refine lv_aload_n hx hb dX6_fewest_7 rfl (lv_at hl 0 rfl) ?_
        refine lv_iload_n hx hb dX6_fewest_8 rfl (lv_at hl 1 rfl) ?_
        have M_9 := k_X6_power l D cy mo H.size n1 n2 c1 b1 a1 p1 lt mn pt tk mr od pl rm cd k (by omega)
        refine kV_i (wr := [ai (cy 0) (mo 4) 24 RV, ai (cy 0) (mo 5) 24 SW, ai (cy 0) (mo 6) 24 GT, ai (cy 0) (mo 7) 24 SA, ai (cy 0) (mo 8) 4 LD, ai (cy 0) (mo 9) 10 CQ]) (As := [.int (iI k)]) (rest := []) (q := (RX6, TX6, 16)) (ci := 6) ⟨hx, hb, hml, hown, hts⟩ M_9 0 rfl rfl (cwV 1 hts gX6_fewest_X6_power rfl rfl rfl (by decide +kernel) ⟨Nat.le_of_ble_eq_true rfl, Nat.le_of_ble_eq_true rfl⟩) hN hK hP hD hS hA [0, 1] [2, 3, 4, 5, 6, 7] rfl rfl (by decide) (by decide) (by decide) rfl hl.1 rfl (Nat.le_of_ble_eq_true rfl) dX6_fewest_9 ⟨Nat.le_of_ble_eq_true rfl, Nat.le_of_ble_eq_true rfl⟩ (fun r_9 u_9 H locs hw_9 hP hD hS => ?_)
        replace hP : va_P D vwCl [ai (cy 0) (mo 4) 24 RV, ai (cy 0) (mo 5) 24 SW, ai (cy 0) (mo 6) 24 GT, ai (cy 0) (mo 7) 24 SA, ai (cy 0) (mo 8) 4 LD, ai (cy 0) (mo 9) 10 CQ, oM mo n1 n2 c1 b1 a1 p1, ai (cy 0) (mo 1) 98 (stF lt mn pt tk mr od rm cd)] H := hP
        replace hD : va_D A [ai (cy 0) (mo 4) 24 RV, ai (cy 0) (mo 5) 24 SW, ai (cy 0) (mo 6) 24 GT, ai (cy 0) (mo 7) 24 SA, ai (cy 0) (mo 8) 4 LD, ai (cy 0) (mo 9) 10 CQ, oM mo n1 n2 c1 b1 a1 p1, ai (cy 0) (mo 1) 98 (stF lt mn pt tk mr od rm cd)] := hD
        have hpb := pw_b hmn0 hmn1 (n := k.toNat) (by omega)
        refine r_bip hx hb (16) dX6_fewest_12 (by decide) ?_
        refine r_gt hx hb 27 dX6_fewest_14 (by decide) ⟨by omega, by omega⟩ ⟨by omega, by omega⟩ (fun c_14 => ?_) (fun c_14 => ?_)
        ·
          refine r_inc (k := 1) (lv' := [(1, .int (iI (k + 1))), (0, .ref (mo 0))]) hx hb dX6_fewest_27 hl rfl (by decide) rfl (fun ls hl => ?_)
          refine lv_goto (tgt := 2) hx hb dX6_fewest_30 (by decide) ?_
          exact ih_2 (k + 1) n1 n2 c1 b1 a1 p1 RV SW GT SA LD CQ (by omega) (fun j q1 q2 z => by by_cases e : j = k; (subst e; have := z.1; omega); (exact h2 j q1 (by omega) z)) (by omega) H locs (pick_P hP (is := [6, 7, 0, 1, 2, 3, 4, 5]) rfl) (hD.sub [6, 7, 0, 1, 2, 3, 4, 5] (by decide) rfl) hS ls (lv_sub hl [1, 0] rfl)
        ·
          refine lv_aload_n hx hb dX6_fewest_17 rfl (lv_at hl 0 rfl) ?_
          refine lv_iload_n hx hb dX6_fewest_18 rfl (lv_at hl 1 rfl) ?_
          have M_19 := k_X6_isClean l D cy mo H.size n1 n2 c1 b1 a1 p1 lt mn pt tk mr od pl rm cd RV SW GT SA LD CQ k (hI) (by omega) (by omega)
          refine kV_i (wr := []) (As := [.int (iI k)]) (rest := []) (q := (RX6, TX6, 16)) (ci := 6) ⟨hx, hb, hml, hown, hts⟩ M_19 6 rfl rfl (cwV 1 hts gX6_fewest_X6_isClean rfl rfl rfl (by decide +kernel) ⟨Nat.le_of_ble_eq_true rfl, Nat.le_of_ble_eq_true rfl⟩) hN hK hP hD hS hA [6, 7, 0, 1, 2, 3, 4, 5] [] rfl rfl (by decide) (by decide) (by decide) rfl hl.1 rfl (Nat.le_of_ble_eq_true rfl) dX6_fewest_19 ⟨Nat.le_of_ble_eq_true rfl, Nat.le_of_ble_eq_true rfl⟩ (fun r_19 u_19 H locs hw_19 hP hD hS => ?_)
          obtain ⟨v_1, v_2, v_3, v_4, v_5, v_6, v_7, v_8, v_9, v_10, v_11, v_12⟩ := u_19
          try dsimp only at hw_19
          replace hP : va_P D vwCl [oM mo v_1 v_2 v_3 v_4 v_5 v_6, ai (cy 0) (mo 1) 98 (stF lt mn pt tk mr od rm cd), ai (cy 0) (mo 4) 24 v_7, ai (cy 0) (mo 5) 24 v_8, ai (cy 0) (mo 6) 24 v_9, ai (cy 0) (mo 7) 24 v_10, ai (cy 0) (mo 8) 4 v_11, ai (cy 0) (mo 9) 10 v_12] H := hP
          replace hD : va_D A [oM mo v_1 v_2 v_3 v_4 v_5 v_6, ai (cy 0) (mo 1) 98 (stF lt mn pt tk mr od rm cd), ai (cy 0) (mo 4) 24 v_7, ai (cy 0) (mo 5) 24 v_8, ai (cy 0) (mo 6) 24 v_9, ai (cy 0) (mo 7) 24 v_10, ai (cy 0) (mo 8) 4 v_11, ai (cy 0) (mo 9) 10 v_12] := hD
          refine r_eq0 hx hb 27 dX6_fewest_22 (by decide) ⟨by omega, by omega⟩ (fun c_22 => ?_) (fun c_22 => ?_)
          ·
            refine r_inc (k := 1) (lv' := [(1, .int (iI (k + 1))), (0, .ref (mo 0))]) hx hb dX6_fewest_27 hl rfl (by decide) rfl (fun ls hl => ?_)
            refine lv_goto (tgt := 2) hx hb dX6_fewest_30 (by decide) ?_
            exact ih_2 (k + 1) v_1 v_2 v_3 v_4 v_5 v_6 v_7 v_8 v_9 v_10 v_11 v_12 (by omega) (fun j q1 q2 z => by by_cases e : j = k; (subst e; rcases hw_19 with ⟨w1, -⟩ | ⟨-, w2⟩; (exact absurd w1 (by omega)); (exact w2 z.2)); (exact h2 j q1 (by omega) z)) (by omega) H locs (pick_P hP (is := [0, 1, 2, 3, 4, 5, 6, 7]) rfl) (hD.sub [0, 1, 2, 3, 4, 5, 6, 7] (by decide) rfl) hS ls (lv_sub hl [1, 0] rfl)
          ·
            refine lv_iload_n hx hb dX6_fewest_25 rfl (lv_at hl 1 rfl) ?_
            exact hret [0, 1, 2, 3, 4, 5, 6, 7] (v_1, v_2, v_3, v_4, v_5, v_6, v_7, v_8, v_9, v_10, v_11, v_12) dX6_fewest_26 hP hD hS (by decide) rfl (Or.inl ⟨by omega, ⟨by omega, by rcases hw_19 with ⟨-, w⟩ | ⟨w, -⟩; (exact w); (exact absurd w (by omega))⟩, h2⟩)
  exact lp_2 _ 1 rn sn co bp ag pn rv sw gt sa ld cq (by omega) (fun j q1 q2 => by omega) (Nat.lt_succ_self _) H locs (pick_P hP (is := [0, 1, 2, 3, 4, 5, 6, 7]) rfl) (hD.sub [0, 1, 2, 3, 4, 5, 6, 7] (by decide) rfl) hS ls (lv_sub hl [1, 0] rfl)
abbrev rm_X6_needs : Room := { frames := 7, cells := 0, slots := 0, locals := 159 }
theorem fl_X6_needs_7 : Cond.fieldLink RX6 7 "WalkPassesModel" "state" "[I" ∈ wsX6_needs := by decide +kernel
theorem fl_X6_needs_38 : Cond.fieldLink RX6 38 "WalkPassesModel" "rooms" "[I" ∈ wsX6_needs := by decide +kernel
theorem iw_X6_needs_6 : ∀ w ∈ u_ws RX6 TX6 16, w ∈ wsX6_needs := by decide +kernel
set_option maxHeartbeats 4000000 in
set_option maxRecDepth 100000 in
theorem k_X6_needs (l : Launch) (D : va_G) (cy : Nat → ClassId) (mo : Nat → Nat) (z : Nat) (rn sn co bp ag pn : Int) (lt mn : Int) (pt tk mr od pl rm cd : Int → Int) (rv sw gt sa ld : Int → Int) (cq rq : Int → Int) (k : Int) (hI : DI lt mn pt tk mr od pl rm cd) (hk9 : inR k) : CtI l yX6_needs wsX6_needs rm_X6_needs D (tyL cy) [.ref (mo 0), .int (iI k)] [oM mo rn sn co bp ag pn, ai (cy 0) (mo 1) 98 (stF lt mn pt tk mr od rm cd), ai (cy 0) (mo 4) 24 rv, ai (cy 0) (mo 5) 24 sw, ai (cy 0) (mo 6) 24 gt, ai (cy 0) (mo 7) 24 sa, ai (cy 0) (mo 8) 4 ld, ai (cy 0) (mo 9) 10 cq, ai (cy 0) (mo 10) 4 rq] z (fun (r : Int) (u : Int × Int × Int × Int × Int × Int × (Int → Int) × (Int → Int) × (Int → Int) × (Int → Int) × (Int → Int) × (Int → Int) × (Int → Int) × Int) => ((k < 1 ∨ 3 < k) ∧ r = -2) ∨ ((1 ≤ k ∧ k ≤ 3) ∧ 16 < pw mn k.toNat ∧ r = -5) ∨ (((1 ≤ k ∧ k ≤ 3) ∧ pw mn k.toNat ≤ 16) ∧ (1 ≤ u.2.2.2.2.2.2.2.2.2.2.2.2.2 ∧ u.2.2.2.2.2.2.2.2.2.2.2.2.2 ≤ 100) ∧ (u.2.2.2.2.2.2.2.2.2.2.2.2.2 = 100 ∨ clM lt mn pt tk mr od (fun _ => u.2.2.2.2.2.2.2.2.2.2.2.2.2) k) ∧ (u.2.2.2.2.2.2.2.2.2.2.2.2.2 = 1 ∨ ¬ clM lt mn pt tk mr od (fun _ => u.2.2.2.2.2.2.2.2.2.2.2.2.2 - 1) k) ∧ ((u.2.2.2.2.2.2.2.2.2.2.2.2.2 < 100 ∧ r = u.2.2.2.2.2.2.2.2.2.2.2.2.2) ∨ (u.2.2.2.2.2.2.2.2.2.2.2.2.2 = 100 ∧ r = -6)))) (fun (u : Int × Int × Int × Int × Int × Int × (Int → Int) × (Int → Int) × (Int → Int) × (Int → Int) × (Int → Int) × (Int → Int) × (Int → Int) × Int) => [oM mo u.1 u.2.1 u.2.2.1 u.2.2.2.1 u.2.2.2.2.1 u.2.2.2.2.2.1, ai (cy 0) (mo 1) 98 (stF lt mn pt tk mr od rm cd), ai (cy 0) (mo 4) 24 u.2.2.2.2.2.2.1, ai (cy 0) (mo 5) 24 u.2.2.2.2.2.2.2.1, ai (cy 0) (mo 6) 24 u.2.2.2.2.2.2.2.2.1, ai (cy 0) (mo 7) 24 u.2.2.2.2.2.2.2.2.2.1, ai (cy 0) (mo 8) 4 u.2.2.2.2.2.2.2.2.2.2.1, ai (cy 0) (mo 9) 10 u.2.2.2.2.2.2.2.2.2.2.2.1, ai (cy 0) (mo 10) 4 u.2.2.2.2.2.2.2.2.2.2.2.2.1]) 0 0 := by
  refine ct_i (cc := cX6_needs) (maxL := 5) (by decide) rfl (Nat.le_of_ble_eq_true rfl) ?_
  intro p e s m args below meth c A Q H locs ls hx hb hml hown hin hts hK hN hP hD hS hA hl hret
  replace hl : lv_has ls 5 [(0, .ref (mo 0)), (1, .int (iI k))] := hl
  replace hown : s.vm.findClass RX6 = some m.cls := hown
  obtain ⟨⟨⟨hlt0, hlt1⟩, hmn0, hmn1⟩, ⟨hpt, htk, hmr⟩, ⟨hod, hpl, hpo, hop⟩, hrm, hcd⟩ := id hI
  refine lv_iload_n hx hb dX6_needs_0 rfl (lv_at hl 1 rfl) ?_
  have M_1 := k_X6_isRun l D cy  H.size k (hk9)
  refine kS_i (wr := [oM mo rn sn co bp ag pn, ai (cy 0) (mo 1) 98 (stF lt mn pt tk mr od rm cd), ai (cy 0) (mo 4) 24 rv, ai (cy 0) (mo 5) 24 sw, ai (cy 0) (mo 6) 24 gt, ai (cy 0) (mo 7) 24 sa, ai (cy 0) (mo 8) 4 ld, ai (cy 0) (mo 9) 10 cq, ai (cy 0) (mo 10) 4 rq]) (As := [.int (iI k)]) (rest := []) ⟨hx, hb, hml, hown, hts⟩ M_1 (va_cwS 1 hts gX6_needs_X6_isRun rfl rfl rfl (by decide +kernel) ⟨Nat.le_of_ble_eq_true rfl, Nat.le_of_ble_eq_true rfl⟩) hN hK hP hD hS hA [] [0, 1, 2, 3, 4, 5, 6, 7, 8] rfl rfl (by decide) (by decide) (by decide) rfl hl.1 rfl (Nat.le_of_ble_eq_true rfl) dX6_needs_1 ⟨Nat.le_of_ble_eq_true rfl, Nat.le_of_ble_eq_true rfl⟩ (fun r_1 u_1 H locs hw_1 hP hD hS => ?_)
  replace hP : va_P D vwCl [oM mo rn sn co bp ag pn, ai (cy 0) (mo 1) 98 (stF lt mn pt tk mr od rm cd), ai (cy 0) (mo 4) 24 rv, ai (cy 0) (mo 5) 24 sw, ai (cy 0) (mo 6) 24 gt, ai (cy 0) (mo 7) 24 sa, ai (cy 0) (mo 8) 4 ld, ai (cy 0) (mo 9) 10 cq, ai (cy 0) (mo 10) 4 rq] H := hP
  replace hD : va_D A [oM mo rn sn co bp ag pn, ai (cy 0) (mo 1) 98 (stF lt mn pt tk mr od rm cd), ai (cy 0) (mo 4) 24 rv, ai (cy 0) (mo 5) 24 sw, ai (cy 0) (mo 6) 24 gt, ai (cy 0) (mo 7) 24 sa, ai (cy 0) (mo 8) 4 ld, ai (cy 0) (mo 9) 10 cq, ai (cy 0) (mo 10) 4 rq] := hD
  refine r_ne0 hx hb 10 dX6_needs_4 (by decide) ⟨by omega, by omega⟩ (fun c_4 => ?_) (fun c_4 => ?_)
  ·
    refine lv_aload_n hx hb dX6_needs_10 rfl (lv_at hl 0 rfl) ?_
    refine lv_iload_n hx hb dX6_needs_11 rfl (lv_at hl 1 rfl) ?_
    have M_12 := k_X6_power l D cy mo H.size rn sn co bp ag pn lt mn pt tk mr od pl rm cd k (by omega)
    refine kV_i (wr := [ai (cy 0) (mo 4) 24 rv, ai (cy 0) (mo 5) 24 sw, ai (cy 0) (mo 6) 24 gt, ai (cy 0) (mo 7) 24 sa, ai (cy 0) (mo 8) 4 ld, ai (cy 0) (mo 9) 10 cq, ai (cy 0) (mo 10) 4 rq]) (As := [.int (iI k)]) (rest := []) (q := (RX6, TX6, 16)) (ci := 6) ⟨hx, hb, hml, hown, hts⟩ M_12 0 rfl rfl (cwV 1 hts gX6_needs_X6_power rfl rfl rfl (by decide +kernel) ⟨Nat.le_of_ble_eq_true rfl, Nat.le_of_ble_eq_true rfl⟩) hN hK hP hD hS hA [0, 1] [2, 3, 4, 5, 6, 7, 8] rfl rfl (by decide) (by decide) (by decide) rfl hl.1 rfl (Nat.le_of_ble_eq_true rfl) dX6_needs_12 ⟨Nat.le_of_ble_eq_true rfl, Nat.le_of_ble_eq_true rfl⟩ (fun r_12 u_12 H locs hw_12 hP hD hS => ?_)
    replace hP : va_P D vwCl [ai (cy 0) (mo 4) 24 rv, ai (cy 0) (mo 5) 24 sw, ai (cy 0) (mo 6) 24 gt, ai (cy 0) (mo 7) 24 sa, ai (cy 0) (mo 8) 4 ld, ai (cy 0) (mo 9) 10 cq, ai (cy 0) (mo 10) 4 rq, oM mo rn sn co bp ag pn, ai (cy 0) (mo 1) 98 (stF lt mn pt tk mr od rm cd)] H := hP
    replace hD : va_D A [ai (cy 0) (mo 4) 24 rv, ai (cy 0) (mo 5) 24 sw, ai (cy 0) (mo 6) 24 gt, ai (cy 0) (mo 7) 24 sa, ai (cy 0) (mo 8) 4 ld, ai (cy 0) (mo 9) 10 cq, ai (cy 0) (mo 10) 4 rq, oM mo rn sn co bp ag pn, ai (cy 0) (mo 1) 98 (stF lt mn pt tk mr od rm cd)] := hD
    have hpb := pw_b hmn0 hmn1 (n := k.toNat) (by omega)
    refine r_bip hx hb (16) dX6_needs_15 (by decide) ?_
    refine r_le hx hb 23 dX6_needs_17 (by decide) ⟨by omega, by omega⟩ ⟨by omega, by omega⟩ (fun c_17 => ?_) (fun c_17 => ?_)
    ·
      refine r_const hx hb dX6_needs_23 ?_
      refine lv_istore_n (lv' := [(2, .int (iI 0)), (0, .ref (mo 0)), (1, .int (iI k))]) hx hb dX6_needs_24 rfl hl (by decide) rfl (fun ls hl => ?_)
      have lp_25 : ∀ (fu : Nat) (i : Int) (B : Int → Int), (0 ≤ i ∧ i ≤ 4) → (∀ t, 0 ≤ t → t < i → B t = rm t) → (4 - i).toNat < fu → ∀ (H : Heap) (locs : List Loc), va_P D vwCl [ai (cy 0) (mo 4) 24 rv, ai (cy 0) (mo 5) 24 sw, ai (cy 0) (mo 6) 24 gt, ai (cy 0) (mo 7) 24 sa, ai (cy 0) (mo 8) 4 ld, ai (cy 0) (mo 9) 10 cq, ai (cy 0) (mo 10) 4 B, oM mo rn sn co bp ag pn, ai (cy 0) (mo 1) 98 (stF lt mn pt tk mr od rm cd)] H → va_D A [ai (cy 0) (mo 4) 24 rv, ai (cy 0) (mo 5) 24 sw, ai (cy 0) (mo 6) 24 gt, ai (cy 0) (mo 7) 24 sa, ai (cy 0) (mo 8) 4 ld, ai (cy 0) (mo 9) 10 cq, ai (cy 0) (mo 10) 4 B, oM mo rn sn co bp ag pn, ai (cy 0) (mo 1) 98 (stF lt mn pt tk mr od rm cd)] → va_S A s.heap H locs → ∀ (ls : Array Slot), lv_has ls 5 [(0, .ref (mo 0)), (1, .int (iI k)), (2, .int (iI i))] → W p l e rm_X6_needs s m args below meth c H locs 0 0 Q (F0 m 25 ls []) := by
        intro fu
        induction fu with
        | zero =>
          intro i B h1 h2 hm
          exact absurd hm (Nat.not_lt_zero _)
        | succ fu ih_25 =>
          intro i B h1 h2 hm H locs hP hD hS ls hl
          refine lv_iload_n hx hb dX6_needs_25 rfl (lv_at hl 2 rfl) ?_
          refine r_const hx hb dX6_needs_26 ?_
          refine r_ge hx hb 51 dX6_needs_27 (by decide) ⟨by omega, by omega⟩ ⟨by omega, by omega⟩ (fun c_27 => ?_) (fun c_27 => ?_)
          ·
            refine r_const hx hb dX6_needs_51 ?_
            refine lv_istore_n (lv' := [(2, .int (iI 0)), (0, .ref (mo 0)), (1, .int (iI k))]) hx hb dX6_needs_52 rfl hl (by decide) rfl (fun ls hl => ?_)
            refine r_bip hx hb (100) dX6_needs_53 (by decide) ?_
            refine lv_istore_n (lv' := [(3, .int (iI 100)), (2, .int (iI 0)), (0, .ref (mo 0)), (1, .int (iI k))]) hx hb dX6_needs_55 rfl hl (by decide) rfl (fun ls hl => ?_)
            have lp_56 : ∀ (fu : Nat) (ba : Int) (go : Int) (R9 : Int → Int) (n1 : Int) (n2 : Int) (c1 : Int) (b1 : Int) (a1 : Int) (p1 : Int) (RV : Int → Int) (SW : Int → Int) (GT : Int → Int) (SA : Int → Int) (LD : Int → Int) (CQ : Int → Int), (0 ≤ ba ∧ ba < go ∧ go ≤ 100) → (go = 100 ∨ clM lt mn pt tk mr od (fun _ => go) k) → (ba = 0 ∨ ¬ clM lt mn pt tk mr od (fun _ => ba) k) → (go - ba).toNat < fu → ∀ (H : Heap) (locs : List Loc), va_P D vwCl [ai (cy 0) (mo 4) 24 RV, ai (cy 0) (mo 5) 24 SW, ai (cy 0) (mo 6) 24 GT, ai (cy 0) (mo 7) 24 SA, ai (cy 0) (mo 8) 4 LD, ai (cy 0) (mo 9) 10 CQ, ai (cy 0) (mo 10) 4 B, oM mo n1 n2 c1 b1 a1 p1, ai (cy 0) (mo 1) 98 (stF lt mn pt tk mr od R9 cd)] H → va_D A [ai (cy 0) (mo 4) 24 RV, ai (cy 0) (mo 5) 24 SW, ai (cy 0) (mo 6) 24 GT, ai (cy 0) (mo 7) 24 SA, ai (cy 0) (mo 8) 4 LD, ai (cy 0) (mo 9) 10 CQ, ai (cy 0) (mo 10) 4 B, oM mo n1 n2 c1 b1 a1 p1, ai (cy 0) (mo 1) 98 (stF lt mn pt tk mr od R9 cd)] → va_S A s.heap H locs → ∀ (ls : Array Slot), lv_has ls 5 [(0, .ref (mo 0)), (1, .int (iI k)), (2, .int (iI ba)), (3, .int (iI go))] → W p l e rm_X6_needs s m args below meth c H locs 0 0 Q (F0 m 56 ls []) := by
              intro fu
              induction fu with
              | zero =>
                intro ba go R9 n1 n2 c1 b1 a1 p1 RV SW GT SA LD CQ g1 g2 g3 hm
                exact absurd hm (Nat.not_lt_zero _)
              | succ fu ih_56 =>
                intro ba go R9 n1 n2 c1 b1 a1 p1 RV SW GT SA LD CQ g1 g2 g3 hm H locs hP hD hS ls hl
                refine lv_iload_n hx hb dX6_needs_56 rfl (lv_at hl 3 rfl) ?_
                refine lv_iload_n hx hb dX6_needs_57 rfl (lv_at hl 2 rfl) ?_
                refine r_sub hx hb dX6_needs_58 ?_
                refine r_const hx hb dX6_needs_59 ?_
                refine r_le hx hb 96 dX6_needs_60 (by decide) ⟨by omega, by omega⟩ ⟨by omega, by omega⟩ (fun c_60 => ?_) (fun c_60 => ?_)
                ·
                  refine r_const hx hb dX6_needs_96 ?_
                  refine lv_istore (lv' := [(4, .int (iI 0)), (0, .ref (mo 0)), (1, .int (iI k)), (2, .int (iI ba)), (3, .int (iI go))]) hx hb dX6_needs_97 hl (by decide) rfl (fun ls hl => ?_)
                  have lp_99 : ∀ (fu : Nat) (i2 : Int) (R8 : Int → Int), (0 ≤ i2 ∧ i2 ≤ 4) → (∀ t, 0 ≤ t → t < i2 → R8 t = rm t) → (4 - i2).toNat < fu → ∀ (H : Heap) (locs : List Loc), va_P D vwCl [ai (cy 0) (mo 4) 24 RV, ai (cy 0) (mo 5) 24 SW, ai (cy 0) (mo 6) 24 GT, ai (cy 0) (mo 7) 24 SA, ai (cy 0) (mo 8) 4 LD, ai (cy 0) (mo 9) 10 CQ, ai (cy 0) (mo 10) 4 B, oM mo n1 n2 c1 b1 a1 p1, ai (cy 0) (mo 1) 98 (stF lt mn pt tk mr od R8 cd)] H → va_D A [ai (cy 0) (mo 4) 24 RV, ai (cy 0) (mo 5) 24 SW, ai (cy 0) (mo 6) 24 GT, ai (cy 0) (mo 7) 24 SA, ai (cy 0) (mo 8) 4 LD, ai (cy 0) (mo 9) 10 CQ, ai (cy 0) (mo 10) 4 B, oM mo n1 n2 c1 b1 a1 p1, ai (cy 0) (mo 1) 98 (stF lt mn pt tk mr od R8 cd)] → va_S A s.heap H locs → ∀ (ls : Array Slot), lv_has ls 5 [(0, .ref (mo 0)), (1, .int (iI k)), (2, .int (iI ba)), (3, .int (iI go)), (4, .int (iI i2))] → W p l e rm_X6_needs s m args below meth c H locs 0 0 Q (F0 m 99 ls []) := by
                    intro fu
                    induction fu with
                    | zero =>
                      intro i2 R8 k1 k2 hm
                      exact absurd hm (Nat.not_lt_zero _)
                    | succ fu ih_99 =>
                      intro i2 R8 k1 k2 hm H locs hP hD hS ls hl
                      refine lv_iload hx hb dX6_needs_99 (lv_at hl 4 rfl) ?_
                      refine r_const hx hb dX6_needs_101 ?_
                      refine r_ge hx hb 128 dX6_needs_102 (by decide) ⟨by omega, by omega⟩ ⟨by omega, by omega⟩ (fun c_102 => ?_) (fun c_102 => ?_)
                      ·
                        refine lv_iload_n hx hb dX6_needs_128 rfl (lv_at hl 3 rfl) ?_
                        refine r_bip hx hb (100) dX6_needs_129 (by decide) ?_
                        refine r_ge hx hb 138 dX6_needs_131 (by decide) ⟨by omega, by omega⟩ ⟨by omega, by omega⟩ (fun c_131 => ?_) (fun c_131 => ?_)
                        ·
                          refine r_bip hx hb (-6) dX6_needs_138 (by decide) ?_
                          replace hP := reF (q := 8) (stF lt mn pt tk mr od rm cd) hP rfl (stF_same (fun q q1 q2 => k2 q q1 (by omega)) (fun _ _ _ => rfl))
                          replace hD := reD (q := 8) (stF lt mn pt tk mr od rm cd) hD rfl
                          exact hret [7, 8, 0, 1, 2, 3, 4, 5, 6] (n1, n2, c1, b1, a1, p1, RV, SW, GT, SA, LD, CQ, B, go) dX6_needs_140 hP hD hS (by decide) rfl (by dsimp only; refine Or.inr (Or.inr ⟨⟨by omega, by omega⟩, by omega, g2, ?_, by omega⟩); rcases g3 with z | z; (exact Or.inl (by show go = 1; omega)); (exact Or.inr (by show ¬ clM lt mn pt tk mr od (fun _ => go - 1) k; rw [show go - 1 = ba by omega]; exact z)))
                        ·
                          refine lv_iload_n hx hb dX6_needs_134 rfl (lv_at hl 3 rfl) ?_
                          refine lv_goto (tgt := 140) hx hb dX6_needs_135 (by decide) ?_
                          replace hP := reF (q := 8) (stF lt mn pt tk mr od rm cd) hP rfl (stF_same (fun q q1 q2 => k2 q q1 (by omega)) (fun _ _ _ => rfl))
                          replace hD := reD (q := 8) (stF lt mn pt tk mr od rm cd) hD rfl
                          exact hret [7, 8, 0, 1, 2, 3, 4, 5, 6] (n1, n2, c1, b1, a1, p1, RV, SW, GT, SA, LD, CQ, B, go) dX6_needs_140 hP hD hS (by decide) rfl (by dsimp only; refine Or.inr (Or.inr ⟨⟨by omega, by omega⟩, by omega, g2, ?_, by omega⟩); rcases g3 with z | z; (exact Or.inl (by show go = 1; omega)); (exact Or.inr (by show ¬ clM lt mn pt tk mr od (fun _ => go - 1) k; rw [show go - 1 = ba by omega]; exact z)))
                      ·
                        refine lv_aload_n hx hb dX6_needs_105 rfl (lv_at hl 0 rfl) ?_
                        refine va_get (D := D) (C := RX6) (T := TX6) (N := 16) (ci := 6) (v := .ref (mo 1)) hx hb hts iw_X6_needs_6 hown hK hP 7 rfl rfl 0 (by decide) (hts _ fl_X6_needs_7) (fun _ h9 => h9) rfl dX6_needs_106 ?_
                        refine r_bip hx hb (20) dX6_needs_109 (by decide) ?_
                        refine lv_iload hx hb dX6_needs_111 (lv_at hl 4 rfl) ?_
                        refine r_add hx hb dX6_needs_113 ?_
                        refine lv_aload_n hx hb dX6_needs_114 rfl (lv_at hl 0 rfl) ?_
                        refine va_get (D := D) (C := RX6) (T := TX6) (N := 16) (ci := 6) (v := .ref (mo 10)) hx hb hts iw_X6_needs_6 hown hK hP 7 rfl rfl 15 (by decide) (hts _ fl_X6_needs_38) (fun _ h9 => h9) rfl dX6_needs_115 ?_
                        refine lv_iload hx hb dX6_needs_118 (lv_at hl 4 rfl) ?_
                        refine r_ald hx hb hK hP 6 rfl rfl ⟨by omega, by omega, by omega⟩ dX6_needs_120 ?_
                        refine r_ast hx hb hK hP hD hS 8 rfl rfl ⟨by omega, by omega, by omega⟩ dX6_needs_121 (fun H locs hP hD hS => ?_)
                        rw [show ud (stF lt mn pt tk mr od R8 cd) (20 + i2) (B i2) = stF lt mn pt tk mr od (ud R8 i2 (B i2)) cd from stU_rm (by omega) (by omega) (by omega)] at hP hD
                        replace hP : va_P D vwCl [ai (cy 0) (mo 4) 24 RV, ai (cy 0) (mo 5) 24 SW, ai (cy 0) (mo 6) 24 GT, ai (cy 0) (mo 7) 24 SA, ai (cy 0) (mo 8) 4 LD, ai (cy 0) (mo 9) 10 CQ, ai (cy 0) (mo 10) 4 B, oM mo n1 n2 c1 b1 a1 p1, ai (cy 0) (mo 1) 98 (stF lt mn pt tk mr od (ud R8 i2 (B i2)) cd)] H := hP
                        replace hD : va_D A [ai (cy 0) (mo 4) 24 RV, ai (cy 0) (mo 5) 24 SW, ai (cy 0) (mo 6) 24 GT, ai (cy 0) (mo 7) 24 SA, ai (cy 0) (mo 8) 4 LD, ai (cy 0) (mo 9) 10 CQ, ai (cy 0) (mo 10) 4 B, oM mo n1 n2 c1 b1 a1 p1, ai (cy 0) (mo 1) 98 (stF lt mn pt tk mr od (ud R8 i2 (B i2)) cd)] := hD
                        refine r_inc (k := 4) (lv' := [(4, .int (iI (i2 + 1))), (0, .ref (mo 0)), (1, .int (iI k)), (2, .int (iI ba)), (3, .int (iI go))]) hx hb dX6_needs_122 hl rfl (by decide) rfl (fun ls hl => ?_)
                        refine lv_goto (tgt := 99) hx hb dX6_needs_125 (by decide) ?_
                        exact ih_99 (i2 + 1) (ud R8 i2 (B i2)) (by omega) (fun s q1 q2 => by by_cases e : s = i2; (subst e; rw [ud_at]; exact h2 _ q1 (by omega)); (rw [ud_ne e]; exact k2 s q1 (by omega))) (by omega) H locs (pick_P hP (is := [0, 1, 2, 3, 4, 5, 6, 7, 8]) rfl) (hD.sub [0, 1, 2, 3, 4, 5, 6, 7, 8] (by decide) rfl) hS ls (lv_sub hl [1, 2, 3, 4, 0] rfl)
                  exact lp_99 _ 0 R9 (by omega) (fun t q1 q2 => by omega) (Nat.lt_succ_self _) H locs (pick_P hP (is := [0, 1, 2, 3, 4, 5, 6, 7, 8]) rfl) (hD.sub [0, 1, 2, 3, 4, 5, 6, 7, 8] (by decide) rfl) hS ls (lv_sub hl [1, 2, 3, 4, 0] rfl)
                ·
                  refine lv_iload_n hx hb dX6_needs_63 rfl (lv_at hl 3 rfl) ?_
                  refine lv_iload_n hx hb dX6_needs_64 rfl (lv_at hl 2 rfl) ?_
                  refine r_add hx hb dX6_needs_65 ?_
                  refine r_const hx hb dX6_needs_66 ?_
                  refine r_div hx hb dX6_needs_67 ⟨⟨by omega, by omega⟩, by omega, by omega⟩ ?_
                  obtain ⟨md, hmd⟩ : ∃ z : Int, z = (go + ba) / 2 := ⟨_, rfl⟩
                  refine lv_istore (lv' := [(4, .int (iI ((go + ba) / 2))), (0, .ref (mo 0)), (1, .int (iI k)), (2, .int (iI ba)), (3, .int (iI go))]) hx hb dX6_needs_68 hl (by decide) rfl (fun ls hl => ?_)
                  refine lv_aload_n hx hb dX6_needs_70 rfl (lv_at hl 1 rfl) ?_
                  refine lv_iload hx hb dX6_needs_71 (lv_at hl 0 rfl) ?_
                  have M_73 := k_X6_setRooms l D cy mo H.size n1 n2 c1 b1 a1 p1 lt mn pt tk mr od pl R9 cd ((go + ba) / 2) 
                  refine kV_v (wr := [ai (cy 0) (mo 4) 24 RV, ai (cy 0) (mo 5) 24 SW, ai (cy 0) (mo 6) 24 GT, ai (cy 0) (mo 7) 24 SA, ai (cy 0) (mo 8) 4 LD, ai (cy 0) (mo 9) 10 CQ, ai (cy 0) (mo 10) 4 B]) (As := [.int (iI ((go + ba) / 2))]) (rest := []) (q := (RX6, TX6, 16)) (ci := 6) ⟨hx, hb, hml, hown, hts⟩ M_73 7 rfl rfl (cwV 1 hts gX6_needs_X6_setRooms rfl rfl rfl (by decide +kernel) ⟨Nat.le_of_ble_eq_true rfl, Nat.le_of_ble_eq_true rfl⟩) hN hK hP hD hS hA [7, 8] [0, 1, 2, 3, 4, 5, 6] rfl rfl (by decide) (by decide) (by decide) rfl hl.1 rfl (Nat.le_of_ble_eq_true rfl) dX6_needs_73 ⟨Nat.le_of_ble_eq_true rfl, Nat.le_of_ble_eq_true rfl⟩ (fun u_73 H locs hw_73 hP hD hS => ?_)
                  replace hP : va_P D vwCl [ai (cy 0) (mo 4) 24 RV, ai (cy 0) (mo 5) 24 SW, ai (cy 0) (mo 6) 24 GT, ai (cy 0) (mo 7) 24 SA, ai (cy 0) (mo 8) 4 LD, ai (cy 0) (mo 9) 10 CQ, ai (cy 0) (mo 10) 4 B, oM mo n1 n2 c1 b1 a1 p1, ai (cy 0) (mo 1) 98 (stF lt mn pt tk mr od (fun _ => ((go + ba) / 2)) cd)] H := hP
                  replace hD : va_D A [ai (cy 0) (mo 4) 24 RV, ai (cy 0) (mo 5) 24 SW, ai (cy 0) (mo 6) 24 GT, ai (cy 0) (mo 7) 24 SA, ai (cy 0) (mo 8) 4 LD, ai (cy 0) (mo 9) 10 CQ, ai (cy 0) (mo 10) 4 B, oM mo n1 n2 c1 b1 a1 p1, ai (cy 0) (mo 1) 98 (stF lt mn pt tk mr od (fun _ => ((go + ba) / 2)) cd)] := hD
                  refine lv_aload_n hx hb dX6_needs_76 rfl (lv_at hl 1 rfl) ?_
                  refine lv_iload_n hx hb dX6_needs_77 rfl (lv_at hl 2 rfl) ?_
                  have M_78 := k_X6_isClean l D cy mo H.size n1 n2 c1 b1 a1 p1 lt mn pt tk mr od pl (fun _ => ((go + ba) / 2)) cd RV SW GT SA LD CQ k (⟨⟨⟨hlt0, hlt1⟩, hmn0, hmn1⟩, ⟨hpt, htk, hmr⟩, ⟨hod, hpl, hpo, hop⟩, (fun _ => ⟨by show 0 ≤ (go + ba) / 2; omega, by show (go + ba) / 2 ≤ 99; omega⟩), hcd⟩) (by omega) (by omega)
                  refine kV_i (wr := [ai (cy 0) (mo 10) 4 B]) (As := [.int (iI k)]) (rest := []) (q := (RX6, TX6, 16)) (ci := 6) ⟨hx, hb, hml, hown, hts⟩ M_78 7 rfl rfl (cwV 1 hts gX6_needs_X6_isClean rfl rfl rfl (by decide +kernel) ⟨Nat.le_of_ble_eq_true rfl, Nat.le_of_ble_eq_true rfl⟩) hN hK hP hD hS hA [7, 8, 0, 1, 2, 3, 4, 5] [6] rfl rfl (by decide) (by decide) (by decide) rfl hl.1 rfl (Nat.le_of_ble_eq_true rfl) dX6_needs_78 ⟨Nat.le_of_ble_eq_true rfl, Nat.le_of_ble_eq_true rfl⟩ (fun r_78 u_78 H locs hw_78 hP hD hS => ?_)
                  obtain ⟨v_1, v_2, v_3, v_4, v_5, v_6, v_7, v_8, v_9, v_10, v_11, v_12⟩ := u_78
                  try dsimp only at hw_78
                  replace hP : va_P D vwCl [ai (cy 0) (mo 10) 4 B, oM mo v_1 v_2 v_3 v_4 v_5 v_6, ai (cy 0) (mo 1) 98 (stF lt mn pt tk mr od (fun _ => ((go + ba) / 2)) cd), ai (cy 0) (mo 4) 24 v_7, ai (cy 0) (mo 5) 24 v_8, ai (cy 0) (mo 6) 24 v_9, ai (cy 0) (mo 7) 24 v_10, ai (cy 0) (mo 8) 4 v_11, ai (cy 0) (mo 9) 10 v_12] H := hP
                  replace hD : va_D A [ai (cy 0) (mo 10) 4 B, oM mo v_1 v_2 v_3 v_4 v_5 v_6, ai (cy 0) (mo 1) 98 (stF lt mn pt tk mr od (fun _ => ((go + ba) / 2)) cd), ai (cy 0) (mo 4) 24 v_7, ai (cy 0) (mo 5) 24 v_8, ai (cy 0) (mo 6) 24 v_9, ai (cy 0) (mo 7) 24 v_10, ai (cy 0) (mo 8) 4 v_11, ai (cy 0) (mo 9) 10 v_12] := hD
                  refine r_eq0 hx hb 90 dX6_needs_81 (by decide) ⟨by omega, by omega⟩ (fun c_81 => ?_) (fun c_81 => ?_)
                  ·
                    refine lv_iload hx hb dX6_needs_90 (lv_at hl 0 rfl) ?_
                    refine lv_istore_n (lv' := [(2, .int (iI ((go + ba) / 2))), (4, .int (iI ((go + ba) / 2))), (0, .ref (mo 0)), (1, .int (iI k)), (3, .int (iI go))]) hx hb dX6_needs_92 rfl hl (by decide) rfl (fun ls hl => ?_)
                    refine lv_goto (tgt := 56) hx hb dX6_needs_93 (by decide) ?_
                    exact ih_56 ((go + ba) / 2) go (fun _ => ((go + ba) / 2)) v_1 v_2 v_3 v_4 v_5 v_6 v_7 v_8 v_9 v_10 v_11 v_12 (by omega) (g2) (Or.inr (by rcases hw_78 with ⟨w, -⟩ | ⟨-, w⟩; (exact absurd w (by omega)); (exact w))) (by omega) H locs (pick_P hP (is := [3, 4, 5, 6, 7, 8, 0, 1, 2]) rfl) (hD.sub [3, 4, 5, 6, 7, 8, 0, 1, 2] (by decide) rfl) hS ls (lv_sub hl [2, 3, 0, 4] rfl)
                  ·
                    refine lv_iload hx hb dX6_needs_84 (lv_at hl 0 rfl) ?_
                    refine lv_istore_n (lv' := [(3, .int (iI ((go + ba) / 2))), (4, .int (iI ((go + ba) / 2))), (0, .ref (mo 0)), (1, .int (iI k)), (2, .int (iI ba))]) hx hb dX6_needs_86 rfl hl (by decide) rfl (fun ls hl => ?_)
                    refine lv_goto (tgt := 93) hx hb dX6_needs_87 (by decide) ?_
                    refine lv_goto (tgt := 56) hx hb dX6_needs_93 (by decide) ?_
                    exact ih_56 ba ((go + ba) / 2) (fun _ => ((go + ba) / 2)) v_1 v_2 v_3 v_4 v_5 v_6 v_7 v_8 v_9 v_10 v_11 v_12 (by omega) (Or.inr (by rcases hw_78 with ⟨-, w⟩ | ⟨w, -⟩; (exact w); (exact absurd w (by omega)))) (g3) (by omega) H locs (pick_P hP (is := [3, 4, 5, 6, 7, 8, 0, 1, 2]) rfl) (hD.sub [3, 4, 5, 6, 7, 8, 0, 1, 2] (by decide) rfl) hS ls (lv_sub hl [2, 3, 4, 0] rfl)
            exact lp_56 _ 0 100 rm rn sn co bp ag pn rv sw gt sa ld cq (by omega) (Or.inl rfl) (Or.inl rfl) (Nat.lt_succ_self _) H locs (pick_P hP (is := [0, 1, 2, 3, 4, 5, 6, 7, 8]) rfl) (hD.sub [0, 1, 2, 3, 4, 5, 6, 7, 8] (by decide) rfl) hS ls (lv_sub hl [2, 3, 1, 0] rfl)
          ·
            refine lv_aload_n hx hb dX6_needs_30 rfl (lv_at hl 0 rfl) ?_
            refine va_get (D := D) (C := RX6) (T := TX6) (N := 16) (ci := 6) (v := .ref (mo 10)) hx hb hts iw_X6_needs_6 hown hK hP 7 rfl rfl 15 (by decide) (hts _ fl_X6_needs_38) (fun _ h9 => h9) rfl dX6_needs_31 ?_
            refine lv_iload_n hx hb dX6_needs_34 rfl (lv_at hl 2 rfl) ?_
            refine lv_aload_n hx hb dX6_needs_35 rfl (lv_at hl 0 rfl) ?_
            refine va_get (D := D) (C := RX6) (T := TX6) (N := 16) (ci := 6) (v := .ref (mo 1)) hx hb hts iw_X6_needs_6 hown hK hP 7 rfl rfl 0 (by decide) (hts _ fl_X6_needs_7) (fun _ h9 => h9) rfl dX6_needs_36 ?_
            refine r_bip hx hb (20) dX6_needs_39 (by decide) ?_
            refine lv_iload_n hx hb dX6_needs_41 rfl (lv_at hl 2 rfl) ?_
            refine r_add hx hb dX6_needs_42 ?_
            refine r_ald hx hb hK hP 8 rfl rfl ⟨by omega, by omega, by omega⟩ dX6_needs_43 ?_
            refine r_top (rm i) (stF_rm (by omega) (by omega) (by omega)) ?_
            refine r_ast hx hb hK hP hD hS 6 rfl rfl ⟨by omega, by omega, by omega⟩ dX6_needs_44 (fun H locs hP hD hS => ?_)
            replace hP : va_P D vwCl [ai (cy 0) (mo 4) 24 rv, ai (cy 0) (mo 5) 24 sw, ai (cy 0) (mo 6) 24 gt, ai (cy 0) (mo 7) 24 sa, ai (cy 0) (mo 8) 4 ld, ai (cy 0) (mo 9) 10 cq, ai (cy 0) (mo 10) 4 (ud B i (rm i)), oM mo rn sn co bp ag pn, ai (cy 0) (mo 1) 98 (stF lt mn pt tk mr od rm cd)] H := hP
            replace hD : va_D A [ai (cy 0) (mo 4) 24 rv, ai (cy 0) (mo 5) 24 sw, ai (cy 0) (mo 6) 24 gt, ai (cy 0) (mo 7) 24 sa, ai (cy 0) (mo 8) 4 ld, ai (cy 0) (mo 9) 10 cq, ai (cy 0) (mo 10) 4 (ud B i (rm i)), oM mo rn sn co bp ag pn, ai (cy 0) (mo 1) 98 (stF lt mn pt tk mr od rm cd)] := hD
            refine r_inc (k := 2) (lv' := [(2, .int (iI (i + 1))), (0, .ref (mo 0)), (1, .int (iI k))]) hx hb dX6_needs_45 hl rfl (by decide) rfl (fun ls hl => ?_)
            refine lv_goto (tgt := 25) hx hb dX6_needs_48 (by decide) ?_
            exact ih_25 (i + 1) (ud B i (rm i)) (by omega) (fun s q1 q2 => by by_cases e : s = i; (subst e; exact ud_at _ _ _); (rw [ud_ne e]; exact h2 s q1 (by omega))) (by omega) H locs (pick_P hP (is := [0, 1, 2, 3, 4, 5, 6, 7, 8]) rfl) (hD.sub [0, 1, 2, 3, 4, 5, 6, 7, 8] (by decide) rfl) hS ls (lv_sub hl [1, 2, 0] rfl)
      exact lp_25 _ 0 rq (by omega) (fun t q1 q2 => by omega) (Nat.lt_succ_self _) H locs (pick_P hP (is := [0, 1, 2, 3, 4, 5, 6, 7, 8]) rfl) (hD.sub [0, 1, 2, 3, 4, 5, 6, 7, 8] (by decide) rfl) hS ls (lv_sub hl [1, 2, 0] rfl)
    ·
      refine r_bip hx hb (-5) dX6_needs_20 (by decide) ?_
      exact hret [7, 8, 0, 1, 2, 3, 4, 5, 6] (rn, sn, co, bp, ag, pn, rv, sw, gt, sa, ld, cq, rq, 0) dX6_needs_22 hP hD hS (by decide) rfl (Or.inr (Or.inl ⟨by omega, by omega, rfl⟩))
  ·
    refine r_bip hx hb (-2) dX6_needs_7 (by decide) ?_
    exact hret [0, 1, 2, 3, 4, 5, 6, 7, 8] (rn, sn, co, bp, ag, pn, rv, sw, gt, sa, ld, cq, rq, 0) dX6_needs_9 hP hD hS (by decide) rfl (Or.inl ⟨by omega, rfl⟩)
