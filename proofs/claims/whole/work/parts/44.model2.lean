abbrev rm_X6_place : Room := { frames := 1, cells := 0, slots := 0, locals := 24 }
theorem fl_X6_place_7 : Cond.fieldLink RX6 7 "WalkPassesModel" "state" "[I" ∈ wsX6_place := by decide +kernel
theorem fl_X6_place_32 : Cond.fieldLink RX6 32 "WalkPassesModel" "load" "[I" ∈ wsX6_place := by decide +kernel
theorem iw_X6_place_6 : ∀ w ∈ u_ws RX6 TX6 16, w ∈ wsX6_place := by decide +kernel
set_option maxHeartbeats 4000000 in
set_option maxRecDepth 100000 in
theorem k_X6_place (l : Launch) (D : va_G) (cy : Nat → ClassId) (mo : Nat → Nat) (z : Nat) (rn sn co bp ag pn : Int) (lt mn : Int) (pt tk mr od pl rm cd : Int → Int) (ld : Int → Int) (la jj : Int) (hI : DI lt mn pt tk mr od pl rm cd) (hl : 0 ≤ la ∧ la < 24) (hj : 1 ≤ jj ∧ jj ≤ 3) (hld : ∀ s, 0 ≤ ld s ∧ ld s ≤ 99) : CtI l yX6_place wsX6_place rm_X6_place D (tyL cy) [.ref (mo 0), .int (iI la), .int (iI jj)] [oM mo rn sn co bp ag pn, ai (cy 0) (mo 1) 98 (stF lt mn pt tk mr od rm cd), ai (cy 0) (mo 8) 4 ld] z (fun (r : Int) (u : Int → Int) => ((mr la = 1 ∧ r = -6 ∧ u = ld) ∨ (mr la ≠ 1 ∧ rm ((stk pt cd mn (jj - 1).toNat) la) < ld ((stk pt cd mn (jj - 1).toNat) la) + tk la ∧ r = -6 ∧ u = ld) ∨ (mr la ≠ 1 ∧ ld ((stk pt cd mn (jj - 1).toNat) la) + tk la ≤ rm ((stk pt cd mn (jj - 1).toNat) la) ∧ r = (stk pt cd mn (jj - 1).toNat) la ∧ u = ud ld ((stk pt cd mn (jj - 1).toNat) la) (ld ((stk pt cd mn (jj - 1).toNat) la) + tk la))) ∧ (r = -6 ∨ (0 ≤ r ∧ r < mn))) (fun (u : Int → Int) => [oM mo rn sn co bp ag pn, ai (cy 0) (mo 1) 98 (stF lt mn pt tk mr od rm cd), ai (cy 0) (mo 8) 4 u]) 0 0 := by
  refine ct_i (cc := cX6_place) (maxL := 4) (by decide) rfl (Nat.le_of_ble_eq_true rfl) ?_
  intro p e s m args below meth c A Q H locs ls hx hb hml hown hin hts hK hN hP hD hS hA hl hret
  replace hl : lv_has ls 4 [(0, .ref (mo 0)), (1, .int (iI la)), (2, .int (iI jj))] := hl
  replace hown : s.vm.findClass RX6 = some m.cls := hown
  obtain ⟨⟨⟨hlt0, hlt1⟩, hmn0, hmn1⟩, ⟨hpt, htk, hmr⟩, ⟨hod, hpl, hpo, hop⟩, hrm, hcd⟩ := id hI
  refine lv_aload_n hx hb dX6_place_0 rfl (lv_at hl 0 rfl) ?_
  refine va_get (D := D) (C := RX6) (T := TX6) (N := 16) (ci := 6) (v := .ref (mo 1)) hx hb hts iw_X6_place_6 hown hK hP 0 rfl rfl 0 (by decide) (hts _ fl_X6_place_7) (fun _ h9 => h9) rfl dX6_place_1 ?_
  refine r_bip hx hb (74) dX6_place_4 (by decide) ?_
  refine lv_iload_n hx hb dX6_place_6 rfl (lv_at hl 1 rfl) ?_
  refine r_add hx hb dX6_place_7 ?_
  refine r_ald hx hb hK hP 1 rfl rfl ⟨by omega, by omega, by omega⟩ dX6_place_8 ?_
  refine r_top (mr la) (stF_mr (by omega) (by omega) (by omega)) ?_
  have b_8 := hmr la
  refine r_const hx hb dX6_place_9 ?_
  refine r_ne hx hb 16 dX6_place_10 (by decide) ⟨by omega, by omega⟩ ⟨by omega, by omega⟩ (fun c_10 => ?_) (fun c_10 => ?_)
  ·
    refine lv_aload_n hx hb dX6_place_16 rfl (lv_at hl 0 rfl) ?_
    refine lv_aload_n hx hb dX6_place_17 rfl (lv_at hl 0 rfl) ?_
    refine va_get (D := D) (C := RX6) (T := TX6) (N := 16) (ci := 6) (v := .ref (mo 1)) hx hb hts iw_X6_place_6 hown hK hP 0 rfl rfl 0 (by decide) (hts _ fl_X6_place_7) (fun _ h9 => h9) rfl dX6_place_18 ?_
    refine r_bip hx hb (10) dX6_place_21 (by decide) ?_
    refine lv_aload_n hx hb dX6_place_23 rfl (lv_at hl 0 rfl) ?_
    refine va_get (D := D) (C := RX6) (T := TX6) (N := 16) (ci := 6) (v := .ref (mo 1)) hx hb hts iw_X6_place_6 hown hK hP 0 rfl rfl 0 (by decide) (hts _ fl_X6_place_7) (fun _ h9 => h9) rfl dX6_place_24 ?_
    refine r_bip hx hb (26) dX6_place_27 (by decide) ?_
    refine lv_iload_n hx hb dX6_place_29 rfl (lv_at hl 1 rfl) ?_
    refine r_add hx hb dX6_place_30 ?_
    refine r_ald hx hb hK hP 1 rfl rfl ⟨by omega, by omega, by omega⟩ dX6_place_31 ?_
    refine r_top (pt la) (stF_pt (by omega) (by omega) (by omega)) ?_
    have b_31 := hpt la
    refine r_add hx hb dX6_place_32 ?_
    refine r_ald hx hb hK hP 1 rfl rfl ⟨by omega, by omega, by omega⟩ dX6_place_33 ?_
    refine r_top (cd (pt la)) (stF_cd (by omega) (by omega) (by omega)) ?_
    have b_33 := hcd (pt la)
    refine lv_iload_n hx hb dX6_place_34 rfl (lv_at hl 2 rfl) ?_
    have M_35 := k_X6_figure l D cy mo H.size rn sn co bp ag pn lt mn pt tk mr od pl rm cd (cd (pt la)) jj (⟨hmn0, hmn1⟩) (by omega) (hj)
    refine kV_i (wr := [ai (cy 0) (mo 8) 4 ld]) (As := [.int (iI (cd (pt la))), .int (iI jj)]) (rest := []) (q := (RX6, TX6, 16)) (ci := 6) ⟨hx, hb, hml, hown, hts⟩ M_35 0 rfl rfl (cwV 2 hts gX6_place_X6_figure rfl rfl rfl (by decide +kernel) ⟨Nat.le_of_ble_eq_true rfl, Nat.le_of_ble_eq_true rfl⟩) hN hK hP hD hS hA [0, 1] [2] rfl rfl (by decide) (by decide) (by decide) rfl hl.1 rfl (Nat.le_of_ble_eq_true rfl) dX6_place_35 ⟨Nat.le_of_ble_eq_true rfl, Nat.le_of_ble_eq_true rfl⟩ (fun r_35 u_35 H locs hw_35 hP hD hS => ?_)
    replace hP : va_P D vwCl [ai (cy 0) (mo 8) 4 ld, oM mo rn sn co bp ag pn, ai (cy 0) (mo 1) 98 (stF lt mn pt tk mr od rm cd)] H := hP
    replace hD : va_D A [ai (cy 0) (mo 8) 4 ld, oM mo rn sn co bp ag pn, ai (cy 0) (mo 1) 98 (stF lt mn pt tk mr od rm cd)] := hD
    have hsj : r_35 = (stk pt cd mn (jj - 1).toNat) la := hw_35.1
    refine lv_istore_n (lv' := [(3, .int (iI r_35)), (0, .ref (mo 0)), (1, .int (iI la)), (2, .int (iI jj))]) hx hb dX6_place_38 rfl hl (by decide) rfl (fun ls hl => ?_)
    refine lv_aload_n hx hb dX6_place_39 rfl (lv_at hl 1 rfl) ?_
    refine va_get (D := D) (C := RX6) (T := TX6) (N := 16) (ci := 6) (v := .ref (mo 8)) hx hb hts iw_X6_place_6 hown hK hP 1 rfl rfl 9 (by decide) (hts _ fl_X6_place_32) (fun _ h9 => h9) rfl dX6_place_40 ?_
    refine lv_iload_n hx hb dX6_place_43 rfl (lv_at hl 0 rfl) ?_
    refine r_ald hx hb hK hP 0 rfl rfl ⟨by omega, by omega, by omega⟩ dX6_place_44 ?_
    have b_44 := hld r_35
    refine lv_aload_n hx hb dX6_place_45 rfl (lv_at hl 1 rfl) ?_
    refine va_get (D := D) (C := RX6) (T := TX6) (N := 16) (ci := 6) (v := .ref (mo 1)) hx hb hts iw_X6_place_6 hown hK hP 1 rfl rfl 0 (by decide) (hts _ fl_X6_place_7) (fun _ h9 => h9) rfl dX6_place_46 ?_
    refine r_bip hx hb (50) dX6_place_49 (by decide) ?_
    refine lv_iload_n hx hb dX6_place_51 rfl (lv_at hl 2 rfl) ?_
    refine r_add hx hb dX6_place_52 ?_
    refine r_ald hx hb hK hP 2 rfl rfl ⟨by omega, by omega, by omega⟩ dX6_place_53 ?_
    refine r_top (tk la) (stF_tk (by omega) (by omega) (by omega)) ?_
    have b_53 := htk la
    refine r_add hx hb dX6_place_54 ?_
    refine lv_aload_n hx hb dX6_place_55 rfl (lv_at hl 1 rfl) ?_
    refine va_get (D := D) (C := RX6) (T := TX6) (N := 16) (ci := 6) (v := .ref (mo 1)) hx hb hts iw_X6_place_6 hown hK hP 1 rfl rfl 0 (by decide) (hts _ fl_X6_place_7) (fun _ h9 => h9) rfl dX6_place_56 ?_
    refine r_bip hx hb (20) dX6_place_59 (by decide) ?_
    refine lv_iload_n hx hb dX6_place_61 rfl (lv_at hl 0 rfl) ?_
    refine r_add hx hb dX6_place_62 ?_
    refine r_ald hx hb hK hP 2 rfl rfl ⟨by omega, by omega, by omega⟩ dX6_place_63 ?_
    refine r_top (rm r_35) (stF_rm (by omega) (by omega) (by omega)) ?_
    have b_63 := hrm r_35
    refine r_le hx hb 70 dX6_place_64 (by decide) ⟨by omega, by omega⟩ ⟨by omega, by omega⟩ (fun c_64 => ?_) (fun c_64 => ?_)
    ·
      refine lv_aload_n hx hb dX6_place_70 rfl (lv_at hl 1 rfl) ?_
      refine va_get (D := D) (C := RX6) (T := TX6) (N := 16) (ci := 6) (v := .ref (mo 8)) hx hb hts iw_X6_place_6 hown hK hP 1 rfl rfl 9 (by decide) (hts _ fl_X6_place_32) (fun _ h9 => h9) rfl dX6_place_71 ?_
      refine lv_iload_n hx hb dX6_place_74 rfl (lv_at hl 0 rfl) ?_
      refine lv_dup2_11 hx hb dX6_place_75 rfl rfl ?_
      refine r_ald hx hb hK hP 0 rfl rfl ⟨by omega, by omega, by omega⟩ dX6_place_76 ?_
      have b_76 := hld r_35
      refine lv_aload_n hx hb dX6_place_77 rfl (lv_at hl 1 rfl) ?_
      refine va_get (D := D) (C := RX6) (T := TX6) (N := 16) (ci := 6) (v := .ref (mo 1)) hx hb hts iw_X6_place_6 hown hK hP 1 rfl rfl 0 (by decide) (hts _ fl_X6_place_7) (fun _ h9 => h9) rfl dX6_place_78 ?_
      refine r_bip hx hb (50) dX6_place_81 (by decide) ?_
      refine lv_iload_n hx hb dX6_place_83 rfl (lv_at hl 2 rfl) ?_
      refine r_add hx hb dX6_place_84 ?_
      refine r_ald hx hb hK hP 2 rfl rfl ⟨by omega, by omega, by omega⟩ dX6_place_85 ?_
      refine r_top (tk la) (stF_tk (by omega) (by omega) (by omega)) ?_
      have b_85 := htk la
      refine r_add hx hb dX6_place_86 ?_
      refine r_ast hx hb hK hP hD hS 0 rfl rfl ⟨by omega, by omega, by omega⟩ dX6_place_87 (fun H locs hP hD hS => ?_)
      replace hP : va_P D vwCl [ai (cy 0) (mo 8) 4 (ud ld r_35 ((ld r_35) + (tk la))), oM mo rn sn co bp ag pn, ai (cy 0) (mo 1) 98 (stF lt mn pt tk mr od rm cd)] H := hP
      replace hD : va_D A [ai (cy 0) (mo 8) 4 (ud ld r_35 ((ld r_35) + (tk la))), oM mo rn sn co bp ag pn, ai (cy 0) (mo 1) 98 (stF lt mn pt tk mr od rm cd)] := hD
      refine lv_iload_n hx hb dX6_place_88 rfl (lv_at hl 0 rfl) ?_
      exact hret [1, 2, 0] (ud ld r_35 ((ld r_35) + (tk la))) dX6_place_89 hP hD hS (by decide) rfl (⟨Or.inr (Or.inr ⟨c_10, by rw [← hsj]; exact c_64, hsj, by rw [← hsj]⟩), Or.inr hw_35.2⟩)
    ·
      refine r_bip hx hb (-6) dX6_place_67 (by decide) ?_
      exact hret [1, 2, 0] ld dX6_place_69 hP hD hS (by decide) rfl (⟨Or.inr (Or.inl ⟨c_10, by rw [← hsj]; exact c_64, rfl, rfl⟩), Or.inl rfl⟩)
  ·
    refine r_bip hx hb (-6) dX6_place_13 (by decide) ?_
    exact hret [0, 1, 2] ld dX6_place_15 hP hD hS (by decide) rfl (⟨Or.inl ⟨c_10, rfl, rfl⟩, Or.inl rfl⟩)
abbrev rm_X6_pass : Room := { frames := 2, cells := 0, slots := 0, locals := 47 }
theorem fl_X6_pass_7 : Cond.fieldLink RX6 7 "WalkPassesModel" "state" "[I" ∈ wsX6_pass := by decide +kernel
theorem fl_X6_pass_20 : Cond.fieldLink RX6 20 "WalkPassesModel" "row" "[I" ∈ wsX6_pass := by decide +kernel
theorem fl_X6_pass_23 : Cond.fieldLink RX6 23 "WalkPassesModel" "swept" "[I" ∈ wsX6_pass := by decide +kernel
theorem fl_X6_pass_26 : Cond.fieldLink RX6 26 "WalkPassesModel" "goesTo" "[I" ∈ wsX6_pass := by decide +kernel
theorem fl_X6_pass_29 : Cond.fieldLink RX6 29 "WalkPassesModel" "spilledAt" "[I" ∈ wsX6_pass := by decide +kernel
theorem fl_X6_pass_32 : Cond.fieldLink RX6 32 "WalkPassesModel" "load" "[I" ∈ wsX6_pass := by decide +kernel
theorem fl_X6_pass_70 : Cond.fieldLink RX6 70 "WalkPassesModel" "rowMany" "I" ∈ wsX6_pass := by decide +kernel
theorem fl_X6_pass_77 : Cond.fieldLink RX6 77 "WalkPassesModel" "sweptMany" "I" ∈ wsX6_pass := by decide +kernel
theorem iw_X6_pass_6 : ∀ w ∈ u_ws RX6 TX6 16, w ∈ wsX6_pass := by decide +kernel
set_option maxHeartbeats 4000000 in
set_option maxRecDepth 100000 in
theorem k_X6_pass (l : Launch) (D : va_G) (cy : Nat → ClassId) (mo : Nat → Nat) (z : Nat) (rn sn co bp ag pn : Int) (lt mn : Int) (pt tk mr od pl rm cd : Int → Int) (rv sw gt sa ld : Int → Int) (jj : Int) (hI : DI lt mn pt tk mr od pl rm cd) (hj : 1 ≤ jj ∧ jj ≤ 3) (hrn : 0 ≤ rn ∧ rn ≤ 24) (hrv : ∀ i, 0 ≤ i → i < rn → 0 ≤ rv i ∧ rv i < lt) (hnd : (lst rv rn.toNat).Nodup) : CtV l yX6_pass wsX6_pass rm_X6_pass D (tyL cy) [.ref (mo 0), .int (iI jj)] [oM mo rn sn co bp ag pn, ai (cy 0) (mo 1) 98 (stF lt mn pt tk mr od rm cd), ai (cy 0) (mo 4) 24 rv, ai (cy 0) (mo 5) 24 sw, ai (cy 0) (mo 6) 24 gt, ai (cy 0) (mo 7) 24 sa, ai (cy 0) (mo 8) 4 ld] z (fun (u : Int × Int × (Int → Int) × (Int → Int) × (Int → Int) × (Int → Int) × (Int → Int)) => MpP (stk pt cd mn (jj - 1).toNat) tk rm mr (lst rv rn.toNat) jj sa u.2.2.2.2.2.1 u.2.2.2.2.1 u.2.2.2.2.2.2 ∧ (0 ≤ u.1 ∧ lst u.2.2.1 u.1.toNat = catL (pil (stk pt cd mn (jj - 1).toNat) (mps (stk pt cd mn (jj - 1).toNat) tk rm mr (lst rv rn.toNat)).2.1) mn.toNat)) (fun (u : Int × Int × (Int → Int) × (Int → Int) × (Int → Int) × (Int → Int) × (Int → Int)) => [oM mo u.1 u.2.1 co bp ag pn, ai (cy 0) (mo 1) 98 (stF lt mn pt tk mr od rm cd), ai (cy 0) (mo 4) 24 u.2.2.1, ai (cy 0) (mo 5) 24 u.2.2.2.1, ai (cy 0) (mo 6) 24 u.2.2.2.2.1, ai (cy 0) (mo 7) 24 u.2.2.2.2.2.1, ai (cy 0) (mo 8) 4 u.2.2.2.2.2.2]) 0 0 := by
  refine ct_v (cc := cX6_pass) (maxL := 4) (by decide) rfl (Nat.le_of_ble_eq_true rfl) ?_
  intro p e s m args below meth c A Q H locs ls hx hb hml hown hin hts hK hN hP hD hS hA hl hret
  replace hl : lv_has ls 4 [(0, .ref (mo 0)), (1, .int (iI jj))] := hl
  replace hown : s.vm.findClass RX6 = some m.cls := hown
  obtain ⟨⟨⟨hlt0, hlt1⟩, hmn0, hmn1⟩, ⟨hpt, htk, hmr⟩, ⟨hod, hpl, hpo, hop⟩, hrm, hcd⟩ := id hI
  refine r_const hx hb dX6_pass_0 ?_
  refine lv_istore_n (lv' := [(2, .int (iI 0)), (0, .ref (mo 0)), (1, .int (iI jj))]) hx hb dX6_pass_1 rfl hl (by decide) rfl (fun ls hl => ?_)
  have lp_2 : ∀ (fu : Nat) (i : Int) (B : Int → Int), (0 ≤ i ∧ i ≤ 4) → (∀ s, 0 ≤ s → s < i → B s = 0) → (4 - i).toNat < fu → ∀ (H : Heap) (locs : List Loc), va_P D vwCl [oM mo rn sn co bp ag pn, ai (cy 0) (mo 1) 98 (stF lt mn pt tk mr od rm cd), ai (cy 0) (mo 4) 24 rv, ai (cy 0) (mo 5) 24 sw, ai (cy 0) (mo 6) 24 gt, ai (cy 0) (mo 7) 24 sa, ai (cy 0) (mo 8) 4 B] H → va_D A [oM mo rn sn co bp ag pn, ai (cy 0) (mo 1) 98 (stF lt mn pt tk mr od rm cd), ai (cy 0) (mo 4) 24 rv, ai (cy 0) (mo 5) 24 sw, ai (cy 0) (mo 6) 24 gt, ai (cy 0) (mo 7) 24 sa, ai (cy 0) (mo 8) 4 B] → va_S A s.heap H locs → ∀ (ls : Array Slot), lv_has ls 4 [(0, .ref (mo 0)), (1, .int (iI jj)), (2, .int (iI i))] → W p l e rm_X6_pass s m args below meth c H locs 0 0 Q (F0 m 2 ls []) := by
    intro fu
    induction fu with
    | zero =>
      intro i B h1 h2 hm
      exact absurd hm (Nat.not_lt_zero _)
    | succ fu ih_2 =>
      intro i B h1 h2 hm H locs hP hD hS ls hl
      refine lv_iload_n hx hb dX6_pass_2 rfl (lv_at hl 2 rfl) ?_
      refine r_const hx hb dX6_pass_3 ?_
      refine r_ge hx hb 20 dX6_pass_4 (by decide) ⟨by omega, by omega⟩ ⟨by omega, by omega⟩ (fun c_4 => ?_) (fun c_4 => ?_)
      ·
        replace hP := reF (q := 6) (fun _ => 0) hP rfl (fun s q1 q2 => h2 s q1 (by omega))
        replace hD := reD (q := 6) (fun _ => 0) hD rfl
        replace hP : va_P D vwCl [oM mo rn sn co bp ag pn, ai (cy 0) (mo 1) 98 (stF lt mn pt tk mr od rm cd), ai (cy 0) (mo 4) 24 rv, ai (cy 0) (mo 5) 24 sw, ai (cy 0) (mo 6) 24 gt, ai (cy 0) (mo 7) 24 sa, ai (cy 0) (mo 8) 4 (fun _ => 0)] H := hP
        replace hD : va_D A [oM mo rn sn co bp ag pn, ai (cy 0) (mo 1) 98 (stF lt mn pt tk mr od rm cd), ai (cy 0) (mo 4) 24 rv, ai (cy 0) (mo 5) 24 sw, ai (cy 0) (mo 6) 24 gt, ai (cy 0) (mo 7) 24 sa, ai (cy 0) (mo 8) 4 (fun _ => 0)] := hD
        refine r_const hx hb dX6_pass_20 ?_
        refine lv_istore_n (lv' := [(2, .int (iI 0)), (0, .ref (mo 0)), (1, .int (iI jj))]) hx hb dX6_pass_21 rfl hl (by decide) rfl (fun ls hl => ?_)
        have lp_22 : ∀ (fu : Nat) (x : Int) (GT : Int → Int) (SA : Int → Int) (LD : Int → Int), (0 ≤ x ∧ x ≤ rn) → (MpP (stk pt cd mn (jj - 1).toNat) tk rm mr (lst rv x.toNat) jj sa SA GT LD) → (rn - x).toNat < fu → ∀ (H : Heap) (locs : List Loc), va_P D vwCl [oM mo rn sn co bp ag pn, ai (cy 0) (mo 1) 98 (stF lt mn pt tk mr od rm cd), ai (cy 0) (mo 4) 24 rv, ai (cy 0) (mo 5) 24 sw, ai (cy 0) (mo 6) 24 GT, ai (cy 0) (mo 7) 24 SA, ai (cy 0) (mo 8) 4 LD] H → va_D A [oM mo rn sn co bp ag pn, ai (cy 0) (mo 1) 98 (stF lt mn pt tk mr od rm cd), ai (cy 0) (mo 4) 24 rv, ai (cy 0) (mo 5) 24 sw, ai (cy 0) (mo 6) 24 GT, ai (cy 0) (mo 7) 24 SA, ai (cy 0) (mo 8) 4 LD] → va_S A s.heap H locs → ∀ (ls : Array Slot), lv_has ls 4 [(0, .ref (mo 0)), (1, .int (iI jj)), (2, .int (iI x))] → W p l e rm_X6_pass s m args below meth c H locs 0 0 Q (F0 m 22 ls []) := by
          intro fu
          induction fu with
          | zero =>
            intro x GT SA LD g1 gp hm
            exact absurd hm (Nat.not_lt_zero _)
          | succ fu ih_22 =>
            intro x GT SA LD g1 gp hm H locs hP hD hS ls hl
            have hLb : ∀ s, 0 ≤ LD s ∧ LD s ≤ 99 := by rw [gp.1]; exact mps_ld hmr htk hrm _
            refine lv_iload_n hx hb dX6_pass_22 rfl (lv_at hl 2 rfl) ?_
            refine lv_aload_n hx hb dX6_pass_23 rfl (lv_at hl 0 rfl) ?_
            refine va_get (D := D) (C := RX6) (T := TX6) (N := 16) (ci := 6) (v := .int (iI rn)) hx hb hts iw_X6_pass_6 hown hK hP 0 rfl rfl 4 (by decide) (hts _ fl_X6_pass_70) (fun _ h9 => h9) rfl dX6_pass_24 ?_
            refine r_ge hx hb 75 dX6_pass_27 (by decide) ⟨by omega, by omega⟩ ⟨by omega, by omega⟩ (fun c_27 => ?_) (fun c_27 => ?_)
            ·
              have gp2 : MpP (stk pt cd mn (jj - 1).toNat) tk rm mr (lst rv rn.toNat) jj sa SA GT LD := by rw [show rn = x by omega]; exact gp
              refine lv_aload_n hx hb dX6_pass_75 rfl (lv_at hl 0 rfl) ?_
              refine r_const hx hb dX6_pass_76 ?_
              refine va_put (D := D) (C := RX6) (T := TX6) (N := 16) (ci := 6) (v := .int (iI 0)) (ty := .int) hx hb hts iw_X6_pass_6 tyX6 tyX6_ok nmX6 hown hK hP hD hS 0 rfl rfl 6 (by decide) (hts _ fl_X6_pass_77) (fun _ h9 => h9) rfl (by decide +kernel) rfl rfl (Nat.le_of_ble_eq_true rfl) dX6_pass_77 (fun H locs hP hD hS => ?_)
              replace hP : va_P D vwCl [oM mo rn 0 co bp ag pn, ai (cy 0) (mo 1) 98 (stF lt mn pt tk mr od rm cd), ai (cy 0) (mo 4) 24 rv, ai (cy 0) (mo 5) 24 sw, ai (cy 0) (mo 6) 24 GT, ai (cy 0) (mo 7) 24 SA, ai (cy 0) (mo 8) 4 LD] H := hP
              replace hD : va_D A [oM mo rn 0 co bp ag pn, ai (cy 0) (mo 1) 98 (stF lt mn pt tk mr od rm cd), ai (cy 0) (mo 4) 24 rv, ai (cy 0) (mo 5) 24 sw, ai (cy 0) (mo 6) 24 GT, ai (cy 0) (mo 7) 24 SA, ai (cy 0) (mo 8) 4 LD] := hD
              refine r_const hx hb dX6_pass_80 ?_
              refine lv_istore_n (lv' := [(2, .int (iI 0)), (0, .ref (mo 0)), (1, .int (iI jj))]) hx hb dX6_pass_81 rfl hl (by decide) rfl (fun ls hl => ?_)
              have lp_82 : ∀ (fu : Nat) (s2 : Int) (n2 : Int) (SW : Int → Int), (0 ≤ s2 ∧ s2 ≤ mn) → (0 ≤ n2) → (lst SW n2.toNat = catL (pil (stk pt cd mn (jj - 1).toNat) (mps (stk pt cd mn (jj - 1).toNat) tk rm mr (lst rv rn.toNat)).2.1) s2.toNat) → (mn - s2).toNat < fu → ∀ (H : Heap) (locs : List Loc), va_P D vwCl [oM mo rn n2 co bp ag pn, ai (cy 0) (mo 1) 98 (stF lt mn pt tk mr od rm cd), ai (cy 0) (mo 4) 24 rv, ai (cy 0) (mo 5) 24 SW, ai (cy 0) (mo 6) 24 GT, ai (cy 0) (mo 7) 24 SA, ai (cy 0) (mo 8) 4 LD] H → va_D A [oM mo rn n2 co bp ag pn, ai (cy 0) (mo 1) 98 (stF lt mn pt tk mr od rm cd), ai (cy 0) (mo 4) 24 rv, ai (cy 0) (mo 5) 24 SW, ai (cy 0) (mo 6) 24 GT, ai (cy 0) (mo 7) 24 SA, ai (cy 0) (mo 8) 4 LD] → va_S A s.heap H locs → ∀ (ls : Array Slot), lv_has ls 4 [(0, .ref (mo 0)), (1, .int (iI jj)), (2, .int (iI s2))] → W p l e rm_X6_pass s m args below meth c H locs 0 0 Q (F0 m 82 ls []) := by
                intro fu
                induction fu with
                | zero =>
                  intro s2 n2 SW k1 k0 k2 hm
                  exact absurd hm (Nat.not_lt_zero _)
                | succ fu ih_82 =>
                  intro s2 n2 SW k1 k0 k2 hm H locs hP hD hS ls hl
                  have kl := lst_n k2 k0
                  have kc := cat_le (stk pt cd mn (jj - 1).toNat) (mps (stk pt cd mn (jj - 1).toNat) tk rm mr (lst rv rn.toNat)).2.1 (s2 + 1).toNat
                  rw [catL_s k1.1, List.length_append, ← MpP_pil gp2 k1.1] at kc
                  have ko := congrArg List.length gp2.2.1
                  have ko2 := List.length_filter_le (fun l => decide (GT l ≠ -6)) (lst rv rn.toNat)
                  rw [lst_len] at ko2
                  refine lv_iload_n hx hb dX6_pass_82 rfl (lv_at hl 2 rfl) ?_
                  refine lv_aload_n hx hb dX6_pass_83 rfl (lv_at hl 0 rfl) ?_
                  refine va_get (D := D) (C := RX6) (T := TX6) (N := 16) (ci := 6) (v := .ref (mo 1)) hx hb hts iw_X6_pass_6 hown hK hP 0 rfl rfl 0 (by decide) (hts _ fl_X6_pass_7) (fun _ h9 => h9) rfl dX6_pass_84 ?_
                  refine r_bip hx hb (24) dX6_pass_87 (by decide) ?_
                  refine r_ald hx hb hK hP 1 rfl rfl ⟨by omega, by omega, by omega⟩ dX6_pass_89 ?_
                  refine r_top (mn) (stF_mn (by omega)) ?_
                  refine r_ge hx hb 155 dX6_pass_90 (by decide) ⟨by omega, by omega⟩ ⟨by omega, by omega⟩ (fun c_90 => ?_) (fun c_90 => ?_)
                  ·
                    refine r_const hx hb dX6_pass_155 ?_
                    refine lv_istore_n (lv' := [(2, .int (iI 0)), (0, .ref (mo 0)), (1, .int (iI jj))]) hx hb dX6_pass_156 rfl hl (by decide) rfl (fun ls hl => ?_)
                    have lp_157 : ∀ (fu : Nat) (y : Int) (RV : Int → Int), (0 ≤ y ∧ y ≤ n2) → (∀ i, 0 ≤ i → i < y → RV i = SW i) → (n2 - y).toNat < fu → ∀ (H : Heap) (locs : List Loc), va_P D vwCl [oM mo rn n2 co bp ag pn, ai (cy 0) (mo 1) 98 (stF lt mn pt tk mr od rm cd), ai (cy 0) (mo 4) 24 RV, ai (cy 0) (mo 5) 24 SW, ai (cy 0) (mo 6) 24 GT, ai (cy 0) (mo 7) 24 SA, ai (cy 0) (mo 8) 4 LD] H → va_D A [oM mo rn n2 co bp ag pn, ai (cy 0) (mo 1) 98 (stF lt mn pt tk mr od rm cd), ai (cy 0) (mo 4) 24 RV, ai (cy 0) (mo 5) 24 SW, ai (cy 0) (mo 6) 24 GT, ai (cy 0) (mo 7) 24 SA, ai (cy 0) (mo 8) 4 LD] → va_S A s.heap H locs → ∀ (ls : Array Slot), lv_has ls 4 [(0, .ref (mo 0)), (1, .int (iI jj)), (2, .int (iI y))] → W p l e rm_X6_pass s m args below meth c H locs 0 0 Q (F0 m 157 ls []) := by
                      intro fu
                      induction fu with
                      | zero =>
                        intro y RV p1 p2 hm
                        exact absurd hm (Nat.not_lt_zero _)
                      | succ fu ih_157 =>
                        intro y RV p1 p2 hm H locs hP hD hS ls hl
                        refine lv_iload_n hx hb dX6_pass_157 rfl (lv_at hl 2 rfl) ?_
                        refine lv_aload_n hx hb dX6_pass_158 rfl (lv_at hl 0 rfl) ?_
                        refine va_get (D := D) (C := RX6) (T := TX6) (N := 16) (ci := 6) (v := .int (iI n2)) hx hb hts iw_X6_pass_6 hown hK hP 0 rfl rfl 6 (by decide) (hts _ fl_X6_pass_77) (fun _ h9 => h9) rfl dX6_pass_159 ?_
                        refine r_ge hx hb 183 dX6_pass_162 (by decide) ⟨by omega, by omega⟩ ⟨by omega, by omega⟩ (fun c_162 => ?_) (fun c_162 => ?_)
                        ·
                          refine lv_aload_n hx hb dX6_pass_183 rfl (lv_at hl 0 rfl) ?_
                          refine lv_aload_n hx hb dX6_pass_184 rfl (lv_at hl 0 rfl) ?_
                          refine va_get (D := D) (C := RX6) (T := TX6) (N := 16) (ci := 6) (v := .int (iI n2)) hx hb hts iw_X6_pass_6 hown hK hP 0 rfl rfl 6 (by decide) (hts _ fl_X6_pass_77) (fun _ h9 => h9) rfl dX6_pass_185 ?_
                          refine va_put (D := D) (C := RX6) (T := TX6) (N := 16) (ci := 6) (v := .int (iI n2)) (ty := .int) hx hb hts iw_X6_pass_6 tyX6 tyX6_ok nmX6 hown hK hP hD hS 0 rfl rfl 4 (by decide) (hts _ fl_X6_pass_70) (fun _ h9 => h9) rfl (by decide +kernel) rfl rfl (Nat.le_of_ble_eq_true rfl) dX6_pass_188 (fun H locs hP hD hS => ?_)
                          replace hP : va_P D vwCl [oM mo n2 n2 co bp ag pn, ai (cy 0) (mo 1) 98 (stF lt mn pt tk mr od rm cd), ai (cy 0) (mo 4) 24 RV, ai (cy 0) (mo 5) 24 SW, ai (cy 0) (mo 6) 24 GT, ai (cy 0) (mo 7) 24 SA, ai (cy 0) (mo 8) 4 LD] H := hP
                          replace hD : va_D A [oM mo n2 n2 co bp ag pn, ai (cy 0) (mo 1) 98 (stF lt mn pt tk mr od rm cd), ai (cy 0) (mo 4) 24 RV, ai (cy 0) (mo 5) 24 SW, ai (cy 0) (mo 6) 24 GT, ai (cy 0) (mo 7) 24 SA, ai (cy 0) (mo 8) 4 LD] := hD
                          exact hret [0, 1, 2, 3, 4, 5, 6] (n2, n2, RV, SW, GT, SA, LD) dX6_pass_191 hP hD hS (by decide) rfl (⟨gp2, k0, by rw [show mn.toNat = s2.toNat by omega, ← k2]; exact lst_congr (fun i q1 q2 => p2 i q1 (by omega))⟩)
                        ·
                          refine lv_aload_n hx hb dX6_pass_165 rfl (lv_at hl 0 rfl) ?_
                          refine va_get (D := D) (C := RX6) (T := TX6) (N := 16) (ci := 6) (v := .ref (mo 4)) hx hb hts iw_X6_pass_6 hown hK hP 0 rfl rfl 3 (by decide) (hts _ fl_X6_pass_20) (fun _ h9 => h9) rfl dX6_pass_166 ?_
                          refine lv_iload_n hx hb dX6_pass_169 rfl (lv_at hl 2 rfl) ?_
                          refine lv_aload_n hx hb dX6_pass_170 rfl (lv_at hl 0 rfl) ?_
                          refine va_get (D := D) (C := RX6) (T := TX6) (N := 16) (ci := 6) (v := .ref (mo 5)) hx hb hts iw_X6_pass_6 hown hK hP 0 rfl rfl 5 (by decide) (hts _ fl_X6_pass_23) (fun _ h9 => h9) rfl dX6_pass_171 ?_
                          refine lv_iload_n hx hb dX6_pass_174 rfl (lv_at hl 2 rfl) ?_
                          refine r_ald hx hb hK hP 3 rfl rfl ⟨by omega, by omega, by omega⟩ dX6_pass_175 ?_
                          refine r_ast hx hb hK hP hD hS 2 rfl rfl ⟨by omega, by omega, by omega⟩ dX6_pass_176 (fun H locs hP hD hS => ?_)
                          replace hP : va_P D vwCl [oM mo rn n2 co bp ag pn, ai (cy 0) (mo 1) 98 (stF lt mn pt tk mr od rm cd), ai (cy 0) (mo 4) 24 (ud RV y (SW y)), ai (cy 0) (mo 5) 24 SW, ai (cy 0) (mo 6) 24 GT, ai (cy 0) (mo 7) 24 SA, ai (cy 0) (mo 8) 4 LD] H := hP
                          replace hD : va_D A [oM mo rn n2 co bp ag pn, ai (cy 0) (mo 1) 98 (stF lt mn pt tk mr od rm cd), ai (cy 0) (mo 4) 24 (ud RV y (SW y)), ai (cy 0) (mo 5) 24 SW, ai (cy 0) (mo 6) 24 GT, ai (cy 0) (mo 7) 24 SA, ai (cy 0) (mo 8) 4 LD] := hD
                          refine r_inc (k := 2) (lv' := [(2, .int (iI (y + 1))), (0, .ref (mo 0)), (1, .int (iI jj))]) hx hb dX6_pass_177 hl rfl (by decide) rfl (fun ls hl => ?_)
                          refine lv_goto (tgt := 157) hx hb dX6_pass_180 (by decide) ?_
                          exact ih_157 (y + 1) (ud RV y (SW y)) (by omega) (fun i q1 q2 => by by_cases e : i = y; (subst e; exact ud_at _ _ _); (rw [ud_ne e]; exact p2 i q1 (by omega))) (by omega) H locs (pick_P hP (is := [0, 1, 2, 3, 4, 5, 6]) rfl) (hD.sub [0, 1, 2, 3, 4, 5, 6] (by decide) rfl) hS ls (lv_sub hl [1, 2, 0] rfl)
                    exact lp_157 _ 0 rv (by omega) (fun i q1 q2 => by omega) (Nat.lt_succ_self _) H locs (pick_P hP (is := [0, 1, 2, 3, 4, 5, 6]) rfl) (hD.sub [0, 1, 2, 3, 4, 5, 6] (by decide) rfl) hS ls (lv_sub hl [1, 2, 0] rfl)
                  ·
                    refine r_const hx hb dX6_pass_93 ?_
                    refine lv_istore_n (lv' := [(3, .int (iI 0)), (0, .ref (mo 0)), (1, .int (iI jj)), (2, .int (iI s2))]) hx hb dX6_pass_94 rfl hl (by decide) rfl (fun ls hl => ?_)
                    have lp_95 : ∀ (fu : Nat) (t : Int) (n3 : Int) (SX : Int → Int), (0 ≤ t ∧ t ≤ rn) → (0 ≤ n3) → (lst SX n3.toNat = catL (pil (stk pt cd mn (jj - 1).toNat) (mps (stk pt cd mn (jj - 1).toNat) tk rm mr (lst rv rn.toNat)).2.1) s2.toNat ++ (lst rv t.toNat).filter (fun l => decide (GT l = s2))) → (rn - t).toNat < fu → ∀ (H : Heap) (locs : List Loc), va_P D vwCl [oM mo rn n3 co bp ag pn, ai (cy 0) (mo 1) 98 (stF lt mn pt tk mr od rm cd), ai (cy 0) (mo 4) 24 rv, ai (cy 0) (mo 5) 24 SX, ai (cy 0) (mo 6) 24 GT, ai (cy 0) (mo 7) 24 SA, ai (cy 0) (mo 8) 4 LD] H → va_D A [oM mo rn n3 co bp ag pn, ai (cy 0) (mo 1) 98 (stF lt mn pt tk mr od rm cd), ai (cy 0) (mo 4) 24 rv, ai (cy 0) (mo 5) 24 SX, ai (cy 0) (mo 6) 24 GT, ai (cy 0) (mo 7) 24 SA, ai (cy 0) (mo 8) 4 LD] → va_S A s.heap H locs → ∀ (ls : Array Slot), lv_has ls 4 [(0, .ref (mo 0)), (1, .int (iI jj)), (2, .int (iI s2)), (3, .int (iI t))] → W p l e rm_X6_pass s m args below meth c H locs 0 0 Q (F0 m 95 ls []) := by
                      intro fu
                      induction fu with
                      | zero =>
                        intro t n3 SX m1 m0 m2 hm
                        exact absurd hm (Nat.not_lt_zero _)
                      | succ fu ih_95 =>
                        intro t n3 SX m1 m0 m2 hm H locs hP hD hS ls hl
                        have ml := lst_n m2 m0
                        rw [List.length_append] at ml
                        have mf := flt_len (F := rv) (P := fun l => decide (GT l = s2)) (a := t.toNat) (b := rn.toNat) (by omega)
                        refine lv_iload_n hx hb dX6_pass_95 rfl (lv_at hl 3 rfl) ?_
                        refine lv_aload_n hx hb dX6_pass_96 rfl (lv_at hl 0 rfl) ?_
                        refine va_get (D := D) (C := RX6) (T := TX6) (N := 16) (ci := 6) (v := .int (iI rn)) hx hb hts iw_X6_pass_6 hown hK hP 0 rfl rfl 4 (by decide) (hts _ fl_X6_pass_70) (fun _ h9 => h9) rfl dX6_pass_97 ?_
                        refine r_ge hx hb 149 dX6_pass_100 (by decide) ⟨by omega, by omega⟩ ⟨by omega, by omega⟩ (fun c_100 => ?_) (fun c_100 => ?_)
                        ·
                          refine r_inc (k := 2) (lv' := [(2, .int (iI (s2 + 1))), (0, .ref (mo 0)), (1, .int (iI jj)), (3, .int (iI t))]) hx hb dX6_pass_149 hl rfl (by decide) rfl (fun ls hl => ?_)
                          refine lv_goto (tgt := 82) hx hb dX6_pass_152 (by decide) ?_
                          exact ih_82 (s2 + 1) n3 SX (by omega) (by omega) (by rw [m2, catL_s k1.1, ← MpP_pil gp2 k1.1, show t.toNat = rn.toNat by omega]) (by omega) H locs (pick_P hP (is := [0, 1, 2, 3, 4, 5, 6]) rfl) (hD.sub [0, 1, 2, 3, 4, 5, 6] (by decide) rfl) hS ls (lv_sub hl [1, 2, 0] rfl)
                        ·
                          have ho2 := hrv t m1.1 (by omega)
                          have hGr : GT (rv t) = -6 ∨ (0 ≤ GT (rv t) ∧ GT (rv t) ≤ 3) := by by_cases z : GT (rv t) = -6; (exact Or.inl z); (have z2 := gp2.2.2.1 (rv t) (lst_mem rfl m1.1 (by omega)) z; have z3 : 0 ≤ (stk pt cd mn (jj - 1).toNat) (rv t) := Int.emod_nonneg _ (by omega); have z4 : (stk pt cd mn (jj - 1).toNat) (rv t) < mn := Int.emod_lt_of_pos _ (by omega); exact Or.inr ⟨by omega, by omega⟩)
                          refine lv_aload_n hx hb dX6_pass_103 rfl (lv_at hl 0 rfl) ?_
                          refine va_get (D := D) (C := RX6) (T := TX6) (N := 16) (ci := 6) (v := .ref (mo 6)) hx hb hts iw_X6_pass_6 hown hK hP 0 rfl rfl 7 (by decide) (hts _ fl_X6_pass_26) (fun _ h9 => h9) rfl dX6_pass_104 ?_
                          refine lv_aload_n hx hb dX6_pass_107 rfl (lv_at hl 0 rfl) ?_
                          refine va_get (D := D) (C := RX6) (T := TX6) (N := 16) (ci := 6) (v := .ref (mo 4)) hx hb hts iw_X6_pass_6 hown hK hP 0 rfl rfl 3 (by decide) (hts _ fl_X6_pass_20) (fun _ h9 => h9) rfl dX6_pass_108 ?_
                          refine lv_iload_n hx hb dX6_pass_111 rfl (lv_at hl 3 rfl) ?_
                          refine r_ald hx hb hK hP 2 rfl rfl ⟨by omega, by omega, by omega⟩ dX6_pass_112 ?_
                          refine r_ald hx hb hK hP 4 rfl rfl ⟨by omega, by omega, by omega⟩ dX6_pass_113 ?_
                          refine lv_iload_n hx hb dX6_pass_114 rfl (lv_at hl 2 rfl) ?_
                          refine r_ne hx hb 143 dX6_pass_115 (by decide) ⟨by omega, by omega⟩ ⟨by omega, by omega⟩ (fun c_115 => ?_) (fun c_115 => ?_)
                          ·
                            refine r_inc (k := 3) (lv' := [(3, .int (iI (t + 1))), (0, .ref (mo 0)), (1, .int (iI jj)), (2, .int (iI s2))]) hx hb dX6_pass_143 hl rfl (by decide) rfl (fun ls hl => ?_)
                            refine lv_goto (tgt := 95) hx hb dX6_pass_146 (by decide) ?_
                            exact ih_95 (t + 1) n3 SX (by omega) (by omega) (by first | (rw [lst_push m0, m2, lst_si m1.1, List.filter_append, List.append_assoc]; congr 2; simp [c_115]; done) | (rw [m2, lst_si m1.1, List.filter_append]; simp [c_115]; done)) (by omega) H locs (pick_P hP (is := [0, 1, 2, 3, 4, 5, 6]) rfl) (hD.sub [0, 1, 2, 3, 4, 5, 6] (by decide) rfl) hS ls (lv_sub hl [1, 2, 3, 0] rfl)
                          ·
                            have mf2 := flt_len (F := rv) (P := fun l => decide (GT l = s2)) (a := (t + 1).toNat) (b := rn.toNat) (by omega)
                            rw [lst_si m1.1, List.filter_append, List.length_append] at mf2
                            have mf3 : ([rv t].filter (fun l => decide (GT l = s2))).length = 1 := by simp [c_115]
                            rw [mf3] at mf2
                            refine lv_aload_n hx hb dX6_pass_118 rfl (lv_at hl 0 rfl) ?_
                            refine va_get (D := D) (C := RX6) (T := TX6) (N := 16) (ci := 6) (v := .ref (mo 5)) hx hb hts iw_X6_pass_6 hown hK hP 0 rfl rfl 5 (by decide) (hts _ fl_X6_pass_23) (fun _ h9 => h9) rfl dX6_pass_119 ?_
                            refine lv_aload_n hx hb dX6_pass_122 rfl (lv_at hl 0 rfl) ?_
                            refine va_get (D := D) (C := RX6) (T := TX6) (N := 16) (ci := 6) (v := .int (iI n3)) hx hb hts iw_X6_pass_6 hown hK hP 0 rfl rfl 6 (by decide) (hts _ fl_X6_pass_77) (fun _ h9 => h9) rfl dX6_pass_123 ?_
                            refine lv_aload_n hx hb dX6_pass_126 rfl (lv_at hl 0 rfl) ?_
                            refine va_get (D := D) (C := RX6) (T := TX6) (N := 16) (ci := 6) (v := .ref (mo 4)) hx hb hts iw_X6_pass_6 hown hK hP 0 rfl rfl 3 (by decide) (hts _ fl_X6_pass_20) (fun _ h9 => h9) rfl dX6_pass_127 ?_
                            refine lv_iload_n hx hb dX6_pass_130 rfl (lv_at hl 3 rfl) ?_
                            refine r_ald hx hb hK hP 2 rfl rfl ⟨by omega, by omega, by omega⟩ dX6_pass_131 ?_
                            refine r_ast hx hb hK hP hD hS 3 rfl rfl ⟨by omega, by omega, by omega⟩ dX6_pass_132 (fun H locs hP hD hS => ?_)
                            replace hP : va_P D vwCl [oM mo rn n3 co bp ag pn, ai (cy 0) (mo 1) 98 (stF lt mn pt tk mr od rm cd), ai (cy 0) (mo 4) 24 rv, ai (cy 0) (mo 5) 24 (ud SX n3 (rv t)), ai (cy 0) (mo 6) 24 GT, ai (cy 0) (mo 7) 24 SA, ai (cy 0) (mo 8) 4 LD] H := hP
                            replace hD : va_D A [oM mo rn n3 co bp ag pn, ai (cy 0) (mo 1) 98 (stF lt mn pt tk mr od rm cd), ai (cy 0) (mo 4) 24 rv, ai (cy 0) (mo 5) 24 (ud SX n3 (rv t)), ai (cy 0) (mo 6) 24 GT, ai (cy 0) (mo 7) 24 SA, ai (cy 0) (mo 8) 4 LD] := hD
                            refine lv_aload_n hx hb dX6_pass_133 rfl (lv_at hl 0 rfl) ?_
                            refine lv_dup hx hb dX6_pass_134 rfl ?_
                            refine va_get (D := D) (C := RX6) (T := TX6) (N := 16) (ci := 6) (v := .int (iI n3)) hx hb hts iw_X6_pass_6 hown hK hP 0 rfl rfl 6 (by decide) (hts _ fl_X6_pass_77) (fun _ h9 => h9) rfl dX6_pass_135 ?_
                            refine r_const hx hb dX6_pass_138 ?_
                            refine r_add hx hb dX6_pass_139 ?_
                            refine va_put (D := D) (C := RX6) (T := TX6) (N := 16) (ci := 6) (v := .int (iI (n3 + 1))) (ty := .int) hx hb hts iw_X6_pass_6 tyX6 tyX6_ok nmX6 hown hK hP hD hS 0 rfl rfl 6 (by decide) (hts _ fl_X6_pass_77) (fun _ h9 => h9) rfl (by decide +kernel) rfl rfl (Nat.le_of_ble_eq_true rfl) dX6_pass_140 (fun H locs hP hD hS => ?_)
                            replace hP : va_P D vwCl [oM mo rn (n3 + 1) co bp ag pn, ai (cy 0) (mo 1) 98 (stF lt mn pt tk mr od rm cd), ai (cy 0) (mo 4) 24 rv, ai (cy 0) (mo 5) 24 (ud SX n3 (rv t)), ai (cy 0) (mo 6) 24 GT, ai (cy 0) (mo 7) 24 SA, ai (cy 0) (mo 8) 4 LD] H := hP
                            replace hD : va_D A [oM mo rn (n3 + 1) co bp ag pn, ai (cy 0) (mo 1) 98 (stF lt mn pt tk mr od rm cd), ai (cy 0) (mo 4) 24 rv, ai (cy 0) (mo 5) 24 (ud SX n3 (rv t)), ai (cy 0) (mo 6) 24 GT, ai (cy 0) (mo 7) 24 SA, ai (cy 0) (mo 8) 4 LD] := hD
                            refine r_inc (k := 3) (lv' := [(3, .int (iI (t + 1))), (0, .ref (mo 0)), (1, .int (iI jj)), (2, .int (iI s2))]) hx hb dX6_pass_143 hl rfl (by decide) rfl (fun ls hl => ?_)
                            refine lv_goto (tgt := 95) hx hb dX6_pass_146 (by decide) ?_
                            exact ih_95 (t + 1) (n3 + 1) (ud SX n3 (rv t)) (by omega) (by omega) (by first | (rw [lst_push m0, m2, lst_si m1.1, List.filter_append, List.append_assoc]; congr 2; simp [c_115]; done) | (rw [m2, lst_si m1.1, List.filter_append]; simp [c_115]; done)) (by omega) H locs (pick_P hP (is := [0, 1, 2, 3, 4, 5, 6]) rfl) (hD.sub [0, 1, 2, 3, 4, 5, 6] (by decide) rfl) hS ls (lv_sub hl [1, 2, 3, 0] rfl)
                    exact lp_95 _ 0 n2 SW (by omega) (by omega) (by rw [k2]; exact (List.append_nil _).symm) (Nat.lt_succ_self _) H locs (pick_P hP (is := [0, 1, 2, 3, 4, 5, 6]) rfl) (hD.sub [0, 1, 2, 3, 4, 5, 6] (by decide) rfl) hS ls (lv_sub hl [1, 2, 3, 0] rfl)
              exact lp_82 _ 0 0 sw (by omega) (by omega) (rfl) (Nat.lt_succ_self _) H locs (pick_P hP (is := [0, 1, 2, 3, 4, 5, 6]) rfl) (hD.sub [0, 1, 2, 3, 4, 5, 6] (by decide) rfl) hS ls (lv_sub hl [1, 2, 0] rfl)
            ·
              refine lv_aload_n hx hb dX6_pass_30 rfl (lv_at hl 0 rfl) ?_
              refine va_get (D := D) (C := RX6) (T := TX6) (N := 16) (ci := 6) (v := .ref (mo 4)) hx hb hts iw_X6_pass_6 hown hK hP 0 rfl rfl 3 (by decide) (hts _ fl_X6_pass_20) (fun _ h9 => h9) rfl dX6_pass_31 ?_
              refine lv_iload_n hx hb dX6_pass_34 rfl (lv_at hl 2 rfl) ?_
              refine r_ald hx hb hK hP 2 rfl rfl ⟨by omega, by omega, by omega⟩ dX6_pass_35 ?_
              refine lv_istore_n (lv' := [(3, .int (iI (rv x))), (0, .ref (mo 0)), (1, .int (iI jj)), (2, .int (iI x))]) hx hb dX6_pass_36 rfl hl (by decide) rfl (fun ls hl => ?_)
              have ho1 := hrv x g1.1 (by omega)
              refine lv_aload_n hx hb dX6_pass_37 rfl (lv_at hl 1 rfl) ?_
              refine va_get (D := D) (C := RX6) (T := TX6) (N := 16) (ci := 6) (v := .ref (mo 6)) hx hb hts iw_X6_pass_6 hown hK hP 0 rfl rfl 7 (by decide) (hts _ fl_X6_pass_26) (fun _ h9 => h9) rfl dX6_pass_38 ?_
              refine lv_iload_n hx hb dX6_pass_41 rfl (lv_at hl 0 rfl) ?_
              refine lv_aload_n hx hb dX6_pass_42 rfl (lv_at hl 1 rfl) ?_
              refine lv_iload_n hx hb dX6_pass_43 rfl (lv_at hl 0 rfl) ?_
              refine lv_iload_n hx hb dX6_pass_44 rfl (lv_at hl 2 rfl) ?_
              have M_45 := k_X6_place l D cy mo H.size rn sn co bp ag pn lt mn pt tk mr od pl rm cd LD (rv x) jj (hI) (by omega) (hj) (hLb)
              refine kV_i (wr := [ai (cy 0) (mo 4) 24 rv, ai (cy 0) (mo 5) 24 sw, ai (cy 0) (mo 6) 24 GT, ai (cy 0) (mo 7) 24 SA]) (As := [.int (iI (rv x)), .int (iI jj)]) (rest := [.int (iI (rv x)), .ref (mo 6)]) (q := (RX6, TX6, 16)) (ci := 6) ⟨hx, hb, hml, hown, hts⟩ M_45 0 rfl rfl (cwV 2 hts gX6_pass_X6_place rfl rfl rfl (by decide +kernel) ⟨Nat.le_of_ble_eq_true rfl, Nat.le_of_ble_eq_true rfl⟩) hN hK hP hD hS hA [0, 1, 6] [2, 3, 4, 5] rfl rfl (by decide) (by decide) (by decide) rfl hl.1 rfl (Nat.le_of_ble_eq_true rfl) dX6_pass_45 ⟨Nat.le_of_ble_eq_true rfl, Nat.le_of_ble_eq_true rfl⟩ (fun r_45 u_45 H locs hw_45 hP hD hS => ?_)
              obtain ⟨v_1, rfl⟩ : ∃ z, z = u_45 := ⟨_, rfl⟩
              try dsimp only at hw_45
              replace hP : va_P D vwCl [ai (cy 0) (mo 4) 24 rv, ai (cy 0) (mo 5) 24 sw, ai (cy 0) (mo 6) 24 GT, ai (cy 0) (mo 7) 24 SA, oM mo rn sn co bp ag pn, ai (cy 0) (mo 1) 98 (stF lt mn pt tk mr od rm cd), ai (cy 0) (mo 8) 4 v_1] H := hP
              replace hD : va_D A [ai (cy 0) (mo 4) 24 rv, ai (cy 0) (mo 5) 24 sw, ai (cy 0) (mo 6) 24 GT, ai (cy 0) (mo 7) 24 SA, oM mo rn sn co bp ag pn, ai (cy 0) (mo 1) 98 (stF lt mn pt tk mr od rm cd), ai (cy 0) (mo 8) 4 v_1] := hD
              refine r_ast hx hb hK hP hD hS 2 rfl rfl ⟨by omega, by omega, by omega⟩ dX6_pass_48 (fun H locs hP hD hS => ?_)
              replace hP : va_P D vwCl [ai (cy 0) (mo 4) 24 rv, ai (cy 0) (mo 5) 24 sw, ai (cy 0) (mo 6) 24 (ud GT (rv x) r_45), ai (cy 0) (mo 7) 24 SA, oM mo rn sn co bp ag pn, ai (cy 0) (mo 1) 98 (stF lt mn pt tk mr od rm cd), ai (cy 0) (mo 8) 4 v_1] H := hP
              replace hD : va_D A [ai (cy 0) (mo 4) 24 rv, ai (cy 0) (mo 5) 24 sw, ai (cy 0) (mo 6) 24 (ud GT (rv x) r_45), ai (cy 0) (mo 7) 24 SA, oM mo rn sn co bp ag pn, ai (cy 0) (mo 1) 98 (stF lt mn pt tk mr od rm cd), ai (cy 0) (mo 8) 4 v_1] := hD
              refine lv_aload_n hx hb dX6_pass_49 rfl (lv_at hl 1 rfl) ?_
              refine va_get (D := D) (C := RX6) (T := TX6) (N := 16) (ci := 6) (v := .ref (mo 7)) hx hb hts iw_X6_pass_6 hown hK hP 4 rfl rfl 8 (by decide) (hts _ fl_X6_pass_29) (fun _ h9 => h9) rfl dX6_pass_50 ?_
              refine lv_iload_n hx hb dX6_pass_53 rfl (lv_at hl 0 rfl) ?_
              refine lv_aload_n hx hb dX6_pass_54 rfl (lv_at hl 1 rfl) ?_
              refine va_get (D := D) (C := RX6) (T := TX6) (N := 16) (ci := 6) (v := .ref (mo 6)) hx hb hts iw_X6_pass_6 hown hK hP 4 rfl rfl 7 (by decide) (hts _ fl_X6_pass_26) (fun _ h9 => h9) rfl dX6_pass_55 ?_
              refine lv_iload_n hx hb dX6_pass_58 rfl (lv_at hl 0 rfl) ?_
              refine r_ald hx hb hK hP 2 rfl rfl ⟨by omega, by omega, by omega⟩ dX6_pass_59 ?_
              refine r_top (r_45) (ud_at _ _ _) ?_
              refine r_ge0 hx hb 67 dX6_pass_60 (by decide) ⟨by omega, by omega⟩ (fun c_60 => ?_) (fun c_60 => ?_)
              ·
                refine r_const hx hb dX6_pass_67 ?_
                refine r_ast hx hb hK hP hD hS 3 rfl rfl ⟨by omega, by omega, by omega⟩ dX6_pass_68 (fun H locs hP hD hS => ?_)
                replace hP : va_P D vwCl [ai (cy 0) (mo 4) 24 rv, ai (cy 0) (mo 5) 24 sw, ai (cy 0) (mo 6) 24 (ud GT (rv x) r_45), ai (cy 0) (mo 7) 24 (ud SA (rv x) 0), oM mo rn sn co bp ag pn, ai (cy 0) (mo 1) 98 (stF lt mn pt tk mr od rm cd), ai (cy 0) (mo 8) 4 v_1] H := hP
                replace hD : va_D A [ai (cy 0) (mo 4) 24 rv, ai (cy 0) (mo 5) 24 sw, ai (cy 0) (mo 6) 24 (ud GT (rv x) r_45), ai (cy 0) (mo 7) 24 (ud SA (rv x) 0), oM mo rn sn co bp ag pn, ai (cy 0) (mo 1) 98 (stF lt mn pt tk mr od rm cd), ai (cy 0) (mo 8) 4 v_1] := hD
                refine r_inc (k := 3) (lv' := [(2, .int (iI (x + 1))), (3, .int (iI (rv x))), (0, .ref (mo 0)), (1, .int (iI jj))]) hx hb dX6_pass_69 hl rfl (by decide) rfl (fun ls hl => ?_)
                refine lv_goto (tgt := 22) hx hb dX6_pass_72 (by decide) ?_
                have hsq : 0 ≤ (stk pt cd mn (jj - 1).toNat) (rv x) := Int.emod_nonneg _ (by omega)
                exact ih_22 (x + 1) (ud GT (rv x) r_45) (ud SA (rv x) 0) v_1 (by omega) (MpP_s hmr g1.1 (nd_at hnd g1.1 (by omega)) gp (by have := hsq; omega) hw_45.1 (by omega)) (by omega) H locs (pick_P hP (is := [4, 5, 0, 1, 2, 3, 6]) rfl) (hD.sub [4, 5, 0, 1, 2, 3, 6] (by decide) rfl) hS ls (lv_sub hl [2, 3, 0] rfl)
              ·
                refine lv_iload_n hx hb dX6_pass_63 rfl (lv_at hl 2 rfl) ?_
                refine lv_goto (tgt := 68) hx hb dX6_pass_64 (by decide) ?_
                refine r_ast hx hb hK hP hD hS 3 rfl rfl ⟨by omega, by omega, by omega⟩ dX6_pass_68 (fun H locs hP hD hS => ?_)
                replace hP : va_P D vwCl [ai (cy 0) (mo 4) 24 rv, ai (cy 0) (mo 5) 24 sw, ai (cy 0) (mo 6) 24 (ud GT (rv x) r_45), ai (cy 0) (mo 7) 24 (ud SA (rv x) jj), oM mo rn sn co bp ag pn, ai (cy 0) (mo 1) 98 (stF lt mn pt tk mr od rm cd), ai (cy 0) (mo 8) 4 v_1] H := hP
                replace hD : va_D A [ai (cy 0) (mo 4) 24 rv, ai (cy 0) (mo 5) 24 sw, ai (cy 0) (mo 6) 24 (ud GT (rv x) r_45), ai (cy 0) (mo 7) 24 (ud SA (rv x) jj), oM mo rn sn co bp ag pn, ai (cy 0) (mo 1) 98 (stF lt mn pt tk mr od rm cd), ai (cy 0) (mo 8) 4 v_1] := hD
                refine r_inc (k := 3) (lv' := [(2, .int (iI (x + 1))), (3, .int (iI (rv x))), (0, .ref (mo 0)), (1, .int (iI jj))]) hx hb dX6_pass_69 hl rfl (by decide) rfl (fun ls hl => ?_)
                refine lv_goto (tgt := 22) hx hb dX6_pass_72 (by decide) ?_
                have hsq : 0 ≤ (stk pt cd mn (jj - 1).toNat) (rv x) := Int.emod_nonneg _ (by omega)
                exact ih_22 (x + 1) (ud GT (rv x) r_45) (ud SA (rv x) jj) v_1 (by omega) (MpP_s hmr g1.1 (nd_at hnd g1.1 (by omega)) gp (by have := hsq; omega) hw_45.1 (by omega)) (by omega) H locs (pick_P hP (is := [4, 5, 0, 1, 2, 3, 6]) rfl) (hD.sub [4, 5, 0, 1, 2, 3, 6] (by decide) rfl) hS ls (lv_sub hl [2, 3, 0] rfl)
        exact lp_22 _ 0 gt sa (fun _ => 0) (by omega) (MpP_0 _ _ _ _ _ _ _) (Nat.lt_succ_self _) H locs (pick_P hP (is := [0, 1, 2, 3, 4, 5, 6]) rfl) (hD.sub [0, 1, 2, 3, 4, 5, 6] (by decide) rfl) hS ls (lv_sub hl [1, 2, 0] rfl)
      ·
        refine lv_aload_n hx hb dX6_pass_7 rfl (lv_at hl 0 rfl) ?_
        refine va_get (D := D) (C := RX6) (T := TX6) (N := 16) (ci := 6) (v := .ref (mo 8)) hx hb hts iw_X6_pass_6 hown hK hP 0 rfl rfl 9 (by decide) (hts _ fl_X6_pass_32) (fun _ h9 => h9) rfl dX6_pass_8 ?_
        refine lv_iload_n hx hb dX6_pass_11 rfl (lv_at hl 2 rfl) ?_
        refine r_const hx hb dX6_pass_12 ?_
        refine r_ast hx hb hK hP hD hS 6 rfl rfl ⟨by omega, by omega, by omega⟩ dX6_pass_13 (fun H locs hP hD hS => ?_)
        replace hP : va_P D vwCl [oM mo rn sn co bp ag pn, ai (cy 0) (mo 1) 98 (stF lt mn pt tk mr od rm cd), ai (cy 0) (mo 4) 24 rv, ai (cy 0) (mo 5) 24 sw, ai (cy 0) (mo 6) 24 gt, ai (cy 0) (mo 7) 24 sa, ai (cy 0) (mo 8) 4 (ud B i 0)] H := hP
        replace hD : va_D A [oM mo rn sn co bp ag pn, ai (cy 0) (mo 1) 98 (stF lt mn pt tk mr od rm cd), ai (cy 0) (mo 4) 24 rv, ai (cy 0) (mo 5) 24 sw, ai (cy 0) (mo 6) 24 gt, ai (cy 0) (mo 7) 24 sa, ai (cy 0) (mo 8) 4 (ud B i 0)] := hD
        refine r_inc (k := 2) (lv' := [(2, .int (iI (i + 1))), (0, .ref (mo 0)), (1, .int (iI jj))]) hx hb dX6_pass_14 hl rfl (by decide) rfl (fun ls hl => ?_)
        refine lv_goto (tgt := 2) hx hb dX6_pass_17 (by decide) ?_
        exact ih_2 (i + 1) (ud B i 0) (by omega) (fun s q1 q2 => by by_cases e : s = i; (subst e; exact ud_at _ _ _); (rw [ud_ne e]; exact h2 s q1 (by omega))) (by omega) H locs (pick_P hP (is := [0, 1, 2, 3, 4, 5, 6]) rfl) (hD.sub [0, 1, 2, 3, 4, 5, 6] (by decide) rfl) hS ls (lv_sub hl [1, 2, 0] rfl)
  exact lp_2 _ 0 ld (by omega) (fun s q1 q2 => by omega) (Nat.lt_succ_self _) H locs (pick_P hP (is := [0, 1, 2, 3, 4, 5, 6]) rfl) (hD.sub [0, 1, 2, 3, 4, 5, 6] (by decide) rfl) hS ls (lv_sub hl [1, 2, 0] rfl)
abbrev rm_X6_goRun : Room := { frames := 3, cells := 0, slots := 0, locals := 70 }
theorem fl_X6_goRun_7 : Cond.fieldLink RX6 7 "WalkPassesModel" "state" "[I" ∈ wsX6_goRun := by decide +kernel
theorem fl_X6_goRun_20 : Cond.fieldLink RX6 20 "WalkPassesModel" "row" "[I" ∈ wsX6_goRun := by decide +kernel
theorem fl_X6_goRun_70 : Cond.fieldLink RX6 70 "WalkPassesModel" "rowMany" "I" ∈ wsX6_goRun := by decide +kernel
theorem iw_X6_goRun_6 : ∀ w ∈ u_ws RX6 TX6 16, w ∈ wsX6_goRun := by decide +kernel
set_option maxHeartbeats 4000000 in
set_option maxRecDepth 100000 in
theorem k_X6_goRun (l : Launch) (D : va_G) (cy : Nat → ClassId) (mo : Nat → Nat) (z : Nat) (rn sn co bp ag pn : Int) (lt mn : Int) (pt tk mr od pl rm cd : Int → Int) (rv sw gt sa ld : Int → Int) (k : Int) (hI : DI lt mn pt tk mr od pl rm cd) (hk : 1 ≤ k ∧ k ≤ 3) : CtV l yX6_goRun wsX6_goRun rm_X6_goRun D (tyL cy) [.ref (mo 0), .int (iI k)] [oM mo rn sn co bp ag pn, ai (cy 0) (mo 1) 98 (stF lt mn pt tk mr od rm cd), ai (cy 0) (mo 4) 24 rv, ai (cy 0) (mo 5) 24 sw, ai (cy 0) (mo 6) 24 gt, ai (cy 0) (mo 7) 24 sa, ai (cy 0) (mo 8) 4 ld] z (fun (u : Int × Int × (Int → Int) × (Int → Int) × (Int → Int) × (Int → Int) × (Int → Int)) => RnP lt mn pt tk mr rm cd k.toNat u.1 u.2.2.1 u.2.2.2.2.2.1 u.2.2.2.2.2.2) (fun (u : Int × Int × (Int → Int) × (Int → Int) × (Int → Int) × (Int → Int) × (Int → Int)) => [oM mo u.1 u.2.1 co bp ag pn, ai (cy 0) (mo 1) 98 (stF lt mn pt tk mr od rm cd), ai (cy 0) (mo 4) 24 u.2.2.1, ai (cy 0) (mo 5) 24 u.2.2.2.1, ai (cy 0) (mo 6) 24 u.2.2.2.2.1, ai (cy 0) (mo 7) 24 u.2.2.2.2.2.1, ai (cy 0) (mo 8) 4 u.2.2.2.2.2.2]) 0 0 := by
  refine ct_v (cc := cX6_goRun) (maxL := 3) (by decide) rfl (Nat.le_of_ble_eq_true rfl) ?_
  intro p e s m args below meth c A Q H locs ls hx hb hml hown hin hts hK hN hP hD hS hA hl hret
  replace hl : lv_has ls 3 [(0, .ref (mo 0)), (1, .int (iI k))] := hl
  replace hown : s.vm.findClass RX6 = some m.cls := hown
  obtain ⟨⟨⟨hlt0, hlt1⟩, hmn0, hmn1⟩, ⟨hpt, htk, hmr⟩, ⟨hod, hpl, hpo, hop⟩, hrm, hcd⟩ := id hI
  refine lv_aload_n hx hb dX6_goRun_0 rfl (lv_at hl 0 rfl) ?_
  refine lv_aload_n hx hb dX6_goRun_1 rfl (lv_at hl 0 rfl) ?_
  refine va_get (D := D) (C := RX6) (T := TX6) (N := 16) (ci := 6) (v := .ref (mo 1)) hx hb hts iw_X6_goRun_6 hown hK hP 0 rfl rfl 0 (by decide) (hts _ fl_X6_goRun_7) (fun _ h9 => h9) rfl dX6_goRun_2 ?_
  refine r_bip hx hb (25) dX6_goRun_5 (by decide) ?_
  refine r_ald hx hb hK hP 1 rfl rfl ⟨by omega, by omega, by omega⟩ dX6_goRun_7 ?_
  refine r_top (lt) (stF_lt (by omega)) ?_
  refine va_put (D := D) (C := RX6) (T := TX6) (N := 16) (ci := 6) (v := .int (iI lt)) (ty := .int) hx hb hts iw_X6_goRun_6 tyX6 tyX6_ok nmX6 hown hK hP hD hS 0 rfl rfl 4 (by decide) (hts _ fl_X6_goRun_70) (fun _ h9 => h9) rfl (by decide +kernel) rfl rfl (Nat.le_of_ble_eq_true rfl) dX6_goRun_8 (fun H locs hP hD hS => ?_)
  replace hP : va_P D vwCl [oM mo lt sn co bp ag pn, ai (cy 0) (mo 1) 98 (stF lt mn pt tk mr od rm cd), ai (cy 0) (mo 4) 24 rv, ai (cy 0) (mo 5) 24 sw, ai (cy 0) (mo 6) 24 gt, ai (cy 0) (mo 7) 24 sa, ai (cy 0) (mo 8) 4 ld] H := hP
  replace hD : va_D A [oM mo lt sn co bp ag pn, ai (cy 0) (mo 1) 98 (stF lt mn pt tk mr od rm cd), ai (cy 0) (mo 4) 24 rv, ai (cy 0) (mo 5) 24 sw, ai (cy 0) (mo 6) 24 gt, ai (cy 0) (mo 7) 24 sa, ai (cy 0) (mo 8) 4 ld] := hD
  refine r_const hx hb dX6_goRun_11 ?_
  refine lv_istore_n (lv' := [(2, .int (iI 0)), (0, .ref (mo 0)), (1, .int (iI k))]) hx hb dX6_goRun_12 rfl hl (by decide) rfl (fun ls hl => ?_)
  have lp_13 : ∀ (fu : Nat) (i : Int) (RV : Int → Int), (0 ≤ i ∧ i ≤ lt) → (∀ t, 0 ≤ t → t < i → RV t = t) → (lt - i).toNat < fu → ∀ (H : Heap) (locs : List Loc), va_P D vwCl [oM mo lt sn co bp ag pn, ai (cy 0) (mo 1) 98 (stF lt mn pt tk mr od rm cd), ai (cy 0) (mo 4) 24 RV, ai (cy 0) (mo 5) 24 sw, ai (cy 0) (mo 6) 24 gt, ai (cy 0) (mo 7) 24 sa, ai (cy 0) (mo 8) 4 ld] H → va_D A [oM mo lt sn co bp ag pn, ai (cy 0) (mo 1) 98 (stF lt mn pt tk mr od rm cd), ai (cy 0) (mo 4) 24 RV, ai (cy 0) (mo 5) 24 sw, ai (cy 0) (mo 6) 24 gt, ai (cy 0) (mo 7) 24 sa, ai (cy 0) (mo 8) 4 ld] → va_S A s.heap H locs → ∀ (ls : Array Slot), lv_has ls 3 [(0, .ref (mo 0)), (1, .int (iI k)), (2, .int (iI i))] → W p l e rm_X6_goRun s m args below meth c H locs 0 0 Q (F0 m 13 ls []) := by
    intro fu
    induction fu with
    | zero =>
      intro i RV h1 h2 hm
      exact absurd hm (Nat.not_lt_zero _)
    | succ fu ih_13 =>
      intro i RV h1 h2 hm H locs hP hD hS ls hl
      refine lv_iload_n hx hb dX6_goRun_13 rfl (lv_at hl 2 rfl) ?_
      refine lv_aload_n hx hb dX6_goRun_14 rfl (lv_at hl 0 rfl) ?_
      refine va_get (D := D) (C := RX6) (T := TX6) (N := 16) (ci := 6) (v := .int (iI lt)) hx hb hts iw_X6_goRun_6 hown hK hP 0 rfl rfl 4 (by decide) (hts _ fl_X6_goRun_70) (fun _ h9 => h9) rfl dX6_goRun_15 ?_
      refine r_ge hx hb 34 dX6_goRun_18 (by decide) ⟨by omega, by omega⟩ ⟨by omega, by omega⟩ (fun c_18 => ?_) (fun c_18 => ?_)
      ·
        refine r_const hx hb dX6_goRun_34 ?_
        refine lv_istore_n (lv' := [(2, .int (iI 1)), (0, .ref (mo 0)), (1, .int (iI k))]) hx hb dX6_goRun_35 rfl hl (by decide) rfl (fun ls hl => ?_)
        have lp_36 : ∀ (fu : Nat) (j : Int) (n1 : Int) (n2 : Int) (R1 : Int → Int) (SW : Int → Int) (GT : Int → Int) (SA : Int → Int) (LD : Int → Int), (1 ≤ j ∧ j ≤ k + 1) → ((j = 1 ∧ n1 = lt ∧ lst R1 n1.toNat = lst (fun i => i) lt.toNat) ∨ (2 ≤ j ∧ RnP lt mn pt tk mr rm cd (j - 1).toNat n1 R1 SA LD)) → (k + 1 - j).toNat < fu → ∀ (H : Heap) (locs : List Loc), va_P D vwCl [oM mo n1 n2 co bp ag pn, ai (cy 0) (mo 1) 98 (stF lt mn pt tk mr od rm cd), ai (cy 0) (mo 4) 24 R1, ai (cy 0) (mo 5) 24 SW, ai (cy 0) (mo 6) 24 GT, ai (cy 0) (mo 7) 24 SA, ai (cy 0) (mo 8) 4 LD] H → va_D A [oM mo n1 n2 co bp ag pn, ai (cy 0) (mo 1) 98 (stF lt mn pt tk mr od rm cd), ai (cy 0) (mo 4) 24 R1, ai (cy 0) (mo 5) 24 SW, ai (cy 0) (mo 6) 24 GT, ai (cy 0) (mo 7) 24 SA, ai (cy 0) (mo 8) 4 LD] → va_S A s.heap H locs → ∀ (ls : Array Slot), lv_has ls 3 [(0, .ref (mo 0)), (1, .int (iI k)), (2, .int (iI j))] → W p l e rm_X6_goRun s m args below meth c H locs 0 0 Q (F0 m 36 ls []) := by
          intro fu
          induction fu with
          | zero =>
            intro j n1 n2 R1 SW GT SA LD g1 g2 hm
            exact absurd hm (Nat.not_lt_zero _)
          | succ fu ih_36 =>
            intro j n1 n2 R1 SW GT SA LD g1 g2 hm H locs hP hD hS ls hl
            have gq := gr_facts hlt0 hlt1 g2
            refine lv_iload_n hx hb dX6_goRun_36 rfl (lv_at hl 2 rfl) ?_
            refine lv_iload_n hx hb dX6_goRun_37 rfl (lv_at hl 1 rfl) ?_
            refine r_gt hx hb 52 dX6_goRun_38 (by decide) ⟨by omega, by omega⟩ ⟨by omega, by omega⟩ (fun c_38 => ?_) (fun c_38 => ?_)
            ·
              exact hret [0, 1, 2, 3, 4, 5, 6] (n1, n2, R1, SW, GT, SA, LD) dX6_goRun_52 hP hD hS (by decide) rfl (by rcases g2 with ⟨z, -⟩ | ⟨-, z⟩; (exact absurd z (by omega)); (rw [show k.toNat = (j - 1).toNat by omega]; exact z))
            ·
              refine lv_aload_n hx hb dX6_goRun_41 rfl (lv_at hl 0 rfl) ?_
              refine lv_iload_n hx hb dX6_goRun_42 rfl (lv_at hl 2 rfl) ?_
              have M_43 := k_X6_pass l D cy mo H.size n1 n2 co bp ag pn lt mn pt tk mr od pl rm cd R1 SW GT SA LD j (hI) (by omega) (gq.1) (gq.2.1) (gq.2.2.1)
              refine kV_v (wr := []) (As := [.int (iI j)]) (rest := []) (q := (RX6, TX6, 16)) (ci := 6) ⟨hx, hb, hml, hown, hts⟩ M_43 0 rfl rfl (cwV 1 hts gX6_goRun_X6_pass rfl rfl rfl (by decide +kernel) ⟨Nat.le_of_ble_eq_true rfl, Nat.le_of_ble_eq_true rfl⟩) hN hK hP hD hS hA [0, 1, 2, 3, 4, 5, 6] [] rfl rfl (by decide) (by decide) (by decide) rfl hl.1 rfl (Nat.le_of_ble_eq_true rfl) dX6_goRun_43 ⟨Nat.le_of_ble_eq_true rfl, Nat.le_of_ble_eq_true rfl⟩ (fun u_43 H locs hw_43 hP hD hS => ?_)
              obtain ⟨v_1, v_2, v_3, v_4, v_5, v_6, v_7⟩ := u_43
              try dsimp only at hw_43
              replace hP : va_P D vwCl [oM mo v_1 v_2 co bp ag pn, ai (cy 0) (mo 1) 98 (stF lt mn pt tk mr od rm cd), ai (cy 0) (mo 4) 24 v_3, ai (cy 0) (mo 5) 24 v_4, ai (cy 0) (mo 6) 24 v_5, ai (cy 0) (mo 7) 24 v_6, ai (cy 0) (mo 8) 4 v_7] H := hP
              replace hD : va_D A [oM mo v_1 v_2 co bp ag pn, ai (cy 0) (mo 1) 98 (stF lt mn pt tk mr od rm cd), ai (cy 0) (mo 4) 24 v_3, ai (cy 0) (mo 5) 24 v_4, ai (cy 0) (mo 6) 24 v_5, ai (cy 0) (mo 7) 24 v_6, ai (cy 0) (mo 8) 4 v_7] := hD
              refine r_inc (k := 2) (lv' := [(2, .int (iI (j + 1))), (0, .ref (mo 0)), (1, .int (iI k))]) hx hb dX6_goRun_46 hl rfl (by decide) rfl (fun ls hl => ?_)
              refine lv_goto (tgt := 36) hx hb dX6_goRun_49 (by decide) ?_
              exact ih_36 (j + 1) v_1 v_2 v_3 v_4 v_5 v_6 v_7 (by omega) (Or.inr ⟨by omega, by rw [show (j + 1 - 1).toNat = (j - 1).toNat + 1 by omega]; exact RnP_ms hmr gq.2.2.2 (by omega) hw_43.1 hw_43.2⟩) (by omega) H locs (pick_P hP (is := [0, 1, 2, 3, 4, 5, 6]) rfl) (hD.sub [0, 1, 2, 3, 4, 5, 6] (by decide) rfl) hS ls (lv_sub hl [1, 2, 0] rfl)
        exact lp_36 _ 1 lt sn RV sw gt sa ld (by omega) (Or.inl ⟨rfl, rfl, lst_congr (fun t q1 q2 => h2 t q1 (by omega))⟩) (Nat.lt_succ_self _) H locs (pick_P hP (is := [0, 1, 2, 3, 4, 5, 6]) rfl) (hD.sub [0, 1, 2, 3, 4, 5, 6] (by decide) rfl) hS ls (lv_sub hl [1, 2, 0] rfl)
      ·
        refine lv_aload_n hx hb dX6_goRun_21 rfl (lv_at hl 0 rfl) ?_
        refine va_get (D := D) (C := RX6) (T := TX6) (N := 16) (ci := 6) (v := .ref (mo 4)) hx hb hts iw_X6_goRun_6 hown hK hP 0 rfl rfl 3 (by decide) (hts _ fl_X6_goRun_20) (fun _ h9 => h9) rfl dX6_goRun_22 ?_
        refine lv_iload_n hx hb dX6_goRun_25 rfl (lv_at hl 2 rfl) ?_
        refine lv_iload_n hx hb dX6_goRun_26 rfl (lv_at hl 2 rfl) ?_
        refine r_ast hx hb hK hP hD hS 2 rfl rfl ⟨by omega, by omega, by omega⟩ dX6_goRun_27 (fun H locs hP hD hS => ?_)
        replace hP : va_P D vwCl [oM mo lt sn co bp ag pn, ai (cy 0) (mo 1) 98 (stF lt mn pt tk mr od rm cd), ai (cy 0) (mo 4) 24 (ud RV i i), ai (cy 0) (mo 5) 24 sw, ai (cy 0) (mo 6) 24 gt, ai (cy 0) (mo 7) 24 sa, ai (cy 0) (mo 8) 4 ld] H := hP
        replace hD : va_D A [oM mo lt sn co bp ag pn, ai (cy 0) (mo 1) 98 (stF lt mn pt tk mr od rm cd), ai (cy 0) (mo 4) 24 (ud RV i i), ai (cy 0) (mo 5) 24 sw, ai (cy 0) (mo 6) 24 gt, ai (cy 0) (mo 7) 24 sa, ai (cy 0) (mo 8) 4 ld] := hD
        refine r_inc (k := 2) (lv' := [(2, .int (iI (i + 1))), (0, .ref (mo 0)), (1, .int (iI k))]) hx hb dX6_goRun_28 hl rfl (by decide) rfl (fun ls hl => ?_)
        refine lv_goto (tgt := 13) hx hb dX6_goRun_31 (by decide) ?_
        exact ih_13 (i + 1) (ud RV i i) (by omega) (fun s q1 q2 => by by_cases e : s = i; (subst e; exact ud_at _ _ _); (rw [ud_ne e]; exact h2 s q1 (by omega))) (by omega) H locs (pick_P hP (is := [0, 1, 2, 3, 4, 5, 6]) rfl) (hD.sub [0, 1, 2, 3, 4, 5, 6] (by decide) rfl) hS ls (lv_sub hl [1, 2, 0] rfl)
  exact lp_13 _ 0 rv (by omega) (fun t q1 q2 => by omega) (Nat.lt_succ_self _) H locs (pick_P hP (is := [0, 1, 2, 3, 4, 5, 6]) rfl) (hD.sub [0, 1, 2, 3, 4, 5, 6] (by decide) rfl) hS ls (lv_sub hl [1, 2, 0] rfl)
abbrev rm_X6_wrong : Room := { frames := 1, cells := 0, slots := 0, locals := 23 }
theorem fl_X6_wrong_7 : Cond.fieldLink RX6 7 "WalkPassesModel" "state" "[I" ∈ wsX6_wrong := by decide +kernel
theorem fl_X6_wrong_20 : Cond.fieldLink RX6 20 "WalkPassesModel" "row" "[I" ∈ wsX6_wrong := by decide +kernel
theorem fl_X6_wrong_70 : Cond.fieldLink RX6 70 "WalkPassesModel" "rowMany" "I" ∈ wsX6_wrong := by decide +kernel
theorem iw_X6_wrong_6 : ∀ w ∈ u_ws RX6 TX6 16, w ∈ wsX6_wrong := by decide +kernel
set_option maxHeartbeats 4000000 in
set_option maxRecDepth 100000 in
theorem k_X6_wrong (l : Launch) (D : va_G) (cy : Nat → ClassId) (mo : Nat → Nat) (z : Nat) (rn sn co bp ag pn : Int) (lt mn : Int) (pt tk mr od pl rm cd : Int → Int) (rv : Int → Int) (hI : DI lt mn pt tk mr od pl rm cd) (hrn : 0 ≤ rn ∧ rn ≤ 24) (hrv : ∀ i, 0 ≤ i → i < rn → 0 ≤ rv i ∧ rv i < lt) : CtI l yX6_wrong wsX6_wrong rm_X6_wrong D (tyL cy) [.ref (mo 0)] [oM mo rn sn co bp ag pn, ai (cy 0) (mo 1) 98 (stF lt mn pt tk mr od rm cd), ai (cy 0) (mo 4) 24 rv] z (fun (r : Int) (u : Unit) => r = wrS (fun i => pl (pt (rv i))) rn.toNat) (fun (u : Unit) => [oM mo rn sn co bp ag pn, ai (cy 0) (mo 1) 98 (stF lt mn pt tk mr od rm cd), ai (cy 0) (mo 4) 24 rv]) 0 0 := by
  refine ct_i (cc := cX6_wrong) (maxL := 4) (by decide) rfl (Nat.le_of_ble_eq_true rfl) ?_
  intro p e s m args below meth c A Q H locs ls hx hb hml hown hin hts hK hN hP hD hS hA hl hret
  replace hl : lv_has ls 4 [(0, .ref (mo 0))] := hl
  replace hown : s.vm.findClass RX6 = some m.cls := hown
  obtain ⟨⟨⟨hlt0, hlt1⟩, hmn0, hmn1⟩, ⟨hpt, htk, hmr⟩, ⟨hod, hpl, hpo, hop⟩, hrm, hcd⟩ := id hI
  refine r_const hx hb dX6_wrong_0 ?_
  refine lv_istore_n (lv' := [(1, .int (iI 0)), (0, .ref (mo 0))]) hx hb dX6_wrong_1 rfl hl (by decide) rfl (fun ls hl => ?_)
  refine r_const hx hb dX6_wrong_2 ?_
  refine lv_istore_n (lv' := [(2, .int (iI 0)), (1, .int (iI 0)), (0, .ref (mo 0))]) hx hb dX6_wrong_3 rfl hl (by decide) rfl (fun ls hl => ?_)
  have lp_4 : ∀ (fu : Nat) (g : Int) (i : Int), (0 ≤ i ∧ i ≤ rn) → (g = sumTo (fun i => sumTo (fun j => if i < j ∧ (fun i => pl (pt (rv i))) j < (fun i => pl (pt (rv i))) i then 1 else 0) rn.toNat) i.toNat) → (rn - i).toNat < fu → ∀ (H : Heap) (locs : List Loc), va_P D vwCl [oM mo rn sn co bp ag pn, ai (cy 0) (mo 1) 98 (stF lt mn pt tk mr od rm cd), ai (cy 0) (mo 4) 24 rv] H → va_D A [oM mo rn sn co bp ag pn, ai (cy 0) (mo 1) 98 (stF lt mn pt tk mr od rm cd), ai (cy 0) (mo 4) 24 rv] → va_S A s.heap H locs → ∀ (ls : Array Slot), lv_has ls 4 [(0, .ref (mo 0)), (1, .int (iI g)), (2, .int (iI i))] → W p l e rm_X6_wrong s m args below meth c H locs 0 0 Q (F0 m 4 ls []) := by
    intro fu
    induction fu with
    | zero =>
      intro g i h1 h2 hm
      exact absurd hm (Nat.not_lt_zero _)
    | succ fu ih_4 =>
      intro g i h1 h2 hm H locs hP hD hS ls hl
      refine lv_iload_n hx hb dX6_wrong_4 rfl (lv_at hl 2 rfl) ?_
      refine lv_aload_n hx hb dX6_wrong_5 rfl (lv_at hl 0 rfl) ?_
      refine va_get (D := D) (C := RX6) (T := TX6) (N := 16) (ci := 6) (v := .int (iI rn)) hx hb hts iw_X6_wrong_6 hown hK hP 0 rfl rfl 4 (by decide) (hts _ fl_X6_wrong_70) (fun _ h9 => h9) rfl dX6_wrong_6 ?_
      refine r_ge hx hb 83 dX6_wrong_9 (by decide) ⟨by omega, by omega⟩ ⟨by omega, by omega⟩ (fun c_9 => ?_) (fun c_9 => ?_)
      ·
        refine lv_iload_n hx hb dX6_wrong_83 rfl (lv_at hl 1 rfl) ?_
        exact hret [0, 1, 2] () dX6_wrong_84 hP hD hS (by decide) rfl (by rw [h2, show i.toNat = rn.toNat by omega]; exact wrM _ _)
      ·
        refine lv_iload_n hx hb dX6_wrong_12 rfl (lv_at hl 2 rfl) ?_
        refine r_const hx hb dX6_wrong_13 ?_
        refine r_add hx hb dX6_wrong_14 ?_
        refine lv_istore_n (lv' := [(3, .int (iI (i + 1))), (0, .ref (mo 0)), (1, .int (iI g)), (2, .int (iI i))]) hx hb dX6_wrong_15 rfl hl (by decide) rfl (fun ls hl => ?_)
        have lp_16 : ∀ (fu : Nat) (ge : Int) (t : Int), (i + 1 ≤ t ∧ t ≤ rn) → (ge = g + sumTo (fun j => if i < j ∧ (fun i => pl (pt (rv i))) j < (fun i => pl (pt (rv i))) i then 1 else 0) t.toNat) → (rn - t).toNat < fu → ∀ (H : Heap) (locs : List Loc), va_P D vwCl [oM mo rn sn co bp ag pn, ai (cy 0) (mo 1) 98 (stF lt mn pt tk mr od rm cd), ai (cy 0) (mo 4) 24 rv] H → va_D A [oM mo rn sn co bp ag pn, ai (cy 0) (mo 1) 98 (stF lt mn pt tk mr od rm cd), ai (cy 0) (mo 4) 24 rv] → va_S A s.heap H locs → ∀ (ls : Array Slot), lv_has ls 4 [(0, .ref (mo 0)), (1, .int (iI ge)), (2, .int (iI i)), (3, .int (iI t))] → W p l e rm_X6_wrong s m args below meth c H locs 0 0 Q (F0 m 16 ls []) := by
          intro fu
          induction fu with
          | zero =>
            intro ge t m1 m2 hm
            exact absurd hm (Nat.not_lt_zero _)
          | succ fu ih_16 =>
            intro ge t m1 m2 hm H locs hP hD hS ls hl
            refine lv_iload_n hx hb dX6_wrong_16 rfl (lv_at hl 3 rfl) ?_
            refine lv_aload_n hx hb dX6_wrong_17 rfl (lv_at hl 0 rfl) ?_
            refine va_get (D := D) (C := RX6) (T := TX6) (N := 16) (ci := 6) (v := .int (iI rn)) hx hb hts iw_X6_wrong_6 hown hK hP 0 rfl rfl 4 (by decide) (hts _ fl_X6_wrong_70) (fun _ h9 => h9) rfl dX6_wrong_18 ?_
            refine r_ge hx hb 77 dX6_wrong_21 (by decide) ⟨by omega, by omega⟩ ⟨by omega, by omega⟩ (fun c_21 => ?_) (fun c_21 => ?_)
            ·
              refine r_inc (k := 2) (lv' := [(2, .int (iI (i + 1))), (0, .ref (mo 0)), (1, .int (iI ge)), (3, .int (iI t))]) hx hb dX6_wrong_77 hl rfl (by decide) rfl (fun ls hl => ?_)
              refine lv_goto (tgt := 4) hx hb dX6_wrong_80 (by decide) ?_
              exact ih_4 ge (i + 1) (by omega) (by rw [sumTo_s h1.1, ← h2, m2, show t.toNat = rn.toNat by omega]) (by omega) H locs (pick_P hP (is := [0, 1, 2]) rfl) (hD.sub [0, 1, 2] (by decide) rfl) hS ls (lv_sub hl [1, 2, 0] rfl)
            ·
              refine lv_iload_n hx hb dX6_wrong_24 rfl (lv_at hl 1 rfl) ?_
              have ho1 := hrv t (by omega) (by omega)
              have ho2 := hrv i (by omega) (by omega)
              have hp1 := hpl (pt (rv t))
              have hp2 := hpl (pt (rv i))
              refine lv_aload_n hx hb dX6_wrong_25 rfl (lv_at hl 0 rfl) ?_
              refine lv_aload_n hx hb dX6_wrong_26 rfl (lv_at hl 0 rfl) ?_
              refine va_get (D := D) (C := RX6) (T := TX6) (N := 16) (ci := 6) (v := .ref (mo 1)) hx hb hts iw_X6_wrong_6 hown hK hP 0 rfl rfl 0 (by decide) (hts _ fl_X6_wrong_7) (fun _ h9 => h9) rfl dX6_wrong_27 ?_
              refine r_bip hx hb (26) dX6_wrong_30 (by decide) ?_
              refine lv_aload_n hx hb dX6_wrong_32 rfl (lv_at hl 0 rfl) ?_
              refine va_get (D := D) (C := RX6) (T := TX6) (N := 16) (ci := 6) (v := .ref (mo 4)) hx hb hts iw_X6_wrong_6 hown hK hP 0 rfl rfl 3 (by decide) (hts _ fl_X6_wrong_20) (fun _ h9 => h9) rfl dX6_wrong_33 ?_
              refine lv_iload_n hx hb dX6_wrong_36 rfl (lv_at hl 3 rfl) ?_
              refine r_ald hx hb hK hP 2 rfl rfl ⟨by omega, by omega, by omega⟩ dX6_wrong_37 ?_
              refine r_add hx hb dX6_wrong_38 ?_
              refine r_ald hx hb hK hP 1 rfl rfl ⟨by omega, by omega, by omega⟩ dX6_wrong_39 ?_
              refine r_top (pt (rv t)) (stF_pt (by omega) (by omega) (by omega)) ?_
              have b_39 := hpt (rv t)
              have M_40 := k_X6_placeOf l D cy mo H.size rn sn co bp ag pn lt mn pt tk mr od pl rm cd (pt (rv t)) (hI) (by omega)
              refine kV_i (wr := [ai (cy 0) (mo 4) 24 rv]) (As := [.int (iI (pt (rv t)))]) (rest := [.int (iI ge)]) (q := (RX6, TX6, 16)) (ci := 6) ⟨hx, hb, hml, hown, hts⟩ M_40 0 rfl rfl (cwV 1 hts gX6_wrong_X6_placeOf rfl rfl rfl (by decide +kernel) ⟨Nat.le_of_ble_eq_true rfl, Nat.le_of_ble_eq_true rfl⟩) hN hK hP hD hS hA [0, 1] [2] rfl rfl (by decide) (by decide) (by decide) rfl hl.1 rfl (Nat.le_of_ble_eq_true rfl) dX6_wrong_40 ⟨Nat.le_of_ble_eq_true rfl, Nat.le_of_ble_eq_true rfl⟩ (fun r_40 u_40 H locs hw_40 hP hD hS => ?_)
              replace hP : va_P D vwCl [ai (cy 0) (mo 4) 24 rv, oM mo rn sn co bp ag pn, ai (cy 0) (mo 1) 98 (stF lt mn pt tk mr od rm cd)] H := hP
              replace hD : va_D A [ai (cy 0) (mo 4) 24 rv, oM mo rn sn co bp ag pn, ai (cy 0) (mo 1) 98 (stF lt mn pt tk mr od rm cd)] := hD
              subst hw_40
              refine lv_aload_n hx hb dX6_wrong_43 rfl (lv_at hl 0 rfl) ?_
              refine lv_aload_n hx hb dX6_wrong_44 rfl (lv_at hl 0 rfl) ?_
              refine va_get (D := D) (C := RX6) (T := TX6) (N := 16) (ci := 6) (v := .ref (mo 1)) hx hb hts iw_X6_wrong_6 hown hK hP 1 rfl rfl 0 (by decide) (hts _ fl_X6_wrong_7) (fun _ h9 => h9) rfl dX6_wrong_45 ?_
              refine r_bip hx hb (26) dX6_wrong_48 (by decide) ?_
              refine lv_aload_n hx hb dX6_wrong_50 rfl (lv_at hl 0 rfl) ?_
              refine va_get (D := D) (C := RX6) (T := TX6) (N := 16) (ci := 6) (v := .ref (mo 4)) hx hb hts iw_X6_wrong_6 hown hK hP 1 rfl rfl 3 (by decide) (hts _ fl_X6_wrong_20) (fun _ h9 => h9) rfl dX6_wrong_51 ?_
              refine lv_iload_n hx hb dX6_wrong_54 rfl (lv_at hl 2 rfl) ?_
              refine r_ald hx hb hK hP 0 rfl rfl ⟨by omega, by omega, by omega⟩ dX6_wrong_55 ?_
              refine r_add hx hb dX6_wrong_56 ?_
              refine r_ald hx hb hK hP 2 rfl rfl ⟨by omega, by omega, by omega⟩ dX6_wrong_57 ?_
              refine r_top (pt (rv i)) (stF_pt (by omega) (by omega) (by omega)) ?_
              have b_57 := hpt (rv i)
              have M_58 := k_X6_placeOf l D cy mo H.size rn sn co bp ag pn lt mn pt tk mr od pl rm cd (pt (rv i)) (hI) (by omega)
              refine kV_i (wr := [ai (cy 0) (mo 4) 24 rv]) (As := [.int (iI (pt (rv i)))]) (rest := [.int (iI (pl (pt (rv t)))), .int (iI ge)]) (q := (RX6, TX6, 16)) (ci := 6) ⟨hx, hb, hml, hown, hts⟩ M_58 1 rfl rfl (cwV 1 hts gX6_wrong_X6_placeOf rfl rfl rfl (by decide +kernel) ⟨Nat.le_of_ble_eq_true rfl, Nat.le_of_ble_eq_true rfl⟩) hN hK hP hD hS hA [1, 2] [0] rfl rfl (by decide) (by decide) (by decide) rfl hl.1 rfl (Nat.le_of_ble_eq_true rfl) dX6_wrong_58 ⟨Nat.le_of_ble_eq_true rfl, Nat.le_of_ble_eq_true rfl⟩ (fun r_58 u_58 H locs hw_58 hP hD hS => ?_)
              replace hP : va_P D vwCl [ai (cy 0) (mo 4) 24 rv, oM mo rn sn co bp ag pn, ai (cy 0) (mo 1) 98 (stF lt mn pt tk mr od rm cd)] H := hP
              replace hD : va_D A [ai (cy 0) (mo 4) 24 rv, oM mo rn sn co bp ag pn, ai (cy 0) (mo 1) 98 (stF lt mn pt tk mr od rm cd)] := hD
              subst hw_58
              refine r_ge hx hb 68 dX6_wrong_61 (by decide) ⟨by omega, by omega⟩ ⟨by omega, by omega⟩ (fun c_61 => ?_) (fun c_61 => ?_)
              ·
                refine r_const hx hb dX6_wrong_68 ?_
                refine r_add hx hb dX6_wrong_69 ?_
                refine lv_istore_n (lv' := [(1, .int (iI (ge + 0))), (0, .ref (mo 0)), (2, .int (iI i)), (3, .int (iI t))]) hx hb dX6_wrong_70 rfl hl (by decide) rfl (fun ls hl => ?_)
                refine r_inc (k := 3) (lv' := [(3, .int (iI (t + 1))), (1, .int (iI (ge + 0))), (0, .ref (mo 0)), (2, .int (iI i))]) hx hb dX6_wrong_71 hl rfl (by decide) rfl (fun ls hl => ?_)
                refine lv_goto (tgt := 16) hx hb dX6_wrong_74 (by decide) ?_
                exact ih_16 (ge + 0) (t + 1) (by omega) (by rw [sumTo_s (by omega), m2]; first | (rw [if_pos ⟨by omega, by show pl (pt (rv t)) < pl (pt (rv i)); omega⟩]; omega) | (rw [if_neg (fun z => by have z2 : pl (pt (rv t)) < pl (pt (rv i)) := z.2; omega)]; omega)) (by omega) H locs (pick_P hP (is := [1, 2, 0]) rfl) (hD.sub [1, 2, 0] (by decide) rfl) hS ls (lv_sub hl [2, 1, 3, 0] rfl)
              ·
                refine r_const hx hb dX6_wrong_64 ?_
                refine lv_goto (tgt := 69) hx hb dX6_wrong_65 (by decide) ?_
                refine r_add hx hb dX6_wrong_69 ?_
                refine lv_istore_n (lv' := [(1, .int (iI (ge + 1))), (0, .ref (mo 0)), (2, .int (iI i)), (3, .int (iI t))]) hx hb dX6_wrong_70 rfl hl (by decide) rfl (fun ls hl => ?_)
                refine r_inc (k := 3) (lv' := [(3, .int (iI (t + 1))), (1, .int (iI (ge + 1))), (0, .ref (mo 0)), (2, .int (iI i))]) hx hb dX6_wrong_71 hl rfl (by decide) rfl (fun ls hl => ?_)
                refine lv_goto (tgt := 16) hx hb dX6_wrong_74 (by decide) ?_
                exact ih_16 (ge + 1) (t + 1) (by omega) (by rw [sumTo_s (by omega), m2]; first | (rw [if_pos ⟨by omega, by show pl (pt (rv t)) < pl (pt (rv i)); omega⟩]; omega) | (rw [if_neg (fun z => by have z2 : pl (pt (rv t)) < pl (pt (rv i)) := z.2; omega)]; omega)) (by omega) H locs (pick_P hP (is := [1, 2, 0]) rfl) (hD.sub [1, 2, 0] (by decide) rfl) hS ls (lv_sub hl [2, 1, 3, 0] rfl)
        exact lp_16 _ g (i + 1) (by omega) (by rw [sumTo_congr (G := fun _ => 0) (fun j q1 q2 => by rw [if_neg (by omega)]), sum_zero]; omega) (Nat.lt_succ_self _) H locs (pick_P hP (is := [0, 1, 2]) rfl) (hD.sub [0, 1, 2] (by decide) rfl) hS ls (lv_sub hl [1, 2, 3, 0] rfl)
  exact lp_4 _ 0 0 (by omega) (rfl) (Nat.lt_succ_self _) H locs (pick_P hP (is := [0, 1, 2]) rfl) (hD.sub [0, 1, 2] (by decide) rfl) hS ls (lv_sub hl [2, 1, 0] rfl)
abbrev rm_X6_spilledIn : Room := { frames := 0, cells := 0, slots := 0, locals := 0 }
theorem fl_X6_spilledIn_7 : Cond.fieldLink RX6 7 "WalkPassesModel" "state" "[I" ∈ wsX6_spilledIn := by decide +kernel
theorem fl_X6_spilledIn_29 : Cond.fieldLink RX6 29 "WalkPassesModel" "spilledAt" "[I" ∈ wsX6_spilledIn := by decide +kernel
theorem iw_X6_spilledIn_6 : ∀ w ∈ u_ws RX6 TX6 16, w ∈ wsX6_spilledIn := by decide +kernel
set_option maxHeartbeats 4000000 in
set_option maxRecDepth 100000 in
theorem k_X6_spilledIn (l : Launch) (D : va_G) (cy : Nat → ClassId) (mo : Nat → Nat) (z : Nat) (rn sn co bp ag pn : Int) (lt mn : Int) (pt tk mr od pl rm cd : Int → Int) (sa : Int → Int) (jj : Int) (hlt : 0 ≤ lt ∧ lt ≤ 24) (hsa : ∀ l, 0 ≤ l → l < lt → 0 ≤ sa l ∧ sa l ≤ 3) (hj : 0 ≤ jj ∧ jj ≤ 3) : CtI l yX6_spilledIn wsX6_spilledIn rm_X6_spilledIn D (tyL cy) [.ref (mo 0), .int (iI jj)] [oM mo rn sn co bp ag pn, ai (cy 0) (mo 1) 98 (stF lt mn pt tk mr od rm cd), ai (cy 0) (mo 7) 24 sa] z (fun (r : Int) (u : Unit) => r = sumTo (fun l => if sa l = jj then 1 else 0) lt.toNat) (fun (u : Unit) => [oM mo rn sn co bp ag pn, ai (cy 0) (mo 1) 98 (stF lt mn pt tk mr od rm cd), ai (cy 0) (mo 7) 24 sa]) 0 0 := by
  refine ct_i (cc := cX6_spilledIn) (maxL := 4) (by decide) rfl (Nat.le_of_ble_eq_true rfl) ?_
  intro p e s m args below meth c A Q H locs ls hx hb hml hown hin hts hK hN hP hD hS hA hl hret
  replace hl : lv_has ls 4 [(0, .ref (mo 0)), (1, .int (iI jj))] := hl
  replace hown : s.vm.findClass RX6 = some m.cls := hown
  refine r_const hx hb dX6_spilledIn_0 ?_
  refine lv_istore_n (lv' := [(2, .int (iI 0)), (0, .ref (mo 0)), (1, .int (iI jj))]) hx hb dX6_spilledIn_1 rfl hl (by decide) rfl (fun ls hl => ?_)
  refine r_const hx hb dX6_spilledIn_2 ?_
  refine lv_istore_n (lv' := [(3, .int (iI 0)), (2, .int (iI 0)), (0, .ref (mo 0)), (1, .int (iI jj))]) hx hb dX6_spilledIn_3 rfl hl (by decide) rfl (fun ls hl => ?_)
  have lp_4 : ∀ (fu : Nat) (g : Int) (i : Int), (0 ≤ i ∧ i ≤ lt) → (g = sumTo (fun l => if sa l = jj then 1 else 0) i.toNat) → (lt - i).toNat < fu → ∀ (H : Heap) (locs : List Loc), va_P D vwCl [oM mo rn sn co bp ag pn, ai (cy 0) (mo 1) 98 (stF lt mn pt tk mr od rm cd), ai (cy 0) (mo 7) 24 sa] H → va_D A [oM mo rn sn co bp ag pn, ai (cy 0) (mo 1) 98 (stF lt mn pt tk mr od rm cd), ai (cy 0) (mo 7) 24 sa] → va_S A s.heap H locs → ∀ (ls : Array Slot), lv_has ls 4 [(0, .ref (mo 0)), (1, .int (iI jj)), (2, .int (iI g)), (3, .int (iI i))] → W p l e rm_X6_spilledIn s m args below meth c H locs 0 0 Q (F0 m 4 ls []) := by
    intro fu
    induction fu with
    | zero =>
      intro g i h1 h2 hm
      exact absurd hm (Nat.not_lt_zero _)
    | succ fu ih_4 =>
      intro g i h1 h2 hm H locs hP hD hS ls hl
      refine lv_iload_n hx hb dX6_spilledIn_4 rfl (lv_at hl 3 rfl) ?_
      refine lv_aload_n hx hb dX6_spilledIn_5 rfl (lv_at hl 0 rfl) ?_
      refine va_get (D := D) (C := RX6) (T := TX6) (N := 16) (ci := 6) (v := .ref (mo 1)) hx hb hts iw_X6_spilledIn_6 hown hK hP 0 rfl rfl 0 (by decide) (hts _ fl_X6_spilledIn_7) (fun _ h9 => h9) rfl dX6_spilledIn_6 ?_
      refine r_bip hx hb (25) dX6_spilledIn_9 (by decide) ?_
      refine r_ald hx hb hK hP 1 rfl rfl ⟨by omega, by omega, by omega⟩ dX6_spilledIn_11 ?_
      refine r_top (lt) (stF_lt (by omega)) ?_
      refine r_ge hx hb 39 dX6_spilledIn_12 (by decide) ⟨by omega, by omega⟩ ⟨by omega, by omega⟩ (fun c_12 => ?_) (fun c_12 => ?_)
      ·
        refine lv_iload_n hx hb dX6_spilledIn_39 rfl (lv_at hl 2 rfl) ?_
        exact hret [0, 1, 2] () dX6_spilledIn_40 hP hD hS (by decide) rfl (by rw [h2, show lt = i by omega])
      ·
        refine lv_iload_n hx hb dX6_spilledIn_15 rfl (lv_at hl 2 rfl) ?_
        have hs1 := hsa i h1.1 (by omega)
        refine lv_aload_n hx hb dX6_spilledIn_16 rfl (lv_at hl 0 rfl) ?_
        refine va_get (D := D) (C := RX6) (T := TX6) (N := 16) (ci := 6) (v := .ref (mo 7)) hx hb hts iw_X6_spilledIn_6 hown hK hP 0 rfl rfl 8 (by decide) (hts _ fl_X6_spilledIn_29) (fun _ h9 => h9) rfl dX6_spilledIn_17 ?_
        refine lv_iload_n hx hb dX6_spilledIn_20 rfl (lv_at hl 3 rfl) ?_
        refine r_ald hx hb hK hP 2 rfl rfl ⟨by omega, by omega, by omega⟩ dX6_spilledIn_21 ?_
        refine lv_iload_n hx hb dX6_spilledIn_22 rfl (lv_at hl 1 rfl) ?_
        refine r_ne hx hb 30 dX6_spilledIn_23 (by decide) ⟨by omega, by omega⟩ ⟨by omega, by omega⟩ (fun c_23 => ?_) (fun c_23 => ?_)
        ·
          refine r_const hx hb dX6_spilledIn_30 ?_
          refine r_add hx hb dX6_spilledIn_31 ?_
          refine lv_istore_n (lv' := [(2, .int (iI (g + 0))), (0, .ref (mo 0)), (1, .int (iI jj)), (3, .int (iI i))]) hx hb dX6_spilledIn_32 rfl hl (by decide) rfl (fun ls hl => ?_)
          refine r_inc (k := 3) (lv' := [(3, .int (iI (i + 1))), (2, .int (iI (g + 0))), (0, .ref (mo 0)), (1, .int (iI jj))]) hx hb dX6_spilledIn_33 hl rfl (by decide) rfl (fun ls hl => ?_)
          refine lv_goto (tgt := 4) hx hb dX6_spilledIn_36 (by decide) ?_
          exact ih_4 (g + 0) (i + 1) (by omega) (by rw [sumTo_s h1.1, h2]; first | (rw [if_pos c_23]; done) | (rw [if_neg c_23]; done)) (by omega) H locs (pick_P hP (is := [0, 1, 2]) rfl) (hD.sub [0, 1, 2] (by decide) rfl) hS ls (lv_sub hl [2, 3, 1, 0] rfl)
        ·
          refine r_const hx hb dX6_spilledIn_26 ?_
          refine lv_goto (tgt := 31) hx hb dX6_spilledIn_27 (by decide) ?_
          refine r_add hx hb dX6_spilledIn_31 ?_
          refine lv_istore_n (lv' := [(2, .int (iI (g + 1))), (0, .ref (mo 0)), (1, .int (iI jj)), (3, .int (iI i))]) hx hb dX6_spilledIn_32 rfl hl (by decide) rfl (fun ls hl => ?_)
          refine r_inc (k := 3) (lv' := [(3, .int (iI (i + 1))), (2, .int (iI (g + 1))), (0, .ref (mo 0)), (1, .int (iI jj))]) hx hb dX6_spilledIn_33 hl rfl (by decide) rfl (fun ls hl => ?_)
          refine lv_goto (tgt := 4) hx hb dX6_spilledIn_36 (by decide) ?_
          exact ih_4 (g + 1) (i + 1) (by omega) (by rw [sumTo_s h1.1, h2]; first | (rw [if_pos c_23]; done) | (rw [if_neg c_23]; done)) (by omega) H locs (pick_P hP (is := [0, 1, 2]) rfl) (hD.sub [0, 1, 2] (by decide) rfl) hS ls (lv_sub hl [2, 3, 1, 0] rfl)
  exact lp_4 _ 0 0 (by omega) (rfl) (Nat.lt_succ_self _) H locs (pick_P hP (is := [0, 1, 2]) rfl) (hD.sub [0, 1, 2] (by decide) rfl) hS ls (lv_sub hl [2, 3, 1, 0] rfl)
abbrev rm_X6_run : Room := { frames := 4, cells := 0, slots := 0, locals := 92 }
theorem fl_X6_run_7 : Cond.fieldLink RX6 7 "WalkPassesModel" "state" "[I" ∈ wsX6_run := by decide +kernel
theorem fl_X6_run_70 : Cond.fieldLink RX6 70 "WalkPassesModel" "rowMany" "I" ∈ wsX6_run := by decide +kernel
theorem iw_X6_run_6 : ∀ w ∈ u_ws RX6 TX6 16, w ∈ wsX6_run := by decide +kernel
set_option maxHeartbeats 4000000 in
set_option maxRecDepth 100000 in
theorem k_X6_run (l : Launch) (D : va_G) (cy : Nat → ClassId) (mo : Nat → Nat) (z : Nat) (rn sn co bp ag pn : Int) (lt mn : Int) (pt tk mr od pl rm cd : Int → Int) (rv sw gt sa ld : Int → Int) (k v : Int) (hI : DI lt mn pt tk mr od pl rm cd) (hk9 : inR k) (hv : inR v) : CtI l yX6_run wsX6_run rm_X6_run D (tyL cy) [.ref (mo 0), .int (iI k), .int (iI v)] [oM mo rn sn co bp ag pn, ai (cy 0) (mo 1) 98 (stF lt mn pt tk mr od rm cd), ai (cy 0) (mo 4) 24 rv, ai (cy 0) (mo 5) 24 sw, ai (cy 0) (mo 6) 24 gt, ai (cy 0) (mo 7) 24 sa, ai (cy 0) (mo 8) 4 ld] z (fun (r : Int) (u : Int × Int × (Int → Int) × (Int → Int) × (Int → Int) × (Int → Int) × (Int → Int)) => r = fRun lt mn pt tk mr pl rm cd k v) (fun (u : Int × Int × (Int → Int) × (Int → Int) × (Int → Int) × (Int → Int) × (Int → Int)) => [oM mo u.1 u.2.1 co bp ag pn, ai (cy 0) (mo 1) 98 (stF lt mn pt tk mr od rm cd), ai (cy 0) (mo 4) 24 u.2.2.1, ai (cy 0) (mo 5) 24 u.2.2.2.1, ai (cy 0) (mo 6) 24 u.2.2.2.2.1, ai (cy 0) (mo 7) 24 u.2.2.2.2.2.1, ai (cy 0) (mo 8) 4 u.2.2.2.2.2.2]) 0 0 := by
  refine ct_i (cc := cX6_run) (maxL := 3) (by decide) rfl (Nat.le_of_ble_eq_true rfl) ?_
  intro p e s m args below meth c A Q H locs ls hx hb hml hown hin hts hK hN hP hD hS hA hl hret
  replace hl : lv_has ls 3 [(0, .ref (mo 0)), (1, .int (iI k)), (2, .int (iI v))] := hl
  replace hown : s.vm.findClass RX6 = some m.cls := hown
  obtain ⟨⟨⟨hlt0, hlt1⟩, hmn0, hmn1⟩, ⟨hpt, htk, hmr⟩, ⟨hod, hpl, hpo, hop⟩, hrm, hcd⟩ := id hI
  refine lv_iload_n hx hb dX6_run_0 rfl (lv_at hl 1 rfl) ?_
  have M_1 := k_X6_isRun l D cy  H.size k (hk9)
  refine kS_i (wr := [oM mo rn sn co bp ag pn, ai (cy 0) (mo 1) 98 (stF lt mn pt tk mr od rm cd), ai (cy 0) (mo 4) 24 rv, ai (cy 0) (mo 5) 24 sw, ai (cy 0) (mo 6) 24 gt, ai (cy 0) (mo 7) 24 sa, ai (cy 0) (mo 8) 4 ld]) (As := [.int (iI k)]) (rest := []) ⟨hx, hb, hml, hown, hts⟩ M_1 (va_cwS 1 hts gX6_run_X6_isRun rfl rfl rfl (by decide +kernel) ⟨Nat.le_of_ble_eq_true rfl, Nat.le_of_ble_eq_true rfl⟩) hN hK hP hD hS hA [] [0, 1, 2, 3, 4, 5, 6] rfl rfl (by decide) (by decide) (by decide) rfl hl.1 rfl (Nat.le_of_ble_eq_true rfl) dX6_run_1 ⟨Nat.le_of_ble_eq_true rfl, Nat.le_of_ble_eq_true rfl⟩ (fun r_1 u_1 H locs hw_1 hP hD hS => ?_)
  replace hP : va_P D vwCl [oM mo rn sn co bp ag pn, ai (cy 0) (mo 1) 98 (stF lt mn pt tk mr od rm cd), ai (cy 0) (mo 4) 24 rv, ai (cy 0) (mo 5) 24 sw, ai (cy 0) (mo 6) 24 gt, ai (cy 0) (mo 7) 24 sa, ai (cy 0) (mo 8) 4 ld] H := hP
  replace hD : va_D A [oM mo rn sn co bp ag pn, ai (cy 0) (mo 1) 98 (stF lt mn pt tk mr od rm cd), ai (cy 0) (mo 4) 24 rv, ai (cy 0) (mo 5) 24 sw, ai (cy 0) (mo 6) 24 gt, ai (cy 0) (mo 7) 24 sa, ai (cy 0) (mo 8) 4 ld] := hD
  refine r_eq0 hx hb 16 dX6_run_4 (by decide) ⟨by omega, by omega⟩ (fun c_4 => ?_) (fun c_4 => ?_)
  ·
    refine r_bip hx hb (-2) dX6_run_16 (by decide) ?_
    exact hret [0, 1, 2, 3, 4, 5, 6] (rn, sn, rv, sw, gt, sa, ld) dX6_run_18 hP hD hS (by decide) rfl (by unfold fRun; (repeat' split) <;> omega)
  ·
    refine lv_iload_n hx hb dX6_run_7 rfl (lv_at hl 2 rfl) ?_
    refine r_const hx hb dX6_run_8 ?_
    refine r_const hx hb dX6_run_9 ?_
    have M_10 := k_X6_in l D cy  H.size v 0 3 (hv) (⟨by omega, by omega⟩) (⟨by omega, by omega⟩)
    refine kS_i (wr := [oM mo rn sn co bp ag pn, ai (cy 0) (mo 1) 98 (stF lt mn pt tk mr od rm cd), ai (cy 0) (mo 4) 24 rv, ai (cy 0) (mo 5) 24 sw, ai (cy 0) (mo 6) 24 gt, ai (cy 0) (mo 7) 24 sa, ai (cy 0) (mo 8) 4 ld]) (As := [.int (iI v), .int (iI 0), .int (iI 3)]) (rest := []) ⟨hx, hb, hml, hown, hts⟩ M_10 (va_cwS 3 hts gX6_run_X6_in rfl rfl rfl (by decide +kernel) ⟨Nat.le_of_ble_eq_true rfl, Nat.le_of_ble_eq_true rfl⟩) hN hK hP hD hS hA [] [0, 1, 2, 3, 4, 5, 6] rfl rfl (by decide) (by decide) (by decide) rfl hl.1 rfl (Nat.le_of_ble_eq_true rfl) dX6_run_10 ⟨Nat.le_of_ble_eq_true rfl, Nat.le_of_ble_eq_true rfl⟩ (fun r_10 u_10 H locs hw_10 hP hD hS => ?_)
    replace hP : va_P D vwCl [oM mo rn sn co bp ag pn, ai (cy 0) (mo 1) 98 (stF lt mn pt tk mr od rm cd), ai (cy 0) (mo 4) 24 rv, ai (cy 0) (mo 5) 24 sw, ai (cy 0) (mo 6) 24 gt, ai (cy 0) (mo 7) 24 sa, ai (cy 0) (mo 8) 4 ld] H := hP
    replace hD : va_D A [oM mo rn sn co bp ag pn, ai (cy 0) (mo 1) 98 (stF lt mn pt tk mr od rm cd), ai (cy 0) (mo 4) 24 rv, ai (cy 0) (mo 5) 24 sw, ai (cy 0) (mo 6) 24 gt, ai (cy 0) (mo 7) 24 sa, ai (cy 0) (mo 8) 4 ld] := hD
    refine r_ne0 hx hb 19 dX6_run_13 (by decide) ⟨by omega, by omega⟩ (fun c_13 => ?_) (fun c_13 => ?_)
    ·
      refine lv_aload_n hx hb dX6_run_19 rfl (lv_at hl 0 rfl) ?_
      refine lv_iload_n hx hb dX6_run_20 rfl (lv_at hl 1 rfl) ?_
      have M_21 := k_X6_goRun l D cy mo H.size rn sn co bp ag pn lt mn pt tk mr od pl rm cd rv sw gt sa ld k (hI) (by omega)
      refine kV_v (wr := []) (As := [.int (iI k)]) (rest := []) (q := (RX6, TX6, 16)) (ci := 6) ⟨hx, hb, hml, hown, hts⟩ M_21 0 rfl rfl (cwV 1 hts gX6_run_X6_goRun rfl rfl rfl (by decide +kernel) ⟨Nat.le_of_ble_eq_true rfl, Nat.le_of_ble_eq_true rfl⟩) hN hK hP hD hS hA [0, 1, 2, 3, 4, 5, 6] [] rfl rfl (by decide) (by decide) (by decide) rfl hl.1 rfl (Nat.le_of_ble_eq_true rfl) dX6_run_21 ⟨Nat.le_of_ble_eq_true rfl, Nat.le_of_ble_eq_true rfl⟩ (fun u_21 H locs hw_21 hP hD hS => ?_)
      obtain ⟨v_1, v_2, v_3, v_4, v_5, v_6, v_7⟩ := u_21
      try dsimp only at hw_21
      replace hP : va_P D vwCl [oM mo v_1 v_2 co bp ag pn, ai (cy 0) (mo 1) 98 (stF lt mn pt tk mr od rm cd), ai (cy 0) (mo 4) 24 v_3, ai (cy 0) (mo 5) 24 v_4, ai (cy 0) (mo 6) 24 v_5, ai (cy 0) (mo 7) 24 v_6, ai (cy 0) (mo 8) 4 v_7] H := hP
      replace hD : va_D A [oM mo v_1 v_2 co bp ag pn, ai (cy 0) (mo 1) 98 (stF lt mn pt tk mr od rm cd), ai (cy 0) (mo 4) 24 v_3, ai (cy 0) (mo 5) 24 v_4, ai (cy 0) (mo 6) 24 v_5, ai (cy 0) (mo 7) 24 v_6, ai (cy 0) (mo 8) 4 v_7] := hD
      have hcm := RnP_cm hw_21
      have hrl := rn_len lt mn pt tk mr rm cd hlt0 k.toNat
      have hor := RnP_or hw_21
      refine lv_iload_n hx hb dX6_run_24 rfl (lv_at hl 2 rfl) ?_
      refine r_ne0 hx hb 35 dX6_run_25 (by decide) ⟨by omega, by omega⟩ (fun c_25 => ?_) (fun c_25 => ?_)
      ·
        refine lv_iload_n hx hb dX6_run_35 rfl (lv_at hl 2 rfl) ?_
        refine r_const hx hb dX6_run_36 ?_
        refine r_ne hx hb 55 dX6_run_37 (by decide) ⟨by omega, by omega⟩ ⟨by omega, by omega⟩ (fun c_37 => ?_) (fun c_37 => ?_)
        ·
          refine lv_iload_n hx hb dX6_run_55 rfl (lv_at hl 2 rfl) ?_
          refine r_const hx hb dX6_run_56 ?_
          refine r_ne hx hb 67 dX6_run_57 (by decide) ⟨by omega, by omega⟩ ⟨by omega, by omega⟩ (fun c_57 => ?_) (fun c_57 => ?_)
          ·
            refine lv_aload_n hx hb dX6_run_67 rfl (lv_at hl 0 rfl) ?_
            refine lv_iload_n hx hb dX6_run_68 rfl (lv_at hl 1 rfl) ?_
            have M_69 := k_X6_spilledIn l D cy mo H.size v_1 v_2 co bp ag pn lt mn pt tk mr od pl rm cd v_6 k (by omega) (fun l q1 q2 => by have := rn_sa lt mn pt tk mr rm cd hmr k.toNat l; rw [hw_21.2.2.1 l q1 q2]; omega) (by omega)
            refine kV_i (wr := [ai (cy 0) (mo 4) 24 v_3, ai (cy 0) (mo 5) 24 v_4, ai (cy 0) (mo 6) 24 v_5, ai (cy 0) (mo 8) 4 v_7]) (As := [.int (iI k)]) (rest := []) (q := (RX6, TX6, 16)) (ci := 6) ⟨hx, hb, hml, hown, hts⟩ M_69 0 rfl rfl (cwV 1 hts gX6_run_X6_spilledIn rfl rfl rfl (by decide +kernel) ⟨Nat.le_of_ble_eq_true rfl, Nat.le_of_ble_eq_true rfl⟩) hN hK hP hD hS hA [0, 1, 5] [2, 3, 4, 6] rfl rfl (by decide) (by decide) (by decide) rfl hl.1 rfl (Nat.le_of_ble_eq_true rfl) dX6_run_69 ⟨Nat.le_of_ble_eq_true rfl, Nat.le_of_ble_eq_true rfl⟩ (fun r_69 u_69 H locs hw_69 hP hD hS => ?_)
            replace hP : va_P D vwCl [ai (cy 0) (mo 4) 24 v_3, ai (cy 0) (mo 5) 24 v_4, ai (cy 0) (mo 6) 24 v_5, ai (cy 0) (mo 8) 4 v_7, oM mo v_1 v_2 co bp ag pn, ai (cy 0) (mo 1) 98 (stF lt mn pt tk mr od rm cd), ai (cy 0) (mo 7) 24 v_6] H := hP
            replace hD : va_D A [ai (cy 0) (mo 4) 24 v_3, ai (cy 0) (mo 5) 24 v_4, ai (cy 0) (mo 6) 24 v_5, ai (cy 0) (mo 8) 4 v_7, oM mo v_1 v_2 co bp ag pn, ai (cy 0) (mo 1) 98 (stF lt mn pt tk mr od rm cd), ai (cy 0) (mo 7) 24 v_6] := hD
            exact hret [4, 5, 0, 1, 2, 6, 3] (v_1, v_2, v_3, v_4, v_5, v_6, v_7) dX6_run_72 hP hD hS (by decide) rfl (by first | exact run_w (by omega) (by omega) hw_21 hw_61 | exact run_s (by omega) (by omega) hw_21 hw_69 | (unfold fRun; (repeat' split) <;> omega))
          ·
            refine lv_aload_n hx hb dX6_run_60 rfl (lv_at hl 0 rfl) ?_
            have M_61 := k_X6_wrong l D cy mo H.size v_1 v_2 co bp ag pn lt mn pt tk mr od pl rm cd v_3 (hI) (by omega) (hor)
            refine kV_i (wr := [ai (cy 0) (mo 5) 24 v_4, ai (cy 0) (mo 6) 24 v_5, ai (cy 0) (mo 7) 24 v_6, ai (cy 0) (mo 8) 4 v_7]) (As := []) (rest := []) (q := (RX6, TX6, 16)) (ci := 6) ⟨hx, hb, hml, hown, hts⟩ M_61 0 rfl rfl (cwV 0 hts gX6_run_X6_wrong rfl rfl rfl (by decide +kernel) ⟨Nat.le_of_ble_eq_true rfl, Nat.le_of_ble_eq_true rfl⟩) hN hK hP hD hS hA [0, 1, 2] [3, 4, 5, 6] rfl rfl (by decide) (by decide) (by decide) rfl hl.1 rfl (Nat.le_of_ble_eq_true rfl) dX6_run_61 ⟨Nat.le_of_ble_eq_true rfl, Nat.le_of_ble_eq_true rfl⟩ (fun r_61 u_61 H locs hw_61 hP hD hS => ?_)
            replace hP : va_P D vwCl [ai (cy 0) (mo 5) 24 v_4, ai (cy 0) (mo 6) 24 v_5, ai (cy 0) (mo 7) 24 v_6, ai (cy 0) (mo 8) 4 v_7, oM mo v_1 v_2 co bp ag pn, ai (cy 0) (mo 1) 98 (stF lt mn pt tk mr od rm cd), ai (cy 0) (mo 4) 24 v_3] H := hP
            replace hD : va_D A [ai (cy 0) (mo 5) 24 v_4, ai (cy 0) (mo 6) 24 v_5, ai (cy 0) (mo 7) 24 v_6, ai (cy 0) (mo 8) 4 v_7, oM mo v_1 v_2 co bp ag pn, ai (cy 0) (mo 1) 98 (stF lt mn pt tk mr od rm cd), ai (cy 0) (mo 4) 24 v_3] := hD
            refine lv_goto (tgt := 72) hx hb dX6_run_64 (by decide) ?_
            exact hret [4, 5, 6, 0, 1, 2, 3] (v_1, v_2, v_3, v_4, v_5, v_6, v_7) dX6_run_72 hP hD hS (by decide) rfl (by first | exact run_w (by omega) (by omega) hw_21 hw_61 | exact run_s (by omega) (by omega) hw_21 hw_69 | (unfold fRun; (repeat' split) <;> omega))
        ·
          refine lv_aload_n hx hb dX6_run_40 rfl (lv_at hl 0 rfl) ?_
          refine va_get (D := D) (C := RX6) (T := TX6) (N := 16) (ci := 6) (v := .ref (mo 1)) hx hb hts iw_X6_run_6 hown hK hP 0 rfl rfl 0 (by decide) (hts _ fl_X6_run_7) (fun _ h9 => h9) rfl dX6_run_41 ?_
          refine r_bip hx hb (25) dX6_run_44 (by decide) ?_
          refine r_ald hx hb hK hP 1 rfl rfl ⟨by omega, by omega, by omega⟩ dX6_run_46 ?_
          refine r_top (lt) (stF_lt (by omega)) ?_
          refine lv_aload_n hx hb dX6_run_47 rfl (lv_at hl 0 rfl) ?_
          refine va_get (D := D) (C := RX6) (T := TX6) (N := 16) (ci := 6) (v := .int (iI v_1)) hx hb hts iw_X6_run_6 hown hK hP 0 rfl rfl 4 (by decide) (hts _ fl_X6_run_70) (fun _ h9 => h9) rfl dX6_run_48 ?_
          refine r_sub hx hb dX6_run_51 ?_
          refine lv_goto (tgt := 72) hx hb dX6_run_52 (by decide) ?_
          exact hret [0, 1, 2, 3, 4, 5, 6] (v_1, v_2, v_3, v_4, v_5, v_6, v_7) dX6_run_72 hP hD hS (by decide) rfl (by first | exact run_w (by omega) (by omega) hw_21 hw_61 | exact run_s (by omega) (by omega) hw_21 hw_69 | (unfold fRun; (repeat' split) <;> omega))
      ·
        refine lv_aload_n hx hb dX6_run_28 rfl (lv_at hl 0 rfl) ?_
        refine va_get (D := D) (C := RX6) (T := TX6) (N := 16) (ci := 6) (v := .int (iI v_1)) hx hb hts iw_X6_run_6 hown hK hP 0 rfl rfl 4 (by decide) (hts _ fl_X6_run_70) (fun _ h9 => h9) rfl dX6_run_29 ?_
        refine lv_goto (tgt := 72) hx hb dX6_run_32 (by decide) ?_
        exact hret [0, 1, 2, 3, 4, 5, 6] (v_1, v_2, v_3, v_4, v_5, v_6, v_7) dX6_run_72 hP hD hS (by decide) rfl (by first | exact run_w (by omega) (by omega) hw_21 hw_61 | exact run_s (by omega) (by omega) hw_21 hw_69 | (unfold fRun; (repeat' split) <;> omega))
    ·
      refine r_bip hx hb (-2) dX6_run_16 (by decide) ?_
      exact hret [0, 1, 2, 3, 4, 5, 6] (rn, sn, rv, sw, gt, sa, ld) dX6_run_18 hP hD hS (by decide) rfl (by unfold fRun; (repeat' split) <;> omega)
abbrev rm_X6_out : Room := { frames := 4, cells := 0, slots := 0, locals := 92 }
theorem fl_X6_out_20 : Cond.fieldLink RX6 20 "WalkPassesModel" "row" "[I" ∈ wsX6_out := by decide +kernel
theorem fl_X6_out_70 : Cond.fieldLink RX6 70 "WalkPassesModel" "rowMany" "I" ∈ wsX6_out := by decide +kernel
theorem iw_X6_out_6 : ∀ w ∈ u_ws RX6 TX6 16, w ∈ wsX6_out := by decide +kernel
set_option maxHeartbeats 4000000 in
set_option maxRecDepth 100000 in
theorem k_X6_out (l : Launch) (D : va_G) (cy : Nat → ClassId) (mo : Nat → Nat) (z : Nat) (rn sn co bp ag pn : Int) (lt mn : Int) (pt tk mr od pl rm cd : Int → Int) (rv sw gt sa ld : Int → Int) (k i : Int) (hI : DI lt mn pt tk mr od pl rm cd) (hk9 : inR k) (hv : inR i) : CtI l yX6_out wsX6_out rm_X6_out D (tyL cy) [.ref (mo 0), .int (iI k), .int (iI i)] [oM mo rn sn co bp ag pn, ai (cy 0) (mo 1) 98 (stF lt mn pt tk mr od rm cd), ai (cy 0) (mo 4) 24 rv, ai (cy 0) (mo 5) 24 sw, ai (cy 0) (mo 6) 24 gt, ai (cy 0) (mo 7) 24 sa, ai (cy 0) (mo 8) 4 ld] z (fun (r : Int) (u : Int × Int × (Int → Int) × (Int → Int) × (Int → Int) × (Int → Int) × (Int → Int)) => r = fOut lt mn pt tk mr rm cd k i) (fun (u : Int × Int × (Int → Int) × (Int → Int) × (Int → Int) × (Int → Int) × (Int → Int)) => [oM mo u.1 u.2.1 co bp ag pn, ai (cy 0) (mo 1) 98 (stF lt mn pt tk mr od rm cd), ai (cy 0) (mo 4) 24 u.2.2.1, ai (cy 0) (mo 5) 24 u.2.2.2.1, ai (cy 0) (mo 6) 24 u.2.2.2.2.1, ai (cy 0) (mo 7) 24 u.2.2.2.2.2.1, ai (cy 0) (mo 8) 4 u.2.2.2.2.2.2]) 0 0 := by
  refine ct_i (cc := cX6_out) (maxL := 3) (by decide) rfl (Nat.le_of_ble_eq_true rfl) ?_
  intro p e s m args below meth c A Q H locs ls hx hb hml hown hin hts hK hN hP hD hS hA hl hret
  replace hl : lv_has ls 3 [(0, .ref (mo 0)), (1, .int (iI k)), (2, .int (iI i))] := hl
  replace hown : s.vm.findClass RX6 = some m.cls := hown
  obtain ⟨⟨⟨hlt0, hlt1⟩, hmn0, hmn1⟩, ⟨hpt, htk, hmr⟩, ⟨hod, hpl, hpo, hop⟩, hrm, hcd⟩ := id hI
  refine lv_iload_n hx hb dX6_out_0 rfl (lv_at hl 1 rfl) ?_
  have M_1 := k_X6_isRun l D cy  H.size k (hk9)
  refine kS_i (wr := [oM mo rn sn co bp ag pn, ai (cy 0) (mo 1) 98 (stF lt mn pt tk mr od rm cd), ai (cy 0) (mo 4) 24 rv, ai (cy 0) (mo 5) 24 sw, ai (cy 0) (mo 6) 24 gt, ai (cy 0) (mo 7) 24 sa, ai (cy 0) (mo 8) 4 ld]) (As := [.int (iI k)]) (rest := []) ⟨hx, hb, hml, hown, hts⟩ M_1 (va_cwS 1 hts gX6_out_X6_isRun rfl rfl rfl (by decide +kernel) ⟨Nat.le_of_ble_eq_true rfl, Nat.le_of_ble_eq_true rfl⟩) hN hK hP hD hS hA [] [0, 1, 2, 3, 4, 5, 6] rfl rfl (by decide) (by decide) (by decide) rfl hl.1 rfl (Nat.le_of_ble_eq_true rfl) dX6_out_1 ⟨Nat.le_of_ble_eq_true rfl, Nat.le_of_ble_eq_true rfl⟩ (fun r_1 u_1 H locs hw_1 hP hD hS => ?_)
  replace hP : va_P D vwCl [oM mo rn sn co bp ag pn, ai (cy 0) (mo 1) 98 (stF lt mn pt tk mr od rm cd), ai (cy 0) (mo 4) 24 rv, ai (cy 0) (mo 5) 24 sw, ai (cy 0) (mo 6) 24 gt, ai (cy 0) (mo 7) 24 sa, ai (cy 0) (mo 8) 4 ld] H := hP
  replace hD : va_D A [oM mo rn sn co bp ag pn, ai (cy 0) (mo 1) 98 (stF lt mn pt tk mr od rm cd), ai (cy 0) (mo 4) 24 rv, ai (cy 0) (mo 5) 24 sw, ai (cy 0) (mo 6) 24 gt, ai (cy 0) (mo 7) 24 sa, ai (cy 0) (mo 8) 4 ld] := hD
  refine r_ne0 hx hb 10 dX6_out_4 (by decide) ⟨by omega, by omega⟩ (fun c_4 => ?_) (fun c_4 => ?_)
  ·
    refine lv_aload_n hx hb dX6_out_10 rfl (lv_at hl 0 rfl) ?_
    refine lv_iload_n hx hb dX6_out_11 rfl (lv_at hl 1 rfl) ?_
    have M_12 := k_X6_goRun l D cy mo H.size rn sn co bp ag pn lt mn pt tk mr od pl rm cd rv sw gt sa ld k (hI) (by omega)
    refine kV_v (wr := []) (As := [.int (iI k)]) (rest := []) (q := (RX6, TX6, 16)) (ci := 6) ⟨hx, hb, hml, hown, hts⟩ M_12 0 rfl rfl (cwV 1 hts gX6_out_X6_goRun rfl rfl rfl (by decide +kernel) ⟨Nat.le_of_ble_eq_true rfl, Nat.le_of_ble_eq_true rfl⟩) hN hK hP hD hS hA [0, 1, 2, 3, 4, 5, 6] [] rfl rfl (by decide) (by decide) (by decide) rfl hl.1 rfl (Nat.le_of_ble_eq_true rfl) dX6_out_12 ⟨Nat.le_of_ble_eq_true rfl, Nat.le_of_ble_eq_true rfl⟩ (fun u_12 H locs hw_12 hP hD hS => ?_)
    obtain ⟨v_1, v_2, v_3, v_4, v_5, v_6, v_7⟩ := u_12
    try dsimp only at hw_12
    replace hP : va_P D vwCl [oM mo v_1 v_2 co bp ag pn, ai (cy 0) (mo 1) 98 (stF lt mn pt tk mr od rm cd), ai (cy 0) (mo 4) 24 v_3, ai (cy 0) (mo 5) 24 v_4, ai (cy 0) (mo 6) 24 v_5, ai (cy 0) (mo 7) 24 v_6, ai (cy 0) (mo 8) 4 v_7] H := hP
    replace hD : va_D A [oM mo v_1 v_2 co bp ag pn, ai (cy 0) (mo 1) 98 (stF lt mn pt tk mr od rm cd), ai (cy 0) (mo 4) 24 v_3, ai (cy 0) (mo 5) 24 v_4, ai (cy 0) (mo 6) 24 v_5, ai (cy 0) (mo 7) 24 v_6, ai (cy 0) (mo 8) 4 v_7] := hD
    have hcm := RnP_cm hw_12
    have hrl := rn_len lt mn pt tk mr rm cd hlt0 k.toNat
    have hor := RnP_or hw_12
    refine lv_iload_n hx hb dX6_out_15 rfl (lv_at hl 2 rfl) ?_
    refine r_const hx hb dX6_out_16 ?_
    refine lv_aload_n hx hb dX6_out_17 rfl (lv_at hl 0 rfl) ?_
    refine va_get (D := D) (C := RX6) (T := TX6) (N := 16) (ci := 6) (v := .int (iI v_1)) hx hb hts iw_X6_out_6 hown hK hP 0 rfl rfl 4 (by decide) (hts _ fl_X6_out_70) (fun _ h9 => h9) rfl dX6_out_18 ?_
    refine r_const hx hb dX6_out_21 ?_
    refine r_sub hx hb dX6_out_22 ?_
    have M_23 := k_X6_in l D cy  H.size i 0 (v_1 - 1) (hv) (⟨by omega, by omega⟩) (⟨by omega, by omega⟩)
    refine kS_i (wr := [oM mo v_1 v_2 co bp ag pn, ai (cy 0) (mo 1) 98 (stF lt mn pt tk mr od rm cd), ai (cy 0) (mo 4) 24 v_3, ai (cy 0) (mo 5) 24 v_4, ai (cy 0) (mo 6) 24 v_5, ai (cy 0) (mo 7) 24 v_6, ai (cy 0) (mo 8) 4 v_7]) (As := [.int (iI i), .int (iI 0), .int (iI (v_1 - 1))]) (rest := []) ⟨hx, hb, hml, hown, hts⟩ M_23 (va_cwS 3 hts gX6_out_X6_in rfl rfl rfl (by decide +kernel) ⟨Nat.le_of_ble_eq_true rfl, Nat.le_of_ble_eq_true rfl⟩) hN hK hP hD hS hA [] [0, 1, 2, 3, 4, 5, 6] rfl rfl (by decide) (by decide) (by decide) rfl hl.1 rfl (Nat.le_of_ble_eq_true rfl) dX6_out_23 ⟨Nat.le_of_ble_eq_true rfl, Nat.le_of_ble_eq_true rfl⟩ (fun r_23 u_23 H locs hw_23 hP hD hS => ?_)
    replace hP : va_P D vwCl [oM mo v_1 v_2 co bp ag pn, ai (cy 0) (mo 1) 98 (stF lt mn pt tk mr od rm cd), ai (cy 0) (mo 4) 24 v_3, ai (cy 0) (mo 5) 24 v_4, ai (cy 0) (mo 6) 24 v_5, ai (cy 0) (mo 7) 24 v_6, ai (cy 0) (mo 8) 4 v_7] H := hP
    replace hD : va_D A [oM mo v_1 v_2 co bp ag pn, ai (cy 0) (mo 1) 98 (stF lt mn pt tk mr od rm cd), ai (cy 0) (mo 4) 24 v_3, ai (cy 0) (mo 5) 24 v_4, ai (cy 0) (mo 6) 24 v_5, ai (cy 0) (mo 7) 24 v_6, ai (cy 0) (mo 8) 4 v_7] := hD
    refine r_eq0 hx hb 38 dX6_out_26 (by decide) ⟨by omega, by omega⟩ (fun c_26 => ?_) (fun c_26 => ?_)
    ·
      refine r_bip hx hb (-6) dX6_out_38 (by decide) ?_
      exact hret [0, 1, 2, 3, 4, 5, 6] (v_1, v_2, v_3, v_4, v_5, v_6, v_7) dX6_out_40 hP hD hS (by decide) rfl (by unfold fOut; (repeat' split) <;> first | omega | (exact lst_lg hw_12.2.1 (by omega) (by omega)))
    ·
      refine lv_aload_n hx hb dX6_out_29 rfl (lv_at hl 0 rfl) ?_
      refine va_get (D := D) (C := RX6) (T := TX6) (N := 16) (ci := 6) (v := .ref (mo 4)) hx hb hts iw_X6_out_6 hown hK hP 0 rfl rfl 3 (by decide) (hts _ fl_X6_out_20) (fun _ h9 => h9) rfl dX6_out_30 ?_
      refine lv_iload_n hx hb dX6_out_33 rfl (lv_at hl 2 rfl) ?_
      refine r_ald hx hb hK hP 2 rfl rfl ⟨by omega, by omega, by omega⟩ dX6_out_34 ?_
      refine lv_goto (tgt := 40) hx hb dX6_out_35 (by decide) ?_
      exact hret [0, 1, 2, 3, 4, 5, 6] (v_1, v_2, v_3, v_4, v_5, v_6, v_7) dX6_out_40 hP hD hS (by decide) rfl (by unfold fOut; (repeat' split) <;> first | omega | (exact lst_lg hw_12.2.1 (by omega) (by omega)))
  ·
    refine r_bip hx hb (-2) dX6_out_7 (by decide) ?_
    exact hret [0, 1, 2, 3, 4, 5, 6] (rn, sn, rv, sw, gt, sa, ld) dX6_out_9 hP hD hS (by decide) rfl (by unfold fOut; (repeat' split) <;> first | omega | (exact lst_lg hw_12.2.1 (by omega) (by omega)))
abbrev rm_X6_spilled : Room := { frames := 4, cells := 0, slots := 0, locals := 92 }
theorem fl_X6_spilled_29 : Cond.fieldLink RX6 29 "WalkPassesModel" "spilledAt" "[I" ∈ wsX6_spilled := by decide +kernel
theorem iw_X6_spilled_6 : ∀ w ∈ u_ws RX6 TX6 16, w ∈ wsX6_spilled := by decide +kernel
set_option maxHeartbeats 4000000 in
set_option maxRecDepth 100000 in
theorem k_X6_spilled (l : Launch) (D : va_G) (cy : Nat → ClassId) (mo : Nat → Nat) (z : Nat) (rn sn co bp ag pn : Int) (lt mn : Int) (pt tk mr od pl rm cd : Int → Int) (rv sw gt sa ld : Int → Int) (k i : Int) (hI : DI lt mn pt tk mr od pl rm cd) (hk9 : inR k) (hv : inR i) : CtI l yX6_spilled wsX6_spilled rm_X6_spilled D (tyL cy) [.ref (mo 0), .int (iI k), .int (iI i)] [oM mo rn sn co bp ag pn, ai (cy 0) (mo 1) 98 (stF lt mn pt tk mr od rm cd), ai (cy 0) (mo 4) 24 rv, ai (cy 0) (mo 5) 24 sw, ai (cy 0) (mo 6) 24 gt, ai (cy 0) (mo 7) 24 sa, ai (cy 0) (mo 8) 4 ld] z (fun (r : Int) (u : Int × Int × (Int → Int) × (Int → Int) × (Int → Int) × (Int → Int) × (Int → Int)) => r = fSpilled lt mn pt tk mr rm cd k i) (fun (u : Int × Int × (Int → Int) × (Int → Int) × (Int → Int) × (Int → Int) × (Int → Int)) => [oM mo u.1 u.2.1 co bp ag pn, ai (cy 0) (mo 1) 98 (stF lt mn pt tk mr od rm cd), ai (cy 0) (mo 4) 24 u.2.2.1, ai (cy 0) (mo 5) 24 u.2.2.2.1, ai (cy 0) (mo 6) 24 u.2.2.2.2.1, ai (cy 0) (mo 7) 24 u.2.2.2.2.2.1, ai (cy 0) (mo 8) 4 u.2.2.2.2.2.2]) 0 0 := by
  refine ct_i (cc := cX6_spilled) (maxL := 3) (by decide) rfl (Nat.le_of_ble_eq_true rfl) ?_
  intro p e s m args below meth c A Q H locs ls hx hb hml hown hin hts hK hN hP hD hS hA hl hret
  replace hl : lv_has ls 3 [(0, .ref (mo 0)), (1, .int (iI k)), (2, .int (iI i))] := hl
  replace hown : s.vm.findClass RX6 = some m.cls := hown
  obtain ⟨⟨⟨hlt0, hlt1⟩, hmn0, hmn1⟩, ⟨hpt, htk, hmr⟩, ⟨hod, hpl, hpo, hop⟩, hrm, hcd⟩ := id hI
  refine lv_iload_n hx hb dX6_spilled_0 rfl (lv_at hl 1 rfl) ?_
  have M_1 := k_X6_isRun l D cy  H.size k (hk9)
  refine kS_i (wr := [oM mo rn sn co bp ag pn, ai (cy 0) (mo 1) 98 (stF lt mn pt tk mr od rm cd), ai (cy 0) (mo 4) 24 rv, ai (cy 0) (mo 5) 24 sw, ai (cy 0) (mo 6) 24 gt, ai (cy 0) (mo 7) 24 sa, ai (cy 0) (mo 8) 4 ld]) (As := [.int (iI k)]) (rest := []) ⟨hx, hb, hml, hown, hts⟩ M_1 (va_cwS 1 hts gX6_spilled_X6_isRun rfl rfl rfl (by decide +kernel) ⟨Nat.le_of_ble_eq_true rfl, Nat.le_of_ble_eq_true rfl⟩) hN hK hP hD hS hA [] [0, 1, 2, 3, 4, 5, 6] rfl rfl (by decide) (by decide) (by decide) rfl hl.1 rfl (Nat.le_of_ble_eq_true rfl) dX6_spilled_1 ⟨Nat.le_of_ble_eq_true rfl, Nat.le_of_ble_eq_true rfl⟩ (fun r_1 u_1 H locs hw_1 hP hD hS => ?_)
  replace hP : va_P D vwCl [oM mo rn sn co bp ag pn, ai (cy 0) (mo 1) 98 (stF lt mn pt tk mr od rm cd), ai (cy 0) (mo 4) 24 rv, ai (cy 0) (mo 5) 24 sw, ai (cy 0) (mo 6) 24 gt, ai (cy 0) (mo 7) 24 sa, ai (cy 0) (mo 8) 4 ld] H := hP
  replace hD : va_D A [oM mo rn sn co bp ag pn, ai (cy 0) (mo 1) 98 (stF lt mn pt tk mr od rm cd), ai (cy 0) (mo 4) 24 rv, ai (cy 0) (mo 5) 24 sw, ai (cy 0) (mo 6) 24 gt, ai (cy 0) (mo 7) 24 sa, ai (cy 0) (mo 8) 4 ld] := hD
  refine r_ne0 hx hb 10 dX6_spilled_4 (by decide) ⟨by omega, by omega⟩ (fun c_4 => ?_) (fun c_4 => ?_)
  ·
    refine lv_aload_n hx hb dX6_spilled_10 rfl (lv_at hl 0 rfl) ?_
    refine lv_iload_n hx hb dX6_spilled_11 rfl (lv_at hl 2 rfl) ?_
    have M_12 := k_X6_isLetter l D cy mo H.size rn sn co bp ag pn lt mn pt tk mr od pl rm cd i (by omega) (hv)
    refine kV_i (wr := [ai (cy 0) (mo 4) 24 rv, ai (cy 0) (mo 5) 24 sw, ai (cy 0) (mo 6) 24 gt, ai (cy 0) (mo 7) 24 sa, ai (cy 0) (mo 8) 4 ld]) (As := [.int (iI i)]) (rest := []) (q := (RX6, TX6, 16)) (ci := 6) ⟨hx, hb, hml, hown, hts⟩ M_12 0 rfl rfl (cwV 1 hts gX6_spilled_X6_isLetter rfl rfl rfl (by decide +kernel) ⟨Nat.le_of_ble_eq_true rfl, Nat.le_of_ble_eq_true rfl⟩) hN hK hP hD hS hA [0, 1] [2, 3, 4, 5, 6] rfl rfl (by decide) (by decide) (by decide) rfl hl.1 rfl (Nat.le_of_ble_eq_true rfl) dX6_spilled_12 ⟨Nat.le_of_ble_eq_true rfl, Nat.le_of_ble_eq_true rfl⟩ (fun r_12 u_12 H locs hw_12 hP hD hS => ?_)
    replace hP : va_P D vwCl [ai (cy 0) (mo 4) 24 rv, ai (cy 0) (mo 5) 24 sw, ai (cy 0) (mo 6) 24 gt, ai (cy 0) (mo 7) 24 sa, ai (cy 0) (mo 8) 4 ld, oM mo rn sn co bp ag pn, ai (cy 0) (mo 1) 98 (stF lt mn pt tk mr od rm cd)] H := hP
    replace hD : va_D A [ai (cy 0) (mo 4) 24 rv, ai (cy 0) (mo 5) 24 sw, ai (cy 0) (mo 6) 24 gt, ai (cy 0) (mo 7) 24 sa, ai (cy 0) (mo 8) 4 ld, oM mo rn sn co bp ag pn, ai (cy 0) (mo 1) 98 (stF lt mn pt tk mr od rm cd)] := hD
    refine r_ne0 hx hb 20 dX6_spilled_15 (by decide) ⟨by omega, by omega⟩ (fun c_15 => ?_) (fun c_15 => ?_)
    ·
      refine lv_aload_n hx hb dX6_spilled_20 rfl (lv_at hl 0 rfl) ?_
      refine lv_iload_n hx hb dX6_spilled_21 rfl (lv_at hl 1 rfl) ?_
      have M_22 := k_X6_goRun l D cy mo H.size rn sn co bp ag pn lt mn pt tk mr od pl rm cd rv sw gt sa ld k (hI) (by omega)
      refine kV_v (wr := []) (As := [.int (iI k)]) (rest := []) (q := (RX6, TX6, 16)) (ci := 6) ⟨hx, hb, hml, hown, hts⟩ M_22 5 rfl rfl (cwV 1 hts gX6_spilled_X6_goRun rfl rfl rfl (by decide +kernel) ⟨Nat.le_of_ble_eq_true rfl, Nat.le_of_ble_eq_true rfl⟩) hN hK hP hD hS hA [5, 6, 0, 1, 2, 3, 4] [] rfl rfl (by decide) (by decide) (by decide) rfl hl.1 rfl (Nat.le_of_ble_eq_true rfl) dX6_spilled_22 ⟨Nat.le_of_ble_eq_true rfl, Nat.le_of_ble_eq_true rfl⟩ (fun u_22 H locs hw_22 hP hD hS => ?_)
      obtain ⟨v_1, v_2, v_3, v_4, v_5, v_6, v_7⟩ := u_22
      try dsimp only at hw_22
      replace hP : va_P D vwCl [oM mo v_1 v_2 co bp ag pn, ai (cy 0) (mo 1) 98 (stF lt mn pt tk mr od rm cd), ai (cy 0) (mo 4) 24 v_3, ai (cy 0) (mo 5) 24 v_4, ai (cy 0) (mo 6) 24 v_5, ai (cy 0) (mo 7) 24 v_6, ai (cy 0) (mo 8) 4 v_7] H := hP
      replace hD : va_D A [oM mo v_1 v_2 co bp ag pn, ai (cy 0) (mo 1) 98 (stF lt mn pt tk mr od rm cd), ai (cy 0) (mo 4) 24 v_3, ai (cy 0) (mo 5) 24 v_4, ai (cy 0) (mo 6) 24 v_5, ai (cy 0) (mo 7) 24 v_6, ai (cy 0) (mo 8) 4 v_7] := hD
      have hcm := RnP_cm hw_22
      have hrl := rn_len lt mn pt tk mr rm cd hlt0 k.toNat
      have hor := RnP_or hw_22
      refine lv_aload_n hx hb dX6_spilled_25 rfl (lv_at hl 0 rfl) ?_
      refine va_get (D := D) (C := RX6) (T := TX6) (N := 16) (ci := 6) (v := .ref (mo 7)) hx hb hts iw_X6_spilled_6 hown hK hP 0 rfl rfl 8 (by decide) (hts _ fl_X6_spilled_29) (fun _ h9 => h9) rfl dX6_spilled_26 ?_
      refine lv_iload_n hx hb dX6_spilled_29 rfl (lv_at hl 2 rfl) ?_
      refine r_ald hx hb hK hP 5 rfl rfl ⟨by omega, by omega, by omega⟩ dX6_spilled_30 ?_
      exact hret [0, 1, 2, 3, 4, 5, 6] (v_1, v_2, v_3, v_4, v_5, v_6, v_7) dX6_spilled_31 hP hD hS (by decide) rfl (by unfold fSpilled; (repeat' split) <;> first | omega | (exact hw_22.2.2.1 i (by omega) (by omega)))
    ·
      refine r_const hx hb dX6_spilled_18 ?_
      exact hret [5, 6, 0, 1, 2, 3, 4] (rn, sn, rv, sw, gt, sa, ld) dX6_spilled_19 hP hD hS (by decide) rfl (by unfold fSpilled; (repeat' split) <;> first | omega | (exact hw_22.2.2.1 i (by omega) (by omega)))
  ·
    refine r_bip hx hb (-2) dX6_spilled_7 (by decide) ?_
    exact hret [0, 1, 2, 3, 4, 5, 6] (rn, sn, rv, sw, gt, sa, ld) dX6_spilled_9 hP hD hS (by decide) rfl (by unfold fSpilled; (repeat' split) <;> first | omega | (exact hw_22.2.2.1 i (by omega) (by omega)))
abbrev rm_X6_load : Room := { frames := 4, cells := 0, slots := 0, locals := 92 }
theorem fl_X6_load_32 : Cond.fieldLink RX6 32 "WalkPassesModel" "load" "[I" ∈ wsX6_load := by decide +kernel
theorem iw_X6_load_6 : ∀ w ∈ u_ws RX6 TX6 16, w ∈ wsX6_load := by decide +kernel
set_option maxHeartbeats 4000000 in
set_option maxRecDepth 100000 in
theorem k_X6_load (l : Launch) (D : va_G) (cy : Nat → ClassId) (mo : Nat → Nat) (z : Nat) (rn sn co bp ag pn : Int) (lt mn : Int) (pt tk mr od pl rm cd : Int → Int) (rv sw gt sa ld : Int → Int) (k i : Int) (hI : DI lt mn pt tk mr od pl rm cd) (hk9 : inR k) (hv : inR i) : CtI l yX6_load wsX6_load rm_X6_load D (tyL cy) [.ref (mo 0), .int (iI k), .int (iI i)] [oM mo rn sn co bp ag pn, ai (cy 0) (mo 1) 98 (stF lt mn pt tk mr od rm cd), ai (cy 0) (mo 4) 24 rv, ai (cy 0) (mo 5) 24 sw, ai (cy 0) (mo 6) 24 gt, ai (cy 0) (mo 7) 24 sa, ai (cy 0) (mo 8) 4 ld] z (fun (r : Int) (u : Int × Int × (Int → Int) × (Int → Int) × (Int → Int) × (Int → Int) × (Int → Int)) => r = fLoad lt mn pt tk mr rm cd k i) (fun (u : Int × Int × (Int → Int) × (Int → Int) × (Int → Int) × (Int → Int) × (Int → Int)) => [oM mo u.1 u.2.1 co bp ag pn, ai (cy 0) (mo 1) 98 (stF lt mn pt tk mr od rm cd), ai (cy 0) (mo 4) 24 u.2.2.1, ai (cy 0) (mo 5) 24 u.2.2.2.1, ai (cy 0) (mo 6) 24 u.2.2.2.2.1, ai (cy 0) (mo 7) 24 u.2.2.2.2.2.1, ai (cy 0) (mo 8) 4 u.2.2.2.2.2.2]) 0 0 := by
  refine ct_i (cc := cX6_load) (maxL := 3) (by decide) rfl (Nat.le_of_ble_eq_true rfl) ?_
  intro p e s m args below meth c A Q H locs ls hx hb hml hown hin hts hK hN hP hD hS hA hl hret
  replace hl : lv_has ls 3 [(0, .ref (mo 0)), (1, .int (iI k)), (2, .int (iI i))] := hl
  replace hown : s.vm.findClass RX6 = some m.cls := hown
  obtain ⟨⟨⟨hlt0, hlt1⟩, hmn0, hmn1⟩, ⟨hpt, htk, hmr⟩, ⟨hod, hpl, hpo, hop⟩, hrm, hcd⟩ := id hI
  refine lv_iload_n hx hb dX6_load_0 rfl (lv_at hl 1 rfl) ?_
  have M_1 := k_X6_isRun l D cy  H.size k (hk9)
  refine kS_i (wr := [oM mo rn sn co bp ag pn, ai (cy 0) (mo 1) 98 (stF lt mn pt tk mr od rm cd), ai (cy 0) (mo 4) 24 rv, ai (cy 0) (mo 5) 24 sw, ai (cy 0) (mo 6) 24 gt, ai (cy 0) (mo 7) 24 sa, ai (cy 0) (mo 8) 4 ld]) (As := [.int (iI k)]) (rest := []) ⟨hx, hb, hml, hown, hts⟩ M_1 (va_cwS 1 hts gX6_load_X6_isRun rfl rfl rfl (by decide +kernel) ⟨Nat.le_of_ble_eq_true rfl, Nat.le_of_ble_eq_true rfl⟩) hN hK hP hD hS hA [] [0, 1, 2, 3, 4, 5, 6] rfl rfl (by decide) (by decide) (by decide) rfl hl.1 rfl (Nat.le_of_ble_eq_true rfl) dX6_load_1 ⟨Nat.le_of_ble_eq_true rfl, Nat.le_of_ble_eq_true rfl⟩ (fun r_1 u_1 H locs hw_1 hP hD hS => ?_)
  replace hP : va_P D vwCl [oM mo rn sn co bp ag pn, ai (cy 0) (mo 1) 98 (stF lt mn pt tk mr od rm cd), ai (cy 0) (mo 4) 24 rv, ai (cy 0) (mo 5) 24 sw, ai (cy 0) (mo 6) 24 gt, ai (cy 0) (mo 7) 24 sa, ai (cy 0) (mo 8) 4 ld] H := hP
  replace hD : va_D A [oM mo rn sn co bp ag pn, ai (cy 0) (mo 1) 98 (stF lt mn pt tk mr od rm cd), ai (cy 0) (mo 4) 24 rv, ai (cy 0) (mo 5) 24 sw, ai (cy 0) (mo 6) 24 gt, ai (cy 0) (mo 7) 24 sa, ai (cy 0) (mo 8) 4 ld] := hD
  refine r_ne0 hx hb 10 dX6_load_4 (by decide) ⟨by omega, by omega⟩ (fun c_4 => ?_) (fun c_4 => ?_)
  ·
    refine lv_aload_n hx hb dX6_load_10 rfl (lv_at hl 0 rfl) ?_
    refine lv_iload_n hx hb dX6_load_11 rfl (lv_at hl 2 rfl) ?_
    have M_12 := k_X6_isStacker l D cy mo H.size rn sn co bp ag pn lt mn pt tk mr od pl rm cd i (by omega) (hv)
    refine kV_i (wr := [ai (cy 0) (mo 4) 24 rv, ai (cy 0) (mo 5) 24 sw, ai (cy 0) (mo 6) 24 gt, ai (cy 0) (mo 7) 24 sa, ai (cy 0) (mo 8) 4 ld]) (As := [.int (iI i)]) (rest := []) (q := (RX6, TX6, 16)) (ci := 6) ⟨hx, hb, hml, hown, hts⟩ M_12 0 rfl rfl (cwV 1 hts gX6_load_X6_isStacker rfl rfl rfl (by decide +kernel) ⟨Nat.le_of_ble_eq_true rfl, Nat.le_of_ble_eq_true rfl⟩) hN hK hP hD hS hA [0, 1] [2, 3, 4, 5, 6] rfl rfl (by decide) (by decide) (by decide) rfl hl.1 rfl (Nat.le_of_ble_eq_true rfl) dX6_load_12 ⟨Nat.le_of_ble_eq_true rfl, Nat.le_of_ble_eq_true rfl⟩ (fun r_12 u_12 H locs hw_12 hP hD hS => ?_)
    replace hP : va_P D vwCl [ai (cy 0) (mo 4) 24 rv, ai (cy 0) (mo 5) 24 sw, ai (cy 0) (mo 6) 24 gt, ai (cy 0) (mo 7) 24 sa, ai (cy 0) (mo 8) 4 ld, oM mo rn sn co bp ag pn, ai (cy 0) (mo 1) 98 (stF lt mn pt tk mr od rm cd)] H := hP
    replace hD : va_D A [ai (cy 0) (mo 4) 24 rv, ai (cy 0) (mo 5) 24 sw, ai (cy 0) (mo 6) 24 gt, ai (cy 0) (mo 7) 24 sa, ai (cy 0) (mo 8) 4 ld, oM mo rn sn co bp ag pn, ai (cy 0) (mo 1) 98 (stF lt mn pt tk mr od rm cd)] := hD
    refine r_ne0 hx hb 20 dX6_load_15 (by decide) ⟨by omega, by omega⟩ (fun c_15 => ?_) (fun c_15 => ?_)
    ·
      refine lv_aload_n hx hb dX6_load_20 rfl (lv_at hl 0 rfl) ?_
      refine lv_iload_n hx hb dX6_load_21 rfl (lv_at hl 1 rfl) ?_
      have M_22 := k_X6_goRun l D cy mo H.size rn sn co bp ag pn lt mn pt tk mr od pl rm cd rv sw gt sa ld k (hI) (by omega)
      refine kV_v (wr := []) (As := [.int (iI k)]) (rest := []) (q := (RX6, TX6, 16)) (ci := 6) ⟨hx, hb, hml, hown, hts⟩ M_22 5 rfl rfl (cwV 1 hts gX6_load_X6_goRun rfl rfl rfl (by decide +kernel) ⟨Nat.le_of_ble_eq_true rfl, Nat.le_of_ble_eq_true rfl⟩) hN hK hP hD hS hA [5, 6, 0, 1, 2, 3, 4] [] rfl rfl (by decide) (by decide) (by decide) rfl hl.1 rfl (Nat.le_of_ble_eq_true rfl) dX6_load_22 ⟨Nat.le_of_ble_eq_true rfl, Nat.le_of_ble_eq_true rfl⟩ (fun u_22 H locs hw_22 hP hD hS => ?_)
      obtain ⟨v_1, v_2, v_3, v_4, v_5, v_6, v_7⟩ := u_22
      try dsimp only at hw_22
      replace hP : va_P D vwCl [oM mo v_1 v_2 co bp ag pn, ai (cy 0) (mo 1) 98 (stF lt mn pt tk mr od rm cd), ai (cy 0) (mo 4) 24 v_3, ai (cy 0) (mo 5) 24 v_4, ai (cy 0) (mo 6) 24 v_5, ai (cy 0) (mo 7) 24 v_6, ai (cy 0) (mo 8) 4 v_7] H := hP
      replace hD : va_D A [oM mo v_1 v_2 co bp ag pn, ai (cy 0) (mo 1) 98 (stF lt mn pt tk mr od rm cd), ai (cy 0) (mo 4) 24 v_3, ai (cy 0) (mo 5) 24 v_4, ai (cy 0) (mo 6) 24 v_5, ai (cy 0) (mo 7) 24 v_6, ai (cy 0) (mo 8) 4 v_7] := hD
      have hcm := RnP_cm hw_22
      have hrl := rn_len lt mn pt tk mr rm cd hlt0 k.toNat
      have hor := RnP_or hw_22
      refine lv_aload_n hx hb dX6_load_25 rfl (lv_at hl 0 rfl) ?_
      refine va_get (D := D) (C := RX6) (T := TX6) (N := 16) (ci := 6) (v := .ref (mo 8)) hx hb hts iw_X6_load_6 hown hK hP 0 rfl rfl 9 (by decide) (hts _ fl_X6_load_32) (fun _ h9 => h9) rfl dX6_load_26 ?_
      refine lv_iload_n hx hb dX6_load_29 rfl (lv_at hl 2 rfl) ?_
      refine r_ald hx hb hK hP 6 rfl rfl ⟨by omega, by omega, by omega⟩ dX6_load_30 ?_
      exact hret [0, 1, 2, 3, 4, 5, 6] (v_1, v_2, v_3, v_4, v_5, v_6, v_7) dX6_load_31 hP hD hS (by decide) rfl (by unfold fLoad; (repeat' split) <;> first | omega | (rw [hw_22.2.2.2 (by omega)]))
    ·
      refine r_const hx hb dX6_load_18 ?_
      exact hret [5, 6, 0, 1, 2, 3, 4] (rn, sn, rv, sw, gt, sa, ld) dX6_load_19 hP hD hS (by decide) rfl (by unfold fLoad; (repeat' split) <;> first | omega | (rw [hw_22.2.2.2 (by omega)]))
  ·
    refine r_bip hx hb (-2) dX6_load_7 (by decide) ?_
    exact hret [0, 1, 2, 3, 4, 5, 6] (rn, sn, rv, sw, gt, sa, ld) dX6_load_9 hP hD hS (by decide) rfl (by unfold fLoad; (repeat' split) <;> first | omega | (rw [hw_22.2.2.2 (by omega)]))
abbrev rm_X6_saveCodes : Room := { frames := 0, cells := 0, slots := 0, locals := 0 }
theorem fl_X6_saveCodes_7 : Cond.fieldLink RX6 7 "WalkPassesModel" "state" "[I" ∈ wsX6_saveCodes := by decide +kernel
theorem fl_X6_saveCodes_35 : Cond.fieldLink RX6 35 "WalkPassesModel" "codes" "[I" ∈ wsX6_saveCodes := by decide +kernel
theorem iw_X6_saveCodes_6 : ∀ w ∈ u_ws RX6 TX6 16, w ∈ wsX6_saveCodes := by decide +kernel
set_option maxHeartbeats 4000000 in
set_option maxRecDepth 100000 in
theorem k_X6_saveCodes (l : Launch) (D : va_G) (cy : Nat → ClassId) (mo : Nat → Nat) (z : Nat) (rn sn co bp ag pn : Int) (lt mn : Int) (pt tk mr od pl rm cd : Int → Int) (cq : Int → Int) : CtV l yX6_saveCodes wsX6_saveCodes rm_X6_saveCodes D (tyL cy) [.ref (mo 0)] [oM mo rn sn co bp ag pn, ai (cy 0) (mo 1) 98 (stF lt mn pt tk mr od rm cd), ai (cy 0) (mo 9) 10 cq] z (fun (u : Unit) => True) (fun (u : Unit) => [oM mo rn sn co bp ag pn, ai (cy 0) (mo 1) 98 (stF lt mn pt tk mr od rm cd), ai (cy 0) (mo 9) 10 cd]) 0 0 := by
  refine ct_v (cc := cX6_saveCodes) (maxL := 2) (by decide) rfl (Nat.le_of_ble_eq_true rfl) ?_
  intro p e s m args below meth c A Q H locs ls hx hb hml hown hin hts hK hN hP hD hS hA hl hret
  replace hl : lv_has ls 2 [(0, .ref (mo 0))] := hl
  replace hown : s.vm.findClass RX6 = some m.cls := hown
  refine r_const hx hb dX6_saveCodes_0 ?_
  refine lv_istore_n (lv' := [(1, .int (iI 0)), (0, .ref (mo 0))]) hx hb dX6_saveCodes_1 rfl hl (by decide) rfl (fun ls hl => ?_)
  have lp_2 : ∀ (fu : Nat) (i : Int) (B : Int → Int), (0 ≤ i ∧ i ≤ 10) → (∀ t, 0 ≤ t → t < i → B t = cd t) → (10 - i).toNat < fu → ∀ (H : Heap) (locs : List Loc), va_P D vwCl [oM mo rn sn co bp ag pn, ai (cy 0) (mo 1) 98 (stF lt mn pt tk mr od rm cd), ai (cy 0) (mo 9) 10 B] H → va_D A [oM mo rn sn co bp ag pn, ai (cy 0) (mo 1) 98 (stF lt mn pt tk mr od rm cd), ai (cy 0) (mo 9) 10 B] → va_S A s.heap H locs → ∀ (ls : Array Slot), lv_has ls 2 [(0, .ref (mo 0)), (1, .int (iI i))] → W p l e rm_X6_saveCodes s m args below meth c H locs 0 0 Q (F0 m 2 ls []) := by
    intro fu
    induction fu with
    | zero =>
      intro i B h1 h2 hm
      exact absurd hm (Nat.not_lt_zero _)
    | succ fu ih_2 =>
      intro i B h1 h2 hm H locs hP hD hS ls hl
      refine lv_iload_n hx hb dX6_saveCodes_2 rfl (lv_at hl 1 rfl) ?_
      refine r_bip hx hb (10) dX6_saveCodes_3 (by decide) ?_
      refine r_ge hx hb 29 dX6_saveCodes_5 (by decide) ⟨by omega, by omega⟩ ⟨by omega, by omega⟩ (fun c_5 => ?_) (fun c_5 => ?_)
      ·
        replace hP := reF (q := 2) (cd) hP rfl (fun s q1 q2 => h2 s q1 (by omega))
        replace hD := reD (q := 2) (cd) hD rfl
        replace hP : va_P D vwCl [oM mo rn sn co bp ag pn, ai (cy 0) (mo 1) 98 (stF lt mn pt tk mr od rm cd), ai (cy 0) (mo 9) 10 cd] H := hP
        replace hD : va_D A [oM mo rn sn co bp ag pn, ai (cy 0) (mo 1) 98 (stF lt mn pt tk mr od rm cd), ai (cy 0) (mo 9) 10 cd] := hD
        exact hret [0, 1, 2] () dX6_saveCodes_29 hP hD hS (by decide) rfl (by trivial)
      ·
        refine lv_aload_n hx hb dX6_saveCodes_8 rfl (lv_at hl 0 rfl) ?_
        refine va_get (D := D) (C := RX6) (T := TX6) (N := 16) (ci := 6) (v := .ref (mo 9)) hx hb hts iw_X6_saveCodes_6 hown hK hP 0 rfl rfl 10 (by decide) (hts _ fl_X6_saveCodes_35) (fun _ h9 => h9) rfl dX6_saveCodes_9 ?_
        refine lv_iload_n hx hb dX6_saveCodes_12 rfl (lv_at hl 1 rfl) ?_
        refine lv_aload_n hx hb dX6_saveCodes_13 rfl (lv_at hl 0 rfl) ?_
        refine va_get (D := D) (C := RX6) (T := TX6) (N := 16) (ci := 6) (v := .ref (mo 1)) hx hb hts iw_X6_saveCodes_6 hown hK hP 0 rfl rfl 0 (by decide) (hts _ fl_X6_saveCodes_7) (fun _ h9 => h9) rfl dX6_saveCodes_14 ?_
        refine r_bip hx hb (10) dX6_saveCodes_17 (by decide) ?_
        refine lv_iload_n hx hb dX6_saveCodes_19 rfl (lv_at hl 1 rfl) ?_
        refine r_add hx hb dX6_saveCodes_20 ?_
        refine r_ald hx hb hK hP 1 rfl rfl ⟨by omega, by omega, by omega⟩ dX6_saveCodes_21 ?_
        refine r_top (cd i) (stF_cd (by omega) (by omega) (by omega)) ?_
        refine r_ast hx hb hK hP hD hS 2 rfl rfl ⟨by omega, by omega, by omega⟩ dX6_saveCodes_22 (fun H locs hP hD hS => ?_)
        replace hP : va_P D vwCl [oM mo rn sn co bp ag pn, ai (cy 0) (mo 1) 98 (stF lt mn pt tk mr od rm cd), ai (cy 0) (mo 9) 10 (ud B i (cd i))] H := hP
        replace hD : va_D A [oM mo rn sn co bp ag pn, ai (cy 0) (mo 1) 98 (stF lt mn pt tk mr od rm cd), ai (cy 0) (mo 9) 10 (ud B i (cd i))] := hD
        refine r_inc (k := 1) (lv' := [(1, .int (iI (i + 1))), (0, .ref (mo 0))]) hx hb dX6_saveCodes_23 hl rfl (by decide) rfl (fun ls hl => ?_)
        refine lv_goto (tgt := 2) hx hb dX6_saveCodes_26 (by decide) ?_
        exact ih_2 (i + 1) (ud B i (cd i)) (by omega) (fun s q1 q2 => by by_cases e : s = i; (subst e; exact ud_at _ _ _); (rw [ud_ne e]; exact h2 s q1 (by omega))) (by omega) H locs (pick_P hP (is := [0, 1, 2]) rfl) (hD.sub [0, 1, 2] (by decide) rfl) hS ls (lv_sub hl [1, 0] rfl)
  exact lp_2 _ 0 cq (by omega) (fun t q1 q2 => by omega) (Nat.lt_succ_self _) H locs (pick_P hP (is := [0, 1, 2]) rfl) (hD.sub [0, 1, 2] (by decide) rfl) hS ls (lv_sub hl [1, 0] rfl)
abbrev rm_X6_loadCodes : Room := { frames := 0, cells := 0, slots := 0, locals := 0 }
theorem fl_X6_loadCodes_7 : Cond.fieldLink RX6 7 "WalkPassesModel" "state" "[I" ∈ wsX6_loadCodes := by decide +kernel
theorem fl_X6_loadCodes_35 : Cond.fieldLink RX6 35 "WalkPassesModel" "codes" "[I" ∈ wsX6_loadCodes := by decide +kernel
theorem iw_X6_loadCodes_6 : ∀ w ∈ u_ws RX6 TX6 16, w ∈ wsX6_loadCodes := by decide +kernel
set_option maxHeartbeats 4000000 in
set_option maxRecDepth 100000 in
theorem k_X6_loadCodes (l : Launch) (D : va_G) (cy : Nat → ClassId) (mo : Nat → Nat) (z : Nat) (rn sn co bp ag pn : Int) (lt mn : Int) (pt tk mr od pl rm cd : Int → Int) (cq : Int → Int) : CtV l yX6_loadCodes wsX6_loadCodes rm_X6_loadCodes D (tyL cy) [.ref (mo 0)] [oM mo rn sn co bp ag pn, ai (cy 0) (mo 1) 98 (stF lt mn pt tk mr od rm cd), ai (cy 0) (mo 9) 10 cq] z (fun (u : Unit) => True) (fun (u : Unit) => [oM mo rn sn co bp ag pn, ai (cy 0) (mo 1) 98 (stF lt mn pt tk mr od rm cq), ai (cy 0) (mo 9) 10 cq]) 0 0 := by
  refine ct_v (cc := cX6_loadCodes) (maxL := 2) (by decide) rfl (Nat.le_of_ble_eq_true rfl) ?_
  intro p e s m args below meth c A Q H locs ls hx hb hml hown hin hts hK hN hP hD hS hA hl hret
  replace hl : lv_has ls 2 [(0, .ref (mo 0))] := hl
  replace hown : s.vm.findClass RX6 = some m.cls := hown
  refine r_const hx hb dX6_loadCodes_0 ?_
  refine lv_istore_n (lv' := [(1, .int (iI 0)), (0, .ref (mo 0))]) hx hb dX6_loadCodes_1 rfl hl (by decide) rfl (fun ls hl => ?_)
  have lp_2 : ∀ (fu : Nat) (i : Int) (B : Int → Int), (0 ≤ i ∧ i ≤ 10) → (∀ t, 0 ≤ t → t < i → B t = cq t) → (10 - i).toNat < fu → ∀ (H : Heap) (locs : List Loc), va_P D vwCl [oM mo rn sn co bp ag pn, ai (cy 0) (mo 1) 98 (stF lt mn pt tk mr od rm B), ai (cy 0) (mo 9) 10 cq] H → va_D A [oM mo rn sn co bp ag pn, ai (cy 0) (mo 1) 98 (stF lt mn pt tk mr od rm B), ai (cy 0) (mo 9) 10 cq] → va_S A s.heap H locs → ∀ (ls : Array Slot), lv_has ls 2 [(0, .ref (mo 0)), (1, .int (iI i))] → W p l e rm_X6_loadCodes s m args below meth c H locs 0 0 Q (F0 m 2 ls []) := by
    intro fu
    induction fu with
    | zero =>
      intro i B h1 h2 hm
      exact absurd hm (Nat.not_lt_zero _)
    | succ fu ih_2 =>
      intro i B h1 h2 hm H locs hP hD hS ls hl
      refine lv_iload_n hx hb dX6_loadCodes_2 rfl (lv_at hl 1 rfl) ?_
      refine r_bip hx hb (10) dX6_loadCodes_3 (by decide) ?_
      refine r_ge hx hb 29 dX6_loadCodes_5 (by decide) ⟨by omega, by omega⟩ ⟨by omega, by omega⟩ (fun c_5 => ?_) (fun c_5 => ?_)
      ·
        replace hP := reF (q := 1) (stF lt mn pt tk mr od rm cq) hP rfl (stF_same (fun _ _ _ => rfl) (fun q q1 q2 => h2 q q1 (by omega)))
        replace hD := reD (q := 1) (stF lt mn pt tk mr od rm cq) hD rfl
        exact hret [0, 1, 2] () dX6_loadCodes_29 hP hD hS (by decide) rfl (by trivial)
      ·
        refine lv_aload_n hx hb dX6_loadCodes_8 rfl (lv_at hl 0 rfl) ?_
        refine va_get (D := D) (C := RX6) (T := TX6) (N := 16) (ci := 6) (v := .ref (mo 1)) hx hb hts iw_X6_loadCodes_6 hown hK hP 0 rfl rfl 0 (by decide) (hts _ fl_X6_loadCodes_7) (fun _ h9 => h9) rfl dX6_loadCodes_9 ?_
        refine r_bip hx hb (10) dX6_loadCodes_12 (by decide) ?_
        refine lv_iload_n hx hb dX6_loadCodes_14 rfl (lv_at hl 1 rfl) ?_
        refine r_add hx hb dX6_loadCodes_15 ?_
        refine lv_aload_n hx hb dX6_loadCodes_16 rfl (lv_at hl 0 rfl) ?_
        refine va_get (D := D) (C := RX6) (T := TX6) (N := 16) (ci := 6) (v := .ref (mo 9)) hx hb hts iw_X6_loadCodes_6 hown hK hP 0 rfl rfl 10 (by decide) (hts _ fl_X6_loadCodes_35) (fun _ h9 => h9) rfl dX6_loadCodes_17 ?_
        refine lv_iload_n hx hb dX6_loadCodes_20 rfl (lv_at hl 1 rfl) ?_
        refine r_ald hx hb hK hP 2 rfl rfl ⟨by omega, by omega, by omega⟩ dX6_loadCodes_21 ?_
        refine r_ast hx hb hK hP hD hS 1 rfl rfl ⟨by omega, by omega, by omega⟩ dX6_loadCodes_22 (fun H locs hP hD hS => ?_)
        rw [show ud (stF lt mn pt tk mr od rm B) (10 + i) (cq i) = stF lt mn pt tk mr od rm (ud B i (cq i)) from stU_cd (by omega) (by omega) (by omega)] at hP hD
        replace hP : va_P D vwCl [oM mo rn sn co bp ag pn, ai (cy 0) (mo 1) 98 (stF lt mn pt tk mr od rm (ud B i (cq i))), ai (cy 0) (mo 9) 10 cq] H := hP
        replace hD : va_D A [oM mo rn sn co bp ag pn, ai (cy 0) (mo 1) 98 (stF lt mn pt tk mr od rm (ud B i (cq i))), ai (cy 0) (mo 9) 10 cq] := hD
        refine r_inc (k := 1) (lv' := [(1, .int (iI (i + 1))), (0, .ref (mo 0))]) hx hb dX6_loadCodes_23 hl rfl (by decide) rfl (fun ls hl => ?_)
        refine lv_goto (tgt := 2) hx hb dX6_loadCodes_26 (by decide) ?_
        exact ih_2 (i + 1) (ud B i (cq i)) (by omega) (fun s q1 q2 => by by_cases e : s = i; (subst e; exact ud_at _ _ _); (rw [ud_ne e]; exact h2 s q1 (by omega))) (by omega) H locs (pick_P hP (is := [0, 1, 2]) rfl) (hD.sub [0, 1, 2] (by decide) rfl) hS ls (lv_sub hl [1, 0] rfl)
  exact lp_2 _ 0 cd (by omega) (fun t q1 q2 => by omega) (Nat.lt_succ_self _) H locs (pick_P hP (is := [0, 1, 2]) rfl) (hD.sub [0, 1, 2] (by decide) rfl) hS ls (lv_sub hl [1, 0] rfl)
abbrev rm_X6_setRooms : Room := { frames := 0, cells := 0, slots := 0, locals := 0 }
theorem fl_X6_setRooms_7 : Cond.fieldLink RX6 7 "WalkPassesModel" "state" "[I" ∈ wsX6_setRooms := by decide +kernel
theorem iw_X6_setRooms_6 : ∀ w ∈ u_ws RX6 TX6 16, w ∈ wsX6_setRooms := by decide +kernel
set_option maxHeartbeats 4000000 in
set_option maxRecDepth 100000 in
theorem k_X6_setRooms (l : Launch) (D : va_G) (cy : Nat → ClassId) (mo : Nat → Nat) (z : Nat) (rn sn co bp ag pn : Int) (lt mn : Int) (pt tk mr od pl rm cd : Int → Int) (v : Int) : CtV l yX6_setRooms wsX6_setRooms rm_X6_setRooms D (tyL cy) [.ref (mo 0), .int (iI v)] [oM mo rn sn co bp ag pn, ai (cy 0) (mo 1) 98 (stF lt mn pt tk mr od rm cd)] z (fun (u : Unit) => True) (fun (u : Unit) => [oM mo rn sn co bp ag pn, ai (cy 0) (mo 1) 98 (stF lt mn pt tk mr od (fun _ => v) cd)]) 0 0 := by
  refine ct_v (cc := cX6_setRooms) (maxL := 3) (by decide) rfl (Nat.le_of_ble_eq_true rfl) ?_
  intro p e s m args below meth c A Q H locs ls hx hb hml hown hin hts hK hN hP hD hS hA hl hret
  replace hl : lv_has ls 3 [(0, .ref (mo 0)), (1, .int (iI v))] := hl
  replace hown : s.vm.findClass RX6 = some m.cls := hown
  refine r_const hx hb dX6_setRooms_0 ?_
  refine lv_istore_n (lv' := [(2, .int (iI 0)), (0, .ref (mo 0)), (1, .int (iI v))]) hx hb dX6_setRooms_1 rfl hl (by decide) rfl (fun ls hl => ?_)
  have lp_2 : ∀ (fu : Nat) (i : Int) (B : Int → Int), (0 ≤ i ∧ i ≤ 4) → (∀ t, 0 ≤ t → t < i → B t = v) → (4 - i).toNat < fu → ∀ (H : Heap) (locs : List Loc), va_P D vwCl [oM mo rn sn co bp ag pn, ai (cy 0) (mo 1) 98 (stF lt mn pt tk mr od B cd)] H → va_D A [oM mo rn sn co bp ag pn, ai (cy 0) (mo 1) 98 (stF lt mn pt tk mr od B cd)] → va_S A s.heap H locs → ∀ (ls : Array Slot), lv_has ls 3 [(0, .ref (mo 0)), (1, .int (iI v)), (2, .int (iI i))] → W p l e rm_X6_setRooms s m args below meth c H locs 0 0 Q (F0 m 2 ls []) := by
    intro fu
    induction fu with
    | zero =>
      intro i B h1 h2 hm
      exact absurd hm (Nat.not_lt_zero _)
    | succ fu ih_2 =>
      intro i B h1 h2 hm H locs hP hD hS ls hl
      refine lv_iload_n hx hb dX6_setRooms_2 rfl (lv_at hl 2 rfl) ?_
      refine r_const hx hb dX6_setRooms_3 ?_
      refine r_ge hx hb 23 dX6_setRooms_4 (by decide) ⟨by omega, by omega⟩ ⟨by omega, by omega⟩ (fun c_4 => ?_) (fun c_4 => ?_)
      ·
        replace hP := reF (q := 1) (stF lt mn pt tk mr od (fun _ => v) cd) hP rfl (stF_same (fun q q1 q2 => h2 q q1 (by omega)) (fun _ _ _ => rfl))
        replace hD := reD (q := 1) (stF lt mn pt tk mr od (fun _ => v) cd) hD rfl
        exact hret [0, 1] () dX6_setRooms_23 hP hD hS (by decide) rfl (by trivial)
      ·
        refine lv_aload_n hx hb dX6_setRooms_7 rfl (lv_at hl 0 rfl) ?_
        refine va_get (D := D) (C := RX6) (T := TX6) (N := 16) (ci := 6) (v := .ref (mo 1)) hx hb hts iw_X6_setRooms_6 hown hK hP 0 rfl rfl 0 (by decide) (hts _ fl_X6_setRooms_7) (fun _ h9 => h9) rfl dX6_setRooms_8 ?_
        refine r_bip hx hb (20) dX6_setRooms_11 (by decide) ?_
        refine lv_iload_n hx hb dX6_setRooms_13 rfl (lv_at hl 2 rfl) ?_
        refine r_add hx hb dX6_setRooms_14 ?_
        refine lv_iload_n hx hb dX6_setRooms_15 rfl (lv_at hl 1 rfl) ?_
        refine r_ast hx hb hK hP hD hS 1 rfl rfl ⟨by omega, by omega, by omega⟩ dX6_setRooms_16 (fun H locs hP hD hS => ?_)
        rw [show ud (stF lt mn pt tk mr od B cd) (20 + i) v = stF lt mn pt tk mr od (ud B i v) cd from stU_rm (by omega) (by omega) (by omega)] at hP hD
        replace hP : va_P D vwCl [oM mo rn sn co bp ag pn, ai (cy 0) (mo 1) 98 (stF lt mn pt tk mr od (ud B i v) cd)] H := hP
        replace hD : va_D A [oM mo rn sn co bp ag pn, ai (cy 0) (mo 1) 98 (stF lt mn pt tk mr od (ud B i v) cd)] := hD
        refine r_inc (k := 2) (lv' := [(2, .int (iI (i + 1))), (0, .ref (mo 0)), (1, .int (iI v))]) hx hb dX6_setRooms_17 hl rfl (by decide) rfl (fun ls hl => ?_)
        refine lv_goto (tgt := 2) hx hb dX6_setRooms_20 (by decide) ?_
        exact ih_2 (i + 1) (ud B i v) (by omega) (fun s q1 q2 => by by_cases e : s = i; (subst e; exact ud_at _ _ _); (rw [ud_ne e]; exact h2 s q1 (by omega))) (by omega) H locs (pick_P hP (is := [0, 1]) rfl) (hD.sub [0, 1] (by decide) rfl) hS ls (lv_sub hl [1, 2, 0] rfl)
  exact lp_2 _ 0 rm (by omega) (fun t q1 q2 => by omega) (Nat.lt_succ_self _) H locs (pick_P hP (is := [0, 1]) rfl) (hD.sub [0, 1] (by decide) rfl) hS ls (lv_sub hl [1, 2, 0] rfl)
