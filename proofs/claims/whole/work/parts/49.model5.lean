abbrev rm_X6_image : Room := { frames := 1, cells := 0, slots := 0, locals := 22 }
theorem fl_X6_image_7 : Cond.fieldLink RX6 7 "WalkPassesModel" "state" "[I" ∈ wsX6_image := by decide +kernel
theorem fl_X6_image_13 : Cond.fieldLink RX6 13 "WalkPassesModel" "images" "[I" ∈ wsX6_image := by decide +kernel
theorem fl_X6_image_16 : Cond.fieldLink RX6 16 "WalkPassesModel" "isKept" "[Z" ∈ wsX6_image := by decide +kernel
theorem iw_X6_image_6 : ∀ w ∈ u_ws RX6 TX6 16, w ∈ wsX6_image := by decide +kernel
set_option maxHeartbeats 4000000 in
set_option maxRecDepth 100000 in
theorem k_X6_image (l : Launch) (D : va_G) (cy : Nat → ClassId) (mo : Nat → Nat) (z : Nat) (rn sn co bp ag pn : Int) (lt mn : Int) (pt tk mr od pl rm cd : Int → Int) (im kf : Int → Int) (k : Int) (hkf : ∀ j, 0 ≤ kf j ∧ kf j ≤ 1) (hk9 : inR k) : CtI l yX6_image wsX6_image rm_X6_image D (tyL cy) [.ref (mo 0), .int (iI k)] [oM mo rn sn co bp ag pn, ai (cy 0) (mo 1) 98 (stF lt mn pt tk mr od rm cd), ai (cy 0) (mo 2) 196 im, ai (cy 1) (mo 3) 2 kf] z (fun (r : Int) (u : (Int → Int) × (Int → Int)) => ((0 ≤ k ∧ k ≤ 1) ∧ r = 1 ∧ u = (putR (stF lt mn pt tk mr od rm cd) im (98 * k) 98, ud kf k 1)) ∨ ((k < 0 ∨ 1 < k) ∧ r = -2 ∧ u = (im, kf))) (fun (u : (Int → Int) × (Int → Int)) => [oM mo rn sn co bp ag pn, ai (cy 0) (mo 1) 98 (stF lt mn pt tk mr od rm cd), ai (cy 0) (mo 2) 196 u.1, ai (cy 1) (mo 3) 2 u.2]) 0 0 := by
  refine ct_i (cc := cX6_image) (maxL := 3) (by decide) rfl (Nat.le_of_ble_eq_true rfl) ?_
  intro p e s m args below meth c A Q H locs ls hx hb hml hown hin hts hK hN hP hD hS hA hl hret
  replace hl : lv_has ls 3 [(0, .ref (mo 0)), (1, .int (iI k))] := hl
  replace hown : s.vm.findClass RX6 = some m.cls := hown
  refine lv_iload_n hx hb dX6_image_0 rfl (lv_at hl 1 rfl) ?_
  refine r_const hx hb dX6_image_1 ?_
  refine r_const hx hb dX6_image_2 ?_
  have M_3 := k_X6_in l D cy  H.size k 0 1 (hk9) (⟨by omega, by omega⟩) (⟨by omega, by omega⟩)
  refine kS_i (wr := [oM mo rn sn co bp ag pn, ai (cy 0) (mo 1) 98 (stF lt mn pt tk mr od rm cd), ai (cy 0) (mo 2) 196 im, ai (cy 1) (mo 3) 2 kf]) (As := [.int (iI k), .int (iI 0), .int (iI 1)]) (rest := []) ⟨hx, hb, hml, hown, hts⟩ M_3 (va_cwS 3 hts gX6_image_X6_in rfl rfl rfl (by decide +kernel) ⟨Nat.le_of_ble_eq_true rfl, Nat.le_of_ble_eq_true rfl⟩) hN hK hP hD hS hA [] [0, 1, 2, 3] rfl rfl (by decide) (by decide) (by decide) rfl hl.1 rfl (Nat.le_of_ble_eq_true rfl) dX6_image_3 ⟨Nat.le_of_ble_eq_true rfl, Nat.le_of_ble_eq_true rfl⟩ (fun r_3 u_3 H locs hw_3 hP hD hS => ?_)
  replace hP : va_P D vwCl [oM mo rn sn co bp ag pn, ai (cy 0) (mo 1) 98 (stF lt mn pt tk mr od rm cd), ai (cy 0) (mo 2) 196 im, ai (cy 1) (mo 3) 2 kf] H := hP
  replace hD : va_D A [oM mo rn sn co bp ag pn, ai (cy 0) (mo 1) 98 (stF lt mn pt tk mr od rm cd), ai (cy 0) (mo 2) 196 im, ai (cy 1) (mo 3) 2 kf] := hD
  refine r_ne0 hx hb 12 dX6_image_6 (by decide) ⟨by omega, by omega⟩ (fun c_6 => ?_) (fun c_6 => ?_)
  ·
    refine r_const hx hb dX6_image_12 ?_
    refine lv_istore_n (lv' := [(2, .int (iI 0)), (0, .ref (mo 0)), (1, .int (iI k))]) hx hb dX6_image_13 rfl hl (by decide) rfl (fun ls hl => ?_)
    have lp_14 : ∀ (fu : Nat) (i : Int) (B : Int → Int), (0 ≤ i ∧ i ≤ 98) → (B = putR (stF lt mn pt tk mr od rm cd) im (98 * k) i) → (98 - i).toNat < fu → ∀ (H : Heap) (locs : List Loc), va_P D vwCl [oM mo rn sn co bp ag pn, ai (cy 0) (mo 1) 98 (stF lt mn pt tk mr od rm cd), ai (cy 0) (mo 2) 196 B, ai (cy 1) (mo 3) 2 kf] H → va_D A [oM mo rn sn co bp ag pn, ai (cy 0) (mo 1) 98 (stF lt mn pt tk mr od rm cd), ai (cy 0) (mo 2) 196 B, ai (cy 1) (mo 3) 2 kf] → va_S A s.heap H locs → ∀ (ls : Array Slot), lv_has ls 3 [(0, .ref (mo 0)), (1, .int (iI k)), (2, .int (iI i))] → W p l e rm_X6_image s m args below meth c H locs 0 0 Q (F0 m 14 ls []) := by
      intro fu
      induction fu with
      | zero =>
        intro i B h1 h2 hm
        exact absurd hm (Nat.not_lt_zero _)
      | succ fu ih_14 =>
        intro i B h1 h2 hm H locs hP hD hS ls hl
        refine lv_iload_n hx hb dX6_image_14 rfl (lv_at hl 2 rfl) ?_
        refine r_bip hx hb (98) dX6_image_15 (by decide) ?_
        refine r_ge hx hb 43 dX6_image_17 (by decide) ⟨by omega, by omega⟩ ⟨by omega, by omega⟩ (fun c_17 => ?_) (fun c_17 => ?_)
        ·
          refine lv_aload_n hx hb dX6_image_43 rfl (lv_at hl 0 rfl) ?_
          refine va_get (D := D) (C := RX6) (T := TX6) (N := 16) (ci := 6) (v := .ref (mo 3)) hx hb hts iw_X6_image_6 hown hK hP 0 rfl rfl 2 (by decide) (hts _ fl_X6_image_16) (fun _ h9 => h9) rfl dX6_image_44 ?_
          refine lv_iload_n hx hb dX6_image_47 rfl (lv_at hl 1 rfl) ?_
          refine r_const hx hb dX6_image_48 ?_
          refine r_zast hx hb hK hP hD hS 3 rfl rfl ⟨by omega, by omega, by omega⟩ (by omega) dX6_image_49 (fun H locs hP hD hS => ?_)
          replace hP : va_P D vwCl [oM mo rn sn co bp ag pn, ai (cy 0) (mo 1) 98 (stF lt mn pt tk mr od rm cd), ai (cy 0) (mo 2) 196 B, ai (cy 1) (mo 3) 2 (ud kf k 1)] H := hP
          replace hD : va_D A [oM mo rn sn co bp ag pn, ai (cy 0) (mo 1) 98 (stF lt mn pt tk mr od rm cd), ai (cy 0) (mo 2) 196 B, ai (cy 1) (mo 3) 2 (ud kf k 1)] := hD
          refine r_const hx hb dX6_image_50 ?_
          obtain rfl : i = 98 := by omega
          subst h2
          exact hret [0, 1, 2, 3] (putR (stF lt mn pt tk mr od rm cd) im (98 * k) 98, ud kf k 1) dX6_image_51 hP hD hS (by decide) rfl (Or.inl ⟨by omega, rfl, rfl⟩)
        ·
          refine lv_aload_n hx hb dX6_image_20 rfl (lv_at hl 0 rfl) ?_
          refine va_get (D := D) (C := RX6) (T := TX6) (N := 16) (ci := 6) (v := .ref (mo 2)) hx hb hts iw_X6_image_6 hown hK hP 0 rfl rfl 1 (by decide) (hts _ fl_X6_image_13) (fun _ h9 => h9) rfl dX6_image_21 ?_
          refine r_bip hx hb (98) dX6_image_24 (by decide) ?_
          refine lv_iload_n hx hb dX6_image_26 rfl (lv_at hl 1 rfl) ?_
          refine r_mul hx hb dX6_image_27 ?_
          refine lv_iload_n hx hb dX6_image_28 rfl (lv_at hl 2 rfl) ?_
          refine r_add hx hb dX6_image_29 ?_
          refine lv_aload_n hx hb dX6_image_30 rfl (lv_at hl 0 rfl) ?_
          refine va_get (D := D) (C := RX6) (T := TX6) (N := 16) (ci := 6) (v := .ref (mo 1)) hx hb hts iw_X6_image_6 hown hK hP 0 rfl rfl 0 (by decide) (hts _ fl_X6_image_7) (fun _ h9 => h9) rfl dX6_image_31 ?_
          refine lv_iload_n hx hb dX6_image_34 rfl (lv_at hl 2 rfl) ?_
          refine r_ald hx hb hK hP 1 rfl rfl ⟨by omega, by omega, by omega⟩ dX6_image_35 ?_
          refine r_ast hx hb hK hP hD hS 2 rfl rfl ⟨by omega, by omega, by omega⟩ dX6_image_36 (fun H locs hP hD hS => ?_)
          replace hP : va_P D vwCl [oM mo rn sn co bp ag pn, ai (cy 0) (mo 1) 98 (stF lt mn pt tk mr od rm cd), ai (cy 0) (mo 2) 196 (ud B ((98 * k) + i) ((stF lt mn pt tk mr od rm cd) i)), ai (cy 1) (mo 3) 2 kf] H := hP
          replace hD : va_D A [oM mo rn sn co bp ag pn, ai (cy 0) (mo 1) 98 (stF lt mn pt tk mr od rm cd), ai (cy 0) (mo 2) 196 (ud B ((98 * k) + i) ((stF lt mn pt tk mr od rm cd) i)), ai (cy 1) (mo 3) 2 kf] := hD
          refine r_inc (k := 2) (lv' := [(2, .int (iI (i + 1))), (0, .ref (mo 0)), (1, .int (iI k))]) hx hb dX6_image_37 hl rfl (by decide) rfl (fun ls hl => ?_)
          refine lv_goto (tgt := 14) hx hb dX6_image_40 (by decide) ?_
          exact ih_14 (i + 1) (ud B ((98 * k) + i) ((stF lt mn pt tk mr od rm cd) i)) (by omega) (by rw [h2, putR_s h1.1]) (by omega) H locs (pick_P hP (is := [0, 1, 2, 3]) rfl) (hD.sub [0, 1, 2, 3] (by decide) rfl) hS ls (lv_sub hl [1, 2, 0] rfl)
    exact lp_14 _ 0 im (by omega) ((putR_0 _ _ _).symm) (Nat.lt_succ_self _) H locs (pick_P hP (is := [0, 1, 2, 3]) rfl) (hD.sub [0, 1, 2, 3] (by decide) rfl) hS ls (lv_sub hl [1, 2, 0] rfl)
  ·
    refine r_bip hx hb (-2) dX6_image_9 (by decide) ?_
    exact hret [0, 1, 2, 3] (im, kf) dX6_image_11 hP hD hS (by decide) rfl (Or.inr ⟨by omega, rfl, rfl⟩)
abbrev rm_X6_restore : Room := { frames := 1, cells := 0, slots := 0, locals := 22 }
theorem fl_X6_restore_7 : Cond.fieldLink RX6 7 "WalkPassesModel" "state" "[I" ∈ wsX6_restore := by decide +kernel
theorem fl_X6_restore_13 : Cond.fieldLink RX6 13 "WalkPassesModel" "images" "[I" ∈ wsX6_restore := by decide +kernel
theorem fl_X6_restore_16 : Cond.fieldLink RX6 16 "WalkPassesModel" "isKept" "[Z" ∈ wsX6_restore := by decide +kernel
theorem iw_X6_restore_6 : ∀ w ∈ u_ws RX6 TX6 16, w ∈ wsX6_restore := by decide +kernel
set_option maxHeartbeats 4000000 in
set_option maxRecDepth 100000 in
theorem k_X6_restore (l : Launch) (D : va_G) (cy : Nat → ClassId) (mo : Nat → Nat) (z : Nat) (rn sn co bp ag pn : Int) (lt mn : Int) (pt tk mr od pl rm cd : Int → Int) (im kf : Int → Int) (alt amn : Int) (apt atk amr aod arm acd : Int → Int) (k : Int) (hkf : ∀ j, 0 ≤ kf j ∧ kf j ≤ 1) (hk9 : inR k) (him : (0 ≤ k ∧ k ≤ 1) → kf k = 1 → ∀ j, 0 ≤ j → j < 98 → im (98 * k + j) = stF alt amn apt atk amr aod arm acd j) : CtI l yX6_restore wsX6_restore rm_X6_restore D (tyL cy) [.ref (mo 0), .int (iI k)] [oM mo rn sn co bp ag pn, ai (cy 0) (mo 1) 98 (stF lt mn pt tk mr od rm cd), ai (cy 0) (mo 2) 196 im, ai (cy 1) (mo 3) 2 kf] z (fun (r : Int) (u : Int × Int × (Int → Int) × (Int → Int) × (Int → Int) × (Int → Int) × (Int → Int) × (Int → Int)) => ((0 ≤ k ∧ k ≤ 1) ∧ kf k = 1 ∧ r = 1 ∧ u = (alt, amn, apt, atk, amr, aod, arm, acd)) ∨ ((0 ≤ k ∧ k ≤ 1) ∧ kf k = 0 ∧ r = -3 ∧ u = (lt, mn, pt, tk, mr, od, rm, cd)) ∨ ((k < 0 ∨ 1 < k) ∧ r = -2 ∧ u = (lt, mn, pt, tk, mr, od, rm, cd))) (fun (u : Int × Int × (Int → Int) × (Int → Int) × (Int → Int) × (Int → Int) × (Int → Int) × (Int → Int)) => [oM mo rn sn co bp ag pn, ai (cy 0) (mo 1) 98 (stF u.1 u.2.1 u.2.2.1 u.2.2.2.1 u.2.2.2.2.1 u.2.2.2.2.2.1 u.2.2.2.2.2.2.1 u.2.2.2.2.2.2.2), ai (cy 0) (mo 2) 196 im, ai (cy 1) (mo 3) 2 kf]) 0 0 := by
  refine ct_i (cc := cX6_restore) (maxL := 3) (by decide) rfl (Nat.le_of_ble_eq_true rfl) ?_
  intro p e s m args below meth c A Q H locs ls hx hb hml hown hin hts hK hN hP hD hS hA hl hret
  replace hl : lv_has ls 3 [(0, .ref (mo 0)), (1, .int (iI k))] := hl
  replace hown : s.vm.findClass RX6 = some m.cls := hown
  refine lv_iload_n hx hb dX6_restore_0 rfl (lv_at hl 1 rfl) ?_
  refine r_const hx hb dX6_restore_1 ?_
  refine r_const hx hb dX6_restore_2 ?_
  have M_3 := k_X6_in l D cy  H.size k 0 1 (hk9) (⟨by omega, by omega⟩) (⟨by omega, by omega⟩)
  refine kS_i (wr := [oM mo rn sn co bp ag pn, ai (cy 0) (mo 1) 98 (stF lt mn pt tk mr od rm cd), ai (cy 0) (mo 2) 196 im, ai (cy 1) (mo 3) 2 kf]) (As := [.int (iI k), .int (iI 0), .int (iI 1)]) (rest := []) ⟨hx, hb, hml, hown, hts⟩ M_3 (va_cwS 3 hts gX6_restore_X6_in rfl rfl rfl (by decide +kernel) ⟨Nat.le_of_ble_eq_true rfl, Nat.le_of_ble_eq_true rfl⟩) hN hK hP hD hS hA [] [0, 1, 2, 3] rfl rfl (by decide) (by decide) (by decide) rfl hl.1 rfl (Nat.le_of_ble_eq_true rfl) dX6_restore_3 ⟨Nat.le_of_ble_eq_true rfl, Nat.le_of_ble_eq_true rfl⟩ (fun r_3 u_3 H locs hw_3 hP hD hS => ?_)
  replace hP : va_P D vwCl [oM mo rn sn co bp ag pn, ai (cy 0) (mo 1) 98 (stF lt mn pt tk mr od rm cd), ai (cy 0) (mo 2) 196 im, ai (cy 1) (mo 3) 2 kf] H := hP
  replace hD : va_D A [oM mo rn sn co bp ag pn, ai (cy 0) (mo 1) 98 (stF lt mn pt tk mr od rm cd), ai (cy 0) (mo 2) 196 im, ai (cy 1) (mo 3) 2 kf] := hD
  refine r_ne0 hx hb 12 dX6_restore_6 (by decide) ⟨by omega, by omega⟩ (fun c_6 => ?_) (fun c_6 => ?_)
  ·
    refine lv_aload_n hx hb dX6_restore_12 rfl (lv_at hl 0 rfl) ?_
    refine va_get (D := D) (C := RX6) (T := TX6) (N := 16) (ci := 6) (v := .ref (mo 3)) hx hb hts iw_X6_restore_6 hown hK hP 0 rfl rfl 2 (by decide) (hts _ fl_X6_restore_16) (fun _ h9 => h9) rfl dX6_restore_13 ?_
    refine lv_iload_n hx hb dX6_restore_16 rfl (lv_at hl 1 rfl) ?_
    refine r_zald hx hb hK hP 3 rfl rfl ⟨by omega, by omega, by omega⟩ dX6_restore_17 ?_
    have b_17 := hkf k
    refine r_ne0 hx hb 24 dX6_restore_18 (by decide) ⟨by omega, by omega⟩ (fun c_18 => ?_) (fun c_18 => ?_)
    ·
      refine r_const hx hb dX6_restore_24 ?_
      refine lv_istore_n (lv' := [(2, .int (iI 0)), (0, .ref (mo 0)), (1, .int (iI k))]) hx hb dX6_restore_25 rfl hl (by decide) rfl (fun ls hl => ?_)
      have lp_26 : ∀ (fu : Nat) (i : Int) (B : Int → Int), (0 ≤ i ∧ i ≤ 98) → (∀ t, 0 ≤ t → t < i → B t = im (98 * k + t)) → (98 - i).toNat < fu → ∀ (H : Heap) (locs : List Loc), va_P D vwCl [oM mo rn sn co bp ag pn, ai (cy 0) (mo 1) 98 B, ai (cy 0) (mo 2) 196 im, ai (cy 1) (mo 3) 2 kf] H → va_D A [oM mo rn sn co bp ag pn, ai (cy 0) (mo 1) 98 B, ai (cy 0) (mo 2) 196 im, ai (cy 1) (mo 3) 2 kf] → va_S A s.heap H locs → ∀ (ls : Array Slot), lv_has ls 3 [(0, .ref (mo 0)), (1, .int (iI k)), (2, .int (iI i))] → W p l e rm_X6_restore s m args below meth c H locs 0 0 Q (F0 m 26 ls []) := by
        intro fu
        induction fu with
        | zero =>
          intro i B h1 h2 hm
          exact absurd hm (Nat.not_lt_zero _)
        | succ fu ih_26 =>
          intro i B h1 h2 hm H locs hP hD hS ls hl
          refine lv_iload_n hx hb dX6_restore_26 rfl (lv_at hl 2 rfl) ?_
          refine r_bip hx hb (98) dX6_restore_27 (by decide) ?_
          refine r_ge hx hb 55 dX6_restore_29 (by decide) ⟨by omega, by omega⟩ ⟨by omega, by omega⟩ (fun c_29 => ?_) (fun c_29 => ?_)
          ·
            refine r_const hx hb dX6_restore_55 ?_
            replace hP := reF (q := 1) (stF alt amn apt atk amr aod arm acd) hP rfl (fun j q1 q2 => by rw [h2 j q1 (by omega)]; exact him (by omega) (by omega) j q1 (by omega))
            replace hD := reD (q := 1) (stF alt amn apt atk amr aod arm acd) hD rfl
            exact hret [0, 1, 2, 3] (alt, amn, apt, atk, amr, aod, arm, acd) dX6_restore_56 hP hD hS (by decide) rfl (Or.inl ⟨by omega, by omega, rfl, rfl⟩)
          ·
            refine lv_aload_n hx hb dX6_restore_32 rfl (lv_at hl 0 rfl) ?_
            refine va_get (D := D) (C := RX6) (T := TX6) (N := 16) (ci := 6) (v := .ref (mo 1)) hx hb hts iw_X6_restore_6 hown hK hP 0 rfl rfl 0 (by decide) (hts _ fl_X6_restore_7) (fun _ h9 => h9) rfl dX6_restore_33 ?_
            refine lv_iload_n hx hb dX6_restore_36 rfl (lv_at hl 2 rfl) ?_
            refine lv_aload_n hx hb dX6_restore_37 rfl (lv_at hl 0 rfl) ?_
            refine va_get (D := D) (C := RX6) (T := TX6) (N := 16) (ci := 6) (v := .ref (mo 2)) hx hb hts iw_X6_restore_6 hown hK hP 0 rfl rfl 1 (by decide) (hts _ fl_X6_restore_13) (fun _ h9 => h9) rfl dX6_restore_38 ?_
            refine r_bip hx hb (98) dX6_restore_41 (by decide) ?_
            refine lv_iload_n hx hb dX6_restore_43 rfl (lv_at hl 1 rfl) ?_
            refine r_mul hx hb dX6_restore_44 ?_
            refine lv_iload_n hx hb dX6_restore_45 rfl (lv_at hl 2 rfl) ?_
            refine r_add hx hb dX6_restore_46 ?_
            refine r_ald hx hb hK hP 2 rfl rfl ⟨by omega, by omega, by omega⟩ dX6_restore_47 ?_
            refine r_ast hx hb hK hP hD hS 1 rfl rfl ⟨by omega, by omega, by omega⟩ dX6_restore_48 (fun H locs hP hD hS => ?_)
            replace hP : va_P D vwCl [oM mo rn sn co bp ag pn, ai (cy 0) (mo 1) 98 (ud B i (im ((98 * k) + i))), ai (cy 0) (mo 2) 196 im, ai (cy 1) (mo 3) 2 kf] H := hP
            replace hD : va_D A [oM mo rn sn co bp ag pn, ai (cy 0) (mo 1) 98 (ud B i (im ((98 * k) + i))), ai (cy 0) (mo 2) 196 im, ai (cy 1) (mo 3) 2 kf] := hD
            refine r_inc (k := 2) (lv' := [(2, .int (iI (i + 1))), (0, .ref (mo 0)), (1, .int (iI k))]) hx hb dX6_restore_49 hl rfl (by decide) rfl (fun ls hl => ?_)
            refine lv_goto (tgt := 26) hx hb dX6_restore_52 (by decide) ?_
            exact ih_26 (i + 1) (ud B i (im ((98 * k) + i))) (by omega) (fun s q1 q2 => by by_cases e : s = i; (subst e; exact ud_at _ _ _); (rw [ud_ne e]; exact h2 s q1 (by omega))) (by omega) H locs (pick_P hP (is := [0, 1, 2, 3]) rfl) (hD.sub [0, 1, 2, 3] (by decide) rfl) hS ls (lv_sub hl [1, 2, 0] rfl)
      exact lp_26 _ 0 (stF lt mn pt tk mr od rm cd) (by omega) (fun t q1 q2 => by omega) (Nat.lt_succ_self _) H locs (pick_P hP (is := [0, 1, 2, 3]) rfl) (hD.sub [0, 1, 2, 3] (by decide) rfl) hS ls (lv_sub hl [1, 2, 0] rfl)
    ·
      refine r_bip hx hb (-3) dX6_restore_21 (by decide) ?_
      exact hret [0, 1, 2, 3] (lt, mn, pt, tk, mr, od, rm, cd) dX6_restore_23 hP hD hS (by decide) rfl (Or.inr (Or.inl ⟨by omega, by omega, rfl, rfl⟩))
  ·
    refine r_bip hx hb (-2) dX6_restore_9 (by decide) ?_
    exact hret [0, 1, 2, 3] (lt, mn, pt, tk, mr, od, rm, cd) dX6_restore_11 hP hD hS (by decide) rfl (Or.inr (Or.inr ⟨by omega, rfl, rfl⟩))
