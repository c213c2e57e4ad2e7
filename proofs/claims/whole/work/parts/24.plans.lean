abbrev rm_X3_begin : Room := { frames := 1, cells := 0, slots := 0, locals := 23 }
theorem fl_X3_begin_9 : Cond.fieldLink RX3 9 "WalkPasses$Plans" "points" "[I" ∈ wsX3_begin := by decide +kernel
theorem fl_X3_begin_15 : Cond.fieldLink RX3 15 "WalkPasses$Plans" "codes" "[I" ∈ wsX3_begin := by decide +kernel
theorem fl_X3_begin_28 : Cond.fieldLink RX3 28 "WalkPasses$Plans" "below" "I" ∈ wsX3_begin := by decide +kernel
theorem fl_X3_begin_31 : Cond.fieldLink RX3 31 "WalkPasses$Plans" "size" "I" ∈ wsX3_begin := by decide +kernel
theorem iw_X3_begin_1 : ∀ w ∈ u_ws RX1 TX1 10, w ∈ wsX3_begin := by decide +kernel
theorem iw_X3_begin_3 : ∀ w ∈ u_ws RX3 TX3 4, w ∈ wsX3_begin := by decide +kernel
set_option maxHeartbeats 4000000 in
set_option maxRecDepth 100000 in
theorem k_X3_begin (l : Launch) (D : va_G) (cy : Nat → ClassId) (fs d : Nat → Nat) (z : Nat) (sz be : Int) (fp fc : Int → Int) (lt mn vs : Int) (pt tk mr od pl rm cd : Int → Int) (k : Int) (hI : DI lt mn pt tk mr od pl rm cd) (hk : 1 ≤ k ∧ k ≤ 3) (hfp : ∀ j, 0 ≤ fp j ∧ fp j ≤ 9) (hfc : ∀ j, 0 ≤ fc j ∧ fc j ≤ 63) : CtI l yX3_begin wsX3_begin rm_X3_begin D (tyL cy) [.ref (fs 0), .ref (d 0), .int (iI k)] [oF fs sz be, ai (cy 0) (fs 1) 10 fp, ai (cy 0) (fs 2) 10 fc, oD d lt mn vs, ai (cy 0) (d 1) 24 pt, ai (cy 0) (d 2) 24 tk, ai (cy 0) (d 3) 24 mr, ai (cy 0) (d 4) 10 od, ai (cy 0) (d 5) 10 pl, ai (cy 0) (d 6) 4 rm, ai (cy 0) (d 7) 10 cd] z (fun (r : Int) (u : Int × (Int → Int) × (Int → Int)) => PlI u.1 (pw mn k.toNat) u.2.1 u.2.2 ∧ lst u.2.1 u.1.toNat = usd (hasI pt lt) od 10 ∧ cds u.2.1 u.2.2 u.1 = seqF 0 u.1.toNat ∧ ((r = 1 ∧ u.1 ≤ pw mn k.toNat) ∨ (r = 0 ∧ pw mn k.toNat < u.1))) (fun (u : Int × (Int → Int) × (Int → Int)) => [oF fs u.1 (pw mn k.toNat), ai (cy 0) (fs 1) 10 u.2.1, ai (cy 0) (fs 2) 10 u.2.2, oD d lt mn vs, ai (cy 0) (d 1) 24 pt, ai (cy 0) (d 2) 24 tk, ai (cy 0) (d 3) 24 mr, ai (cy 0) (d 4) 10 od, ai (cy 0) (d 5) 10 pl, ai (cy 0) (d 6) 4 rm, ai (cy 0) (d 7) 10 cd]) 0 0 := by
  refine ct_z (cc := cX3_begin) (maxL := 5) (by decide) rfl (Nat.le_of_ble_eq_true rfl) ?_
  intro p e s m args below meth c A Q H locs ls hx hb hml hown hin hts hK hN hP hD hS hA hl hret
  replace hl : lv_has ls 5 [(0, .ref (fs 0)), (1, .ref (d 0)), (2, .int (iI k))] := hl
  replace hown : s.vm.findClass RX3 = some m.cls := hown
  obtain ⟨⟨⟨hlt0, hlt1⟩, hmn0, hmn1⟩, ⟨hpt, htk, hmr⟩, ⟨hod, hpl, hpo, hop⟩, hrm, hcd⟩ := id hI
  have hpb := pw_b hmn0 hmn1 (n := k.toNat) (by omega)
  refine lv_aload_n hx hb dX3_begin_0 rfl (lv_at hl 0 rfl) ?_
  refine lv_aload_n hx hb dX3_begin_1 rfl (lv_at hl 1 rfl) ?_
  refine va_getN (D := D) (C := RX1) (T := TX1) (N := 10) (ci := 1) (v := .int (iI mn)) hx hb hts iw_X3_begin_1 hown hK hP 3 rfl rfl 6 (by decide) (nfX3_18 hN) (fun _ h9 => h9) rfl dX3_begin_2 ?_
  refine lv_iload_n hx hb dX3_begin_5 rfl (lv_at hl 2 rfl) ?_
  have M_6 := k_X5_power l D cy  H.size mn k (by omega)
  refine kSN_i (wr := [oF fs sz be, ai (cy 0) (fs 1) 10 fp, ai (cy 0) (fs 2) 10 fc, oD d lt mn vs, ai (cy 0) (d 1) 24 pt, ai (cy 0) (d 2) 24 tk, ai (cy 0) (d 3) 24 mr, ai (cy 0) (d 4) 10 od, ai (cy 0) (d 5) 10 pl, ai (cy 0) (d 6) 4 rm, ai (cy 0) (d 7) 10 cd]) (As := [.int (iI mn), .int (iI k)]) (rest := [.ref (fs 0)]) ⟨hx, hb, hml, hown, hts⟩ M_6 ⟨va_cnB 2 hts gX3_begin_X5_power_n24 rfl rfl rfl (nmX3_24 hN) (hts (.initialized RX5) (by decide +kernel)) (by decide +kernel) ⟨Nat.le_of_ble_eq_true rfl, Nat.le_of_ble_eq_true rfl⟩, hts (.static yX5_power) (by decide +kernel), trivial⟩ hN hK hP hD hS hA [] [0, 1, 2, 3, 4, 5, 6, 7, 8, 9, 10] rfl rfl (by decide) (by decide) (by decide) rfl hl.1 rfl (Nat.le_of_ble_eq_true rfl) dX3_begin_6 ⟨Nat.le_of_ble_eq_true rfl, Nat.le_of_ble_eq_true rfl⟩ (fun r_6 u_6 H locs hw_6 hP hD hS => ?_)
  replace hP : va_P D vwCl [oF fs sz be, ai (cy 0) (fs 1) 10 fp, ai (cy 0) (fs 2) 10 fc, oD d lt mn vs, ai (cy 0) (d 1) 24 pt, ai (cy 0) (d 2) 24 tk, ai (cy 0) (d 3) 24 mr, ai (cy 0) (d 4) 10 od, ai (cy 0) (d 5) 10 pl, ai (cy 0) (d 6) 4 rm, ai (cy 0) (d 7) 10 cd] H := hP
  replace hD : va_D A [oF fs sz be, ai (cy 0) (fs 1) 10 fp, ai (cy 0) (fs 2) 10 fc, oD d lt mn vs, ai (cy 0) (d 1) 24 pt, ai (cy 0) (d 2) 24 tk, ai (cy 0) (d 3) 24 mr, ai (cy 0) (d 4) 10 od, ai (cy 0) (d 5) 10 pl, ai (cy 0) (d 6) 4 rm, ai (cy 0) (d 7) 10 cd] := hD
  subst hw_6
  refine va_put (D := D) (C := RX3) (T := TX3) (N := 4) (ci := 3) (v := .int (iI (pw mn k.toNat))) (ty := .int) hx hb hts iw_X3_begin_3 tyX3 tyX3_ok nmX3 hown hK hP hD hS 0 rfl rfl 2 (by decide) (hts _ fl_X3_begin_28) (fun _ h9 => h9) rfl (by decide +kernel) rfl rfl (Nat.le_of_ble_eq_true rfl) dX3_begin_9 (fun H locs hP hD hS => ?_)
  replace hP : va_P D vwCl [oF fs sz (pw mn k.toNat), ai (cy 0) (fs 1) 10 fp, ai (cy 0) (fs 2) 10 fc, oD d lt mn vs, ai (cy 0) (d 1) 24 pt, ai (cy 0) (d 2) 24 tk, ai (cy 0) (d 3) 24 mr, ai (cy 0) (d 4) 10 od, ai (cy 0) (d 5) 10 pl, ai (cy 0) (d 6) 4 rm, ai (cy 0) (d 7) 10 cd] H := hP
  replace hD : va_D A [oF fs sz (pw mn k.toNat), ai (cy 0) (fs 1) 10 fp, ai (cy 0) (fs 2) 10 fc, oD d lt mn vs, ai (cy 0) (d 1) 24 pt, ai (cy 0) (d 2) 24 tk, ai (cy 0) (d 3) 24 mr, ai (cy 0) (d 4) 10 od, ai (cy 0) (d 5) 10 pl, ai (cy 0) (d 6) 4 rm, ai (cy 0) (d 7) 10 cd] := hD
  refine lv_aload_n hx hb dX3_begin_12 rfl (lv_at hl 0 rfl) ?_
  refine r_const hx hb dX3_begin_13 ?_
  refine va_put (D := D) (C := RX3) (T := TX3) (N := 4) (ci := 3) (v := .int (iI 0)) (ty := .int) hx hb hts iw_X3_begin_3 tyX3 tyX3_ok nmX3 hown hK hP hD hS 0 rfl rfl 1 (by decide) (hts _ fl_X3_begin_31) (fun _ h9 => h9) rfl (by decide +kernel) rfl rfl (Nat.le_of_ble_eq_true rfl) dX3_begin_14 (fun H locs hP hD hS => ?_)
  replace hP : va_P D vwCl [oF fs 0 (pw mn k.toNat), ai (cy 0) (fs 1) 10 fp, ai (cy 0) (fs 2) 10 fc, oD d lt mn vs, ai (cy 0) (d 1) 24 pt, ai (cy 0) (d 2) 24 tk, ai (cy 0) (d 3) 24 mr, ai (cy 0) (d 4) 10 od, ai (cy 0) (d 5) 10 pl, ai (cy 0) (d 6) 4 rm, ai (cy 0) (d 7) 10 cd] H := hP
  replace hD : va_D A [oF fs 0 (pw mn k.toNat), ai (cy 0) (fs 1) 10 fp, ai (cy 0) (fs 2) 10 fc, oD d lt mn vs, ai (cy 0) (d 1) 24 pt, ai (cy 0) (d 2) 24 tk, ai (cy 0) (d 3) 24 mr, ai (cy 0) (d 4) 10 od, ai (cy 0) (d 5) 10 pl, ai (cy 0) (d 6) 4 rm, ai (cy 0) (d 7) 10 cd] := hD
  refine r_const hx hb dX3_begin_17 ?_
  refine lv_istore_n (lv' := [(3, .int (iI 0)), (0, .ref (fs 0)), (1, .ref (d 0)), (2, .int (iI k))]) hx hb dX3_begin_18 rfl hl (by decide) rfl (fun ls hl => ?_)
  have lp_19 : ∀ (fu : Nat) (i : Int) (n : Int) (B : Int → Int) (C : Int → Int), (0 ≤ i ∧ i ≤ 10) → (0 ≤ n ∧ n ≤ i) → (lst B n.toNat = usd (hasI pt lt) od i.toNat) → (∀ t, 0 ≤ t → t < n → C (B t) = t) → (∀ t, 0 ≤ t → t < n → pl (B t) < i) → (∀ j, 0 ≤ B j ∧ B j ≤ 9) → (∀ j, 0 ≤ C j ∧ C j ≤ 63) → (∀ i k, 0 ≤ i → i < n → 0 ≤ k → k < n → B i = B k → i = k) → (10 - i).toNat < fu → ∀ (H : Heap) (locs : List Loc), va_P D vwCl [oF fs n (pw mn k.toNat), ai (cy 0) (fs 1) 10 B, ai (cy 0) (fs 2) 10 C, oD d lt mn vs, ai (cy 0) (d 1) 24 pt, ai (cy 0) (d 2) 24 tk, ai (cy 0) (d 3) 24 mr, ai (cy 0) (d 4) 10 od, ai (cy 0) (d 5) 10 pl, ai (cy 0) (d 6) 4 rm, ai (cy 0) (d 7) 10 cd] H → va_D A [oF fs n (pw mn k.toNat), ai (cy 0) (fs 1) 10 B, ai (cy 0) (fs 2) 10 C, oD d lt mn vs, ai (cy 0) (d 1) 24 pt, ai (cy 0) (d 2) 24 tk, ai (cy 0) (d 3) 24 mr, ai (cy 0) (d 4) 10 od, ai (cy 0) (d 5) 10 pl, ai (cy 0) (d 6) 4 rm, ai (cy 0) (d 7) 10 cd] → va_S A s.heap H locs → ∀ (ls : Array Slot), lv_has ls 5 [(0, .ref (fs 0)), (1, .ref (d 0)), (2, .int (iI k)), (3, .int (iI i))] → W p l e rm_X3_begin s m args below meth c H locs 0 0 Q (F0 m 19 ls []) := by
    intro fu
    induction fu with
    | zero =>
      intro i n B C h1 h0 h2 h3 h4 hB hC h5 hm
      exact absurd hm (Nat.not_lt_zero _)
    | succ fu ih_19 =>
      intro i n B C h1 h0 h2 h3 h4 hB hC h5 hm H locs hP hD hS ls hl
      refine lv_iload_n hx hb dX3_begin_19 rfl (lv_at hl 3 rfl) ?_
      refine r_bip hx hb (10) dX3_begin_20 (by decide) ?_
      refine r_ge hx hb 80 dX3_begin_22 (by decide) ⟨by omega, by omega⟩ ⟨by omega, by omega⟩ (fun c_22 => ?_) (fun c_22 => ?_)
      ·
        refine lv_aload_n hx hb dX3_begin_80 rfl (lv_at hl 0 rfl) ?_
        refine va_get (D := D) (C := RX3) (T := TX3) (N := 4) (ci := 3) (v := .int (iI n)) hx hb hts iw_X3_begin_3 hown hK hP 0 rfl rfl 1 (by decide) (hts _ fl_X3_begin_31) (fun _ h9 => h9) rfl dX3_begin_81 ?_
        refine lv_aload_n hx hb dX3_begin_84 rfl (lv_at hl 0 rfl) ?_
        refine va_get (D := D) (C := RX3) (T := TX3) (N := 4) (ci := 3) (v := .int (iI (pw mn k.toNat))) hx hb hts iw_X3_begin_3 hown hK hP 0 rfl rfl 2 (by decide) (hts _ fl_X3_begin_28) (fun _ h9 => h9) rfl dX3_begin_85 ?_
        refine r_gt hx hb 95 dX3_begin_88 (by decide) ⟨by omega, by omega⟩ ⟨by omega, by omega⟩ (fun c_88 => ?_) (fun c_88 => ?_)
        ·
          refine r_const hx hb dX3_begin_95 ?_
          obtain rfl : i = 10 := by omega
          exact hret [0, 1, 2, 3, 4, 5, 6, 7, 8, 9, 10] (n, B, C) dX3_begin_96 hP hD hS (by decide) rfl (by omega) (by exact ⟨⟨⟨⟨h0.1, h0.2⟩, by omega, by omega⟩, ⟨hB, hC⟩, h5⟩, h2, pl_b2 h3, by omega⟩)
        ·
          refine r_const hx hb dX3_begin_91 ?_
          refine lv_goto (tgt := 96) hx hb dX3_begin_92 (by decide) ?_
          obtain rfl : i = 10 := by omega
          exact hret [0, 1, 2, 3, 4, 5, 6, 7, 8, 9, 10] (n, B, C) dX3_begin_96 hP hD hS (by decide) rfl (by omega) (by exact ⟨⟨⟨⟨h0.1, h0.2⟩, by omega, by omega⟩, ⟨hB, hC⟩, h5⟩, h2, pl_b2 h3, by omega⟩)
      ·
        refine lv_aload_n hx hb dX3_begin_25 rfl (lv_at hl 1 rfl) ?_
        refine va_getN (D := D) (C := RX1) (T := TX1) (N := 10) (ci := 1) (v := .ref (d 4)) hx hb hts iw_X3_begin_1 hown hK hP 3 rfl rfl 4 (by decide) (nfX3_34 hN) (fun _ h9 => h9) rfl dX3_begin_26 ?_
        refine lv_iload_n hx hb dX3_begin_29 rfl (lv_at hl 3 rfl) ?_
        refine r_ald hx hb hK hP 7 rfl rfl ⟨by omega, by omega, by omega⟩ dX3_begin_30 ?_
        have b_30 := hod i
        refine lv_istore (lv' := [(4, .int (iI (od i))), (0, .ref (fs 0)), (1, .ref (d 0)), (2, .int (iI k)), (3, .int (iI i))]) hx hb dX3_begin_31 hl (by decide) rfl (fun ls hl => ?_)
        refine lv_aload_n hx hb dX3_begin_33 rfl (lv_at hl 2 rfl) ?_
        refine lv_iload hx hb dX3_begin_34 (lv_at hl 0 rfl) ?_
        have M_36 := k_X1_hasLetterAt l D cy d H.size lt mn vs pt tk mr od pl rm cd (od i) (⟨⟨hlt0, hlt1⟩, hpt⟩) (⟨by omega, by omega⟩)
        refine kV_i (wr := [oF fs n (pw mn k.toNat), ai (cy 0) (fs 1) 10 B, ai (cy 0) (fs 2) 10 C]) (As := [.int (iI (od i))]) (rest := []) (q := (RX1, TX1, 10)) (ci := 1) ⟨hx, hb, hml, hown, hts⟩ M_36 3 rfl rfl (cwV 1 hts gX3_begin_X1_hasLetterAt rfl rfl rfl (by decide +kernel) ⟨Nat.le_of_ble_eq_true rfl, Nat.le_of_ble_eq_true rfl⟩) hN hK hP hD hS hA [3, 4, 5, 6, 7, 8, 9, 10] [0, 1, 2] rfl rfl (by decide) (by decide) (by decide) rfl hl.1 rfl (Nat.le_of_ble_eq_true rfl) dX3_begin_36 ⟨Nat.le_of_ble_eq_true rfl, Nat.le_of_ble_eq_true rfl⟩ (fun r_36 u_36 H locs hw_36 hP hD hS => ?_)
        replace hP : va_P D vwCl [oF fs n (pw mn k.toNat), ai (cy 0) (fs 1) 10 B, ai (cy 0) (fs 2) 10 C, oD d lt mn vs, ai (cy 0) (d 1) 24 pt, ai (cy 0) (d 2) 24 tk, ai (cy 0) (d 3) 24 mr, ai (cy 0) (d 4) 10 od, ai (cy 0) (d 5) 10 pl, ai (cy 0) (d 6) 4 rm, ai (cy 0) (d 7) 10 cd] H := hP
        replace hD : va_D A [oF fs n (pw mn k.toNat), ai (cy 0) (fs 1) 10 B, ai (cy 0) (fs 2) 10 C, oD d lt mn vs, ai (cy 0) (d 1) 24 pt, ai (cy 0) (d 2) 24 tk, ai (cy 0) (d 3) 24 mr, ai (cy 0) (d 4) 10 od, ai (cy 0) (d 5) 10 pl, ai (cy 0) (d 6) 4 rm, ai (cy 0) (d 7) 10 cd] := hD
        have hb0 := hasI_b pt lt (od i)
        refine r_eq0 hx hb 74 dX3_begin_39 (by decide) ⟨by omega, by omega⟩ (fun c_39 => ?_) (fun c_39 => ?_)
        ·
          refine r_inc (k := 4) (lv' := [(3, .int (iI (i + 1))), (4, .int (iI (od i))), (0, .ref (fs 0)), (1, .ref (d 0)), (2, .int (iI k))]) hx hb dX3_begin_74 hl rfl (by decide) rfl (fun ls hl => ?_)
          refine lv_goto (tgt := 19) hx hb dX3_begin_77 (by decide) ?_
          have hpi := hpo i h1.1 (by omega)
          exact ih_19 (i + 1) n B C (by omega) (by omega) (by first | (rw [usd_s h1.1, if_neg (by omega), h2]; done) | (rw [lst_push h0.1, h2, usd_s h1.1, if_pos (by omega)]; done)) (by first | exact h3 | exact fun t q1 q2 => pl_b3 hpi h3 h4 t q1 (by omega)) (by first | exact fun t q1 q2 => by have := h4 t q1 q2; omega | exact fun t q1 q2 => pl_b4 hpi h4 t q1 (by omega)) (by first | exact hB | exact ud_b hB (by omega) (by omega)) (by first | exact hC | exact ud_b hC (by omega) (by omega)) (by first | exact h5 | exact pl_b5 hpi h4 h5) (by omega) H locs (pick_P hP (is := [0, 1, 2, 3, 4, 5, 6, 7, 8, 9, 10]) rfl) (hD.sub [0, 1, 2, 3, 4, 5, 6, 7, 8, 9, 10] (by decide) rfl) hS ls (lv_sub hl [2, 3, 4, 0] rfl)
        ·
          refine lv_aload_n hx hb dX3_begin_42 rfl (lv_at hl 1 rfl) ?_
          refine va_get (D := D) (C := RX3) (T := TX3) (N := 4) (ci := 3) (v := .ref (fs 1)) hx hb hts iw_X3_begin_3 hown hK hP 0 rfl rfl 0 (by decide) (hts _ fl_X3_begin_9) (fun _ h9 => h9) rfl dX3_begin_43 ?_
          refine lv_aload_n hx hb dX3_begin_46 rfl (lv_at hl 1 rfl) ?_
          refine va_get (D := D) (C := RX3) (T := TX3) (N := 4) (ci := 3) (v := .int (iI n)) hx hb hts iw_X3_begin_3 hown hK hP 0 rfl rfl 1 (by decide) (hts _ fl_X3_begin_31) (fun _ h9 => h9) rfl dX3_begin_47 ?_
          refine lv_iload hx hb dX3_begin_50 (lv_at hl 0 rfl) ?_
          refine r_ast hx hb hK hP hD hS 1 rfl rfl ⟨by omega, by omega, by omega⟩ dX3_begin_52 (fun H locs hP hD hS => ?_)
          replace hP : va_P D vwCl [oF fs n (pw mn k.toNat), ai (cy 0) (fs 1) 10 (ud B n (od i)), ai (cy 0) (fs 2) 10 C, oD d lt mn vs, ai (cy 0) (d 1) 24 pt, ai (cy 0) (d 2) 24 tk, ai (cy 0) (d 3) 24 mr, ai (cy 0) (d 4) 10 od, ai (cy 0) (d 5) 10 pl, ai (cy 0) (d 6) 4 rm, ai (cy 0) (d 7) 10 cd] H := hP
          replace hD : va_D A [oF fs n (pw mn k.toNat), ai (cy 0) (fs 1) 10 (ud B n (od i)), ai (cy 0) (fs 2) 10 C, oD d lt mn vs, ai (cy 0) (d 1) 24 pt, ai (cy 0) (d 2) 24 tk, ai (cy 0) (d 3) 24 mr, ai (cy 0) (d 4) 10 od, ai (cy 0) (d 5) 10 pl, ai (cy 0) (d 6) 4 rm, ai (cy 0) (d 7) 10 cd] := hD
          refine lv_aload_n hx hb dX3_begin_53 rfl (lv_at hl 1 rfl) ?_
          refine va_get (D := D) (C := RX3) (T := TX3) (N := 4) (ci := 3) (v := .ref (fs 2)) hx hb hts iw_X3_begin_3 hown hK hP 0 rfl rfl 3 (by decide) (hts _ fl_X3_begin_15) (fun _ h9 => h9) rfl dX3_begin_54 ?_
          refine lv_iload hx hb dX3_begin_57 (lv_at hl 0 rfl) ?_
          refine lv_aload_n hx hb dX3_begin_59 rfl (lv_at hl 1 rfl) ?_
          refine va_get (D := D) (C := RX3) (T := TX3) (N := 4) (ci := 3) (v := .int (iI n)) hx hb hts iw_X3_begin_3 hown hK hP 0 rfl rfl 1 (by decide) (hts _ fl_X3_begin_31) (fun _ h9 => h9) rfl dX3_begin_60 ?_
          refine r_ast hx hb hK hP hD hS 2 rfl rfl ⟨by omega, by omega, by omega⟩ dX3_begin_63 (fun H locs hP hD hS => ?_)
          replace hP : va_P D vwCl [oF fs n (pw mn k.toNat), ai (cy 0) (fs 1) 10 (ud B n (od i)), ai (cy 0) (fs 2) 10 (ud C (od i) n), oD d lt mn vs, ai (cy 0) (d 1) 24 pt, ai (cy 0) (d 2) 24 tk, ai (cy 0) (d 3) 24 mr, ai (cy 0) (d 4) 10 od, ai (cy 0) (d 5) 10 pl, ai (cy 0) (d 6) 4 rm, ai (cy 0) (d 7) 10 cd] H := hP
          replace hD : va_D A [oF fs n (pw mn k.toNat), ai (cy 0) (fs 1) 10 (ud B n (od i)), ai (cy 0) (fs 2) 10 (ud C (od i) n), oD d lt mn vs, ai (cy 0) (d 1) 24 pt, ai (cy 0) (d 2) 24 tk, ai (cy 0) (d 3) 24 mr, ai (cy 0) (d 4) 10 od, ai (cy 0) (d 5) 10 pl, ai (cy 0) (d 6) 4 rm, ai (cy 0) (d 7) 10 cd] := hD
          refine lv_aload_n hx hb dX3_begin_64 rfl (lv_at hl 1 rfl) ?_
          refine lv_dup hx hb dX3_begin_65 rfl ?_
          refine va_get (D := D) (C := RX3) (T := TX3) (N := 4) (ci := 3) (v := .int (iI n)) hx hb hts iw_X3_begin_3 hown hK hP 0 rfl rfl 1 (by decide) (hts _ fl_X3_begin_31) (fun _ h9 => h9) rfl dX3_begin_66 ?_
          refine r_const hx hb dX3_begin_69 ?_
          refine r_add hx hb dX3_begin_70 ?_
          refine va_put (D := D) (C := RX3) (T := TX3) (N := 4) (ci := 3) (v := .int (iI (n + 1))) (ty := .int) hx hb hts iw_X3_begin_3 tyX3 tyX3_ok nmX3 hown hK hP hD hS 0 rfl rfl 1 (by decide) (hts _ fl_X3_begin_31) (fun _ h9 => h9) rfl (by decide +kernel) rfl rfl (Nat.le_of_ble_eq_true rfl) dX3_begin_71 (fun H locs hP hD hS => ?_)
          replace hP : va_P D vwCl [oF fs (n + 1) (pw mn k.toNat), ai (cy 0) (fs 1) 10 (ud B n (od i)), ai (cy 0) (fs 2) 10 (ud C (od i) n), oD d lt mn vs, ai (cy 0) (d 1) 24 pt, ai (cy 0) (d 2) 24 tk, ai (cy 0) (d 3) 24 mr, ai (cy 0) (d 4) 10 od, ai (cy 0) (d 5) 10 pl, ai (cy 0) (d 6) 4 rm, ai (cy 0) (d 7) 10 cd] H := hP
          replace hD : va_D A [oF fs (n + 1) (pw mn k.toNat), ai (cy 0) (fs 1) 10 (ud B n (od i)), ai (cy 0) (fs 2) 10 (ud C (od i) n), oD d lt mn vs, ai (cy 0) (d 1) 24 pt, ai (cy 0) (d 2) 24 tk, ai (cy 0) (d 3) 24 mr, ai (cy 0) (d 4) 10 od, ai (cy 0) (d 5) 10 pl, ai (cy 0) (d 6) 4 rm, ai (cy 0) (d 7) 10 cd] := hD
          refine r_inc (k := 4) (lv' := [(3, .int (iI (i + 1))), (4, .int (iI (od i))), (0, .ref (fs 0)), (1, .ref (d 0)), (2, .int (iI k))]) hx hb dX3_begin_74 hl rfl (by decide) rfl (fun ls hl => ?_)
          refine lv_goto (tgt := 19) hx hb dX3_begin_77 (by decide) ?_
          have hpi := hpo i h1.1 (by omega)
          exact ih_19 (i + 1) (n + 1) (ud B n (od i)) (ud C (od i) n) (by omega) (by omega) (by first | (rw [usd_s h1.1, if_neg (by omega), h2]; done) | (rw [lst_push h0.1, h2, usd_s h1.1, if_pos (by omega)]; done)) (by first | exact h3 | exact fun t q1 q2 => pl_b3 hpi h3 h4 t q1 (by omega)) (by first | exact fun t q1 q2 => by have := h4 t q1 q2; omega | exact fun t q1 q2 => pl_b4 hpi h4 t q1 (by omega)) (by first | exact hB | exact ud_b hB (by omega) (by omega)) (by first | exact hC | exact ud_b hC (by omega) (by omega)) (by first | exact h5 | exact pl_b5 hpi h4 h5) (by omega) H locs (pick_P hP (is := [0, 1, 2, 3, 4, 5, 6, 7, 8, 9, 10]) rfl) (hD.sub [0, 1, 2, 3, 4, 5, 6, 7, 8, 9, 10] (by decide) rfl) hS ls (lv_sub hl [2, 3, 4, 0] rfl)
  exact lp_19 _ 0 0 fp fc (by omega) (by omega) (rfl) (fun t q1 q2 => by omega) (fun t q1 q2 => by omega) (hfp) (hfc) (fun i k q1 q2 => by omega) (Nat.lt_succ_self _) H locs (pick_P hP (is := [0, 1, 2, 3, 4, 5, 6, 7, 8, 9, 10]) rfl) (hD.sub [0, 1, 2, 3, 4, 5, 6, 7, 8, 9, 10] (by decide) rfl) hS ls (lv_sub hl [1, 2, 3, 0] rfl)
abbrev rm_X3_raise : Room := { frames := 0, cells := 0, slots := 0, locals := 0 }
theorem fl_X3_raise_9 : Cond.fieldLink RX3 9 "WalkPasses$Plans" "points" "[I" ∈ wsX3_raise := by decide +kernel
theorem fl_X3_raise_15 : Cond.fieldLink RX3 15 "WalkPasses$Plans" "codes" "[I" ∈ wsX3_raise := by decide +kernel
theorem fl_X3_raise_31 : Cond.fieldLink RX3 31 "WalkPasses$Plans" "size" "I" ∈ wsX3_raise := by decide +kernel
theorem iw_X3_raise_3 : ∀ w ∈ u_ws RX3 TX3 4, w ∈ wsX3_raise := by decide +kernel
set_option maxHeartbeats 4000000 in
set_option maxRecDepth 100000 in
theorem k_X3_raise (l : Launch) (D : va_G) (cy : Nat → ClassId) (fs : Nat → Nat) (z : Nat) (sz be : Int) (fp fc : Int → Int) (a : Int) (hP9 : PlI sz be fp fc) (ha : 0 ≤ a ∧ a < sz) (hc : fc (fp a) + (sz - a) ≤ 63) : CtV l yX3_raise wsX3_raise rm_X3_raise D (tyL cy) [.ref (fs 0), .int (iI a)] [oF fs sz be, ai (cy 0) (fs 1) 10 fp, ai (cy 0) (fs 2) 10 fc] z (fun (u : Int → Int) => PlI sz be fp u ∧ raiF fp fc u a sz) (fun (u : Int → Int) => [oF fs sz be, ai (cy 0) (fs 1) 10 fp, ai (cy 0) (fs 2) 10 u]) 0 0 := by
  refine ct_v (cc := cX3_raise) (maxL := 4) (by decide) rfl (Nat.le_of_ble_eq_true rfl) ?_
  intro p e s m args below meth c A Q H locs ls hx hb hml hown hin hts hK hN hP hD hS hA hl hret
  replace hl : lv_has ls 4 [(0, .ref (fs 0)), (1, .int (iI a))] := hl
  replace hown : s.vm.findClass RX3 = some m.cls := hown
  obtain ⟨⟨⟨hs0, hs1⟩, hb0, hb1⟩, ⟨hfp, hfc⟩, hdi⟩ := id hP9
  refine lv_aload_n hx hb dX3_raise_0 rfl (lv_at hl 0 rfl) ?_
  refine va_get (D := D) (C := RX3) (T := TX3) (N := 4) (ci := 3) (v := .ref (fs 2)) hx hb hts iw_X3_raise_3 hown hK hP 0 rfl rfl 3 (by decide) (hts _ fl_X3_raise_15) (fun _ h9 => h9) rfl dX3_raise_1 ?_
  refine lv_aload_n hx hb dX3_raise_4 rfl (lv_at hl 0 rfl) ?_
  refine va_get (D := D) (C := RX3) (T := TX3) (N := 4) (ci := 3) (v := .ref (fs 1)) hx hb hts iw_X3_raise_3 hown hK hP 0 rfl rfl 0 (by decide) (hts _ fl_X3_raise_9) (fun _ h9 => h9) rfl dX3_raise_5 ?_
  refine lv_iload_n hx hb dX3_raise_8 rfl (lv_at hl 1 rfl) ?_
  refine r_ald hx hb hK hP 1 rfl rfl ⟨by omega, by omega, by omega⟩ dX3_raise_9 ?_
  have b_9 := hfp a
  refine r_ald hx hb hK hP 2 rfl rfl ⟨by omega, by omega, by omega⟩ dX3_raise_10 ?_
  have b_10 := hfc (fp a)
  refine lv_istore_n (lv' := [(2, .int (iI (fc (fp a)))), (0, .ref (fs 0)), (1, .int (iI a))]) hx hb dX3_raise_11 rfl hl (by decide) rfl (fun ls hl => ?_)
  refine lv_iload_n hx hb dX3_raise_12 rfl (lv_at hl 2 rfl) ?_
  refine lv_istore_n (lv' := [(3, .int (iI a)), (2, .int (iI (fc (fp a)))), (0, .ref (fs 0)), (1, .int (iI a))]) hx hb dX3_raise_13 rfl hl (by decide) rfl (fun ls hl => ?_)
  have lp_14 : ∀ (fu : Nat) (x : Int) (i : Int) (B : Int → Int), (a ≤ i ∧ i ≤ sz) → (x = fc (fp a) + (i - a)) → (∀ j, 0 ≤ B j ∧ B j ≤ 63) → (∀ t, 0 ≤ t → t < a → B (fp t) = fc (fp t)) → (∀ t, a ≤ t → t < i → B (fp t) = fc (fp a) + 1 + (t - a)) → (sz - i).toNat < fu → ∀ (H : Heap) (locs : List Loc), va_P D vwCl [oF fs sz be, ai (cy 0) (fs 1) 10 fp, ai (cy 0) (fs 2) 10 B] H → va_D A [oF fs sz be, ai (cy 0) (fs 1) 10 fp, ai (cy 0) (fs 2) 10 B] → va_S A s.heap H locs → ∀ (ls : Array Slot), lv_has ls 4 [(0, .ref (fs 0)), (1, .int (iI a)), (2, .int (iI x)), (3, .int (iI i))] → W p l e rm_X3_raise s m args below meth c H locs 0 0 Q (F0 m 14 ls []) := by
    intro fu
    induction fu with
    | zero =>
      intro x i B h1 h2 hB h3 h4 hm
      exact absurd hm (Nat.not_lt_zero _)
    | succ fu ih_14 =>
      intro x i B h1 h2 hB h3 h4 hm H locs hP hD hS ls hl
      have hxa := hfc (fp a)
      refine lv_iload_n hx hb dX3_raise_14 rfl (lv_at hl 3 rfl) ?_
      refine lv_aload_n hx hb dX3_raise_15 rfl (lv_at hl 0 rfl) ?_
      refine va_get (D := D) (C := RX3) (T := TX3) (N := 4) (ci := 3) (v := .int (iI sz)) hx hb hts iw_X3_raise_3 hown hK hP 0 rfl rfl 1 (by decide) (hts _ fl_X3_raise_31) (fun _ h9 => h9) rfl dX3_raise_16 ?_
      refine r_ge hx hb 43 dX3_raise_19 (by decide) ⟨by omega, by omega⟩ ⟨by omega, by omega⟩ (fun c_19 => ?_) (fun c_19 => ?_)
      ·
        exact hret [0, 1, 2] B dX3_raise_43 hP hD hS (by decide) rfl (⟨⟨⟨⟨hs0, hs1⟩, hb0, hb1⟩, ⟨hfp, hB⟩, hdi⟩, h3, fun t q1 q2 => h4 t q1 (by omega)⟩)
      ·
        refine r_inc (k := 2) (lv' := [(2, .int (iI (x + 1))), (0, .ref (fs 0)), (1, .int (iI a)), (3, .int (iI i))]) hx hb dX3_raise_22 hl rfl (by decide) rfl (fun ls hl => ?_)
        refine lv_aload_n hx hb dX3_raise_25 rfl (lv_at hl 1 rfl) ?_
        refine va_get (D := D) (C := RX3) (T := TX3) (N := 4) (ci := 3) (v := .ref (fs 2)) hx hb hts iw_X3_raise_3 hown hK hP 0 rfl rfl 3 (by decide) (hts _ fl_X3_raise_15) (fun _ h9 => h9) rfl dX3_raise_26 ?_
        refine lv_aload_n hx hb dX3_raise_29 rfl (lv_at hl 1 rfl) ?_
        refine va_get (D := D) (C := RX3) (T := TX3) (N := 4) (ci := 3) (v := .ref (fs 1)) hx hb hts iw_X3_raise_3 hown hK hP 0 rfl rfl 0 (by decide) (hts _ fl_X3_raise_9) (fun _ h9 => h9) rfl dX3_raise_30 ?_
        refine lv_iload_n hx hb dX3_raise_33 rfl (lv_at hl 3 rfl) ?_
        refine r_ald hx hb hK hP 1 rfl rfl ⟨by omega, by omega, by omega⟩ dX3_raise_34 ?_
        have b_34 := hfp i
        refine lv_iload_n hx hb dX3_raise_35 rfl (lv_at hl 0 rfl) ?_
        refine r_ast hx hb hK hP hD hS 2 rfl rfl ⟨by omega, by omega, by omega⟩ dX3_raise_36 (fun H locs hP hD hS => ?_)
        replace hP : va_P D vwCl [oF fs sz be, ai (cy 0) (fs 1) 10 fp, ai (cy 0) (fs 2) 10 (ud B (fp i) (x + 1))] H := hP
        replace hD : va_D A [oF fs sz be, ai (cy 0) (fs 1) 10 fp, ai (cy 0) (fs 2) 10 (ud B (fp i) (x + 1))] := hD
        refine r_inc (k := 3) (lv' := [(3, .int (iI (i + 1))), (2, .int (iI (x + 1))), (0, .ref (fs 0)), (1, .int (iI a))]) hx hb dX3_raise_37 hl rfl (by decide) rfl (fun ls hl => ?_)
        refine lv_goto (tgt := 14) hx hb dX3_raise_40 (by decide) ?_
        exact ih_14 (x + 1) (i + 1) (ud B (fp i) (x + 1)) (by omega) (by omega) (ud_b hB (by omega) (by omega)) (fun t q1 q2 => by rw [ud_ne (fun q => by have := hdi t i q1 (by omega) (by omega) (by omega) q; omega)]; exact h3 t q1 q2) (fun t q1 q2 => by by_cases e : t = i; (subst e; rw [ud_at]; omega); (rw [ud_ne (fun q => by have := hdi t i (by omega) (by omega) (by omega) (by omega) q; omega)]; exact h4 t q1 (by omega))) (by omega) H locs (pick_P hP (is := [0, 1, 2]) rfl) (hD.sub [0, 1, 2] (by decide) rfl) hS ls (lv_sub hl [2, 3, 1, 0] rfl)
  exact lp_14 _ (fc (fp a)) a fc (by omega) (by omega) (hfc) (fun t _ _ => rfl) (fun t q1 q2 => by omega) (Nat.lt_succ_self _) H locs (pick_P hP (is := [0, 1, 2]) rfl) (hD.sub [0, 1, 2] (by decide) rfl) hS ls (lv_sub hl [2, 3, 1, 0] rfl)
abbrev rm_X3_advance : Room := { frames := 1, cells := 0, slots := 0, locals := 23 }
theorem fl_X3_advance_9 : Cond.fieldLink RX3 9 "WalkPasses$Plans" "points" "[I" ∈ wsX3_advance := by decide +kernel
theorem fl_X3_advance_15 : Cond.fieldLink RX3 15 "WalkPasses$Plans" "codes" "[I" ∈ wsX3_advance := by decide +kernel
theorem fl_X3_advance_28 : Cond.fieldLink RX3 28 "WalkPasses$Plans" "below" "I" ∈ wsX3_advance := by decide +kernel
theorem fl_X3_advance_31 : Cond.fieldLink RX3 31 "WalkPasses$Plans" "size" "I" ∈ wsX3_advance := by decide +kernel
theorem iw_X3_advance_3 : ∀ w ∈ u_ws RX3 TX3 4, w ∈ wsX3_advance := by decide +kernel
set_option maxHeartbeats 4000000 in
set_option maxRecDepth 100000 in
theorem k_X3_advance (l : Launch) (D : va_G) (cy : Nat → ClassId) (fs : Nat → Nat) (z : Nat) (sz be : Int) (fp fc : Int → Int) (f : Int) (hP9 : PlI sz be fp fc) (hf : 0 ≤ f ∧ f ≤ 100) : CtI l yX3_advance wsX3_advance rm_X3_advance D (tyL cy) [.ref (fs 0), .int (iI f)] [oF fs sz be, ai (cy 0) (fs 1) 10 fp, ai (cy 0) (fs 2) 10 fc] z (fun (r : Int) (u : Int → Int) => PlI sz be fp u ∧ ((r = 1 ∧ nxt be f.toNat (cds fp fc sz) = some (cds fp u sz)) ∨ (r = 0 ∧ nxt be f.toNat (cds fp fc sz) = none ∧ u = fc))) (fun (u : Int → Int) => [oF fs sz be, ai (cy 0) (fs 1) 10 fp, ai (cy 0) (fs 2) 10 u]) 0 0 := by
  refine ct_z (cc := cX3_advance) (maxL := 4) (by decide) rfl (Nat.le_of_ble_eq_true rfl) ?_
  intro p e s m args below meth c A Q H locs ls hx hb hml hown hin hts hK hN hP hD hS hA hl hret
  replace hl : lv_has ls 4 [(0, .ref (fs 0)), (1, .int (iI f))] := hl
  replace hown : s.vm.findClass RX3 = some m.cls := hown
  obtain ⟨⟨⟨hs0, hs1⟩, hb0, hb1⟩, ⟨hfp, hfc⟩, hdi⟩ := id hP9
  refine lv_iload_n hx hb dX3_advance_0 rfl (lv_at hl 1 rfl) ?_
  refine lv_aload_n hx hb dX3_advance_1 rfl (lv_at hl 0 rfl) ?_
  refine va_get (D := D) (C := RX3) (T := TX3) (N := 4) (ci := 3) (v := .int (iI sz)) hx hb hts iw_X3_advance_3 hown hK hP 0 rfl rfl 1 (by decide) (hts _ fl_X3_advance_31) (fun _ h9 => h9) rfl dX3_advance_2 ?_
  refine r_min (own := RX3) (index := 41) hx hb (by rw [hml]; exact hl.1.symm) hown (hts _ (by decide +kernel)) (hts _ (by decide +kernel)) (hts _ (by decide +kernel)) (hts _ (by decide +kernel)) (Nat.le_of_ble_eq_true rfl) (Nat.le_of_ble_eq_true rfl) (Nat.zero_le _) (Nat.zero_le _) ⟨by omega, by omega⟩ ⟨by omega, by omega⟩ dX3_advance_5 ?_
  refine r_const hx hb dX3_advance_8 ?_
  refine r_sub hx hb dX3_advance_9 ?_
  refine lv_istore_n (lv' := [(2, .int (iI ((min f sz) - 1))), (0, .ref (fs 0)), (1, .int (iI f))]) hx hb dX3_advance_10 rfl hl (by decide) rfl (fun ls hl => ?_)
  have lp_11 : ∀ (fu : Nat) (i : Int), (-1 ≤ i ∧ i < f ∧ i < sz) → (∀ k, i < k → k < f → k < sz → ¬ fc (fp k) < be - (sz - k)) → (i + 1).toNat < fu → ∀ (H : Heap) (locs : List Loc), va_P D vwCl [oF fs sz be, ai (cy 0) (fs 1) 10 fp, ai (cy 0) (fs 2) 10 fc] H → va_D A [oF fs sz be, ai (cy 0) (fs 1) 10 fp, ai (cy 0) (fs 2) 10 fc] → va_S A s.heap H locs → ∀ (ls : Array Slot), lv_has ls 4 [(0, .ref (fs 0)), (1, .int (iI f)), (2, .int (iI i))] → W p l e rm_X3_advance s m args below meth c H locs 0 0 Q (F0 m 11 ls []) := by
    intro fu
    induction fu with
    | zero =>
      intro i h1 h2 hm
      exact absurd hm (Nat.not_lt_zero _)
    | succ fu ih_11 =>
      intro i h1 h2 hm H locs hP hD hS ls hl
      refine lv_iload_n hx hb dX3_advance_11 rfl (lv_at hl 2 rfl) ?_
      refine r_lt0 hx hb 55 dX3_advance_12 (by decide) ⟨by omega, by omega⟩ (fun c_12 => ?_) (fun c_12 => ?_)
      ·
        refine r_const hx hb dX3_advance_55 ?_
        exact hret [0, 1, 2] fc dX3_advance_56 hP hD hS (by decide) rfl (by omega) (⟨hP9, Or.inr ⟨rfl, adv_no (fun k q1 q2 q3 => h2 k (by omega) q2 q3), rfl⟩⟩)
      ·
        refine lv_aload_n hx hb dX3_advance_15 rfl (lv_at hl 0 rfl) ?_
        refine va_get (D := D) (C := RX3) (T := TX3) (N := 4) (ci := 3) (v := .int (iI sz)) hx hb hts iw_X3_advance_3 hown hK hP 0 rfl rfl 1 (by decide) (hts _ fl_X3_advance_31) (fun _ h9 => h9) rfl dX3_advance_16 ?_
        refine lv_iload_n hx hb dX3_advance_19 rfl (lv_at hl 2 rfl) ?_
        refine r_sub hx hb dX3_advance_20 ?_
        refine lv_istore_n (lv' := [(3, .int (iI (sz - i))), (0, .ref (fs 0)), (1, .int (iI f)), (2, .int (iI i))]) hx hb dX3_advance_21 rfl hl (by decide) rfl (fun ls hl => ?_)
        refine lv_aload_n hx hb dX3_advance_22 rfl (lv_at hl 1 rfl) ?_
        refine va_get (D := D) (C := RX3) (T := TX3) (N := 4) (ci := 3) (v := .ref (fs 2)) hx hb hts iw_X3_advance_3 hown hK hP 0 rfl rfl 3 (by decide) (hts _ fl_X3_advance_15) (fun _ h9 => h9) rfl dX3_advance_23 ?_
        refine lv_aload_n hx hb dX3_advance_26 rfl (lv_at hl 1 rfl) ?_
        refine va_get (D := D) (C := RX3) (T := TX3) (N := 4) (ci := 3) (v := .ref (fs 1)) hx hb hts iw_X3_advance_3 hown hK hP 0 rfl rfl 0 (by decide) (hts _ fl_X3_advance_9) (fun _ h9 => h9) rfl dX3_advance_27 ?_
        refine lv_iload_n hx hb dX3_advance_30 rfl (lv_at hl 3 rfl) ?_
        refine r_ald hx hb hK hP 1 rfl rfl ⟨by omega, by omega, by omega⟩ dX3_advance_31 ?_
        have b_31 := hfp i
        refine r_ald hx hb hK hP 2 rfl rfl ⟨by omega, by omega, by omega⟩ dX3_advance_32 ?_
        have b_32 := hfc (fp i)
        refine lv_aload_n hx hb dX3_advance_33 rfl (lv_at hl 1 rfl) ?_
        refine va_get (D := D) (C := RX3) (T := TX3) (N := 4) (ci := 3) (v := .int (iI be)) hx hb hts iw_X3_advance_3 hown hK hP 0 rfl rfl 2 (by decide) (hts _ fl_X3_advance_28) (fun _ h9 => h9) rfl dX3_advance_34 ?_
        refine lv_iload_n hx hb dX3_advance_37 rfl (lv_at hl 0 rfl) ?_
        refine r_sub hx hb dX3_advance_38 ?_
        refine r_ge hx hb 49 dX3_advance_39 (by decide) ⟨by omega, by omega⟩ ⟨by omega, by omega⟩ (fun c_39 => ?_) (fun c_39 => ?_)
        ·
          refine r_inc (k := 3) (lv' := [(2, .int (iI (i + -1))), (3, .int (iI (sz - i))), (0, .ref (fs 0)), (1, .int (iI f))]) hx hb dX3_advance_49 hl rfl (by decide) rfl (fun ls hl => ?_)
          refine lv_goto (tgt := 11) hx hb dX3_advance_52 (by decide) ?_
          exact ih_11 (i + -1) (by omega) (fun k q1 q2 q3 => by by_cases e : k = i; (subst e; omega); (exact h2 k (by omega) q2 q3)) (by omega) H locs (pick_P hP (is := [0, 1, 2]) rfl) (hD.sub [0, 1, 2] (by decide) rfl) hS ls (lv_sub hl [2, 3, 0] rfl)
        ·
          refine lv_aload_n hx hb dX3_advance_42 rfl (lv_at hl 1 rfl) ?_
          refine lv_iload_n hx hb dX3_advance_43 rfl (lv_at hl 3 rfl) ?_
          have M_44 := k_X3_raise l D cy fs H.size sz be fp fc i (hP9) (by omega) (by omega)
          refine kV_v (wr := []) (As := [.int (iI i)]) (rest := []) (q := (RX3, TX3, 4)) (ci := 3) ⟨hx, hb, hml, hown, hts⟩ M_44 0 rfl rfl (cwV 1 hts gX3_advance_X3_raise rfl rfl rfl (by decide +kernel) ⟨Nat.le_of_ble_eq_true rfl, Nat.le_of_ble_eq_true rfl⟩) hN hK hP hD hS hA [0, 1, 2] [] rfl rfl (by decide) (by decide) (by decide) rfl hl.1 rfl (Nat.le_of_ble_eq_true rfl) dX3_advance_44 ⟨Nat.le_of_ble_eq_true rfl, Nat.le_of_ble_eq_true rfl⟩ (fun u_44 H locs hw_44 hP hD hS => ?_)
          obtain ⟨v_1, rfl⟩ : ∃ z, z = u_44 := ⟨_, rfl⟩
          try dsimp only at hw_44
          replace hP : va_P D vwCl [oF fs sz be, ai (cy 0) (fs 1) 10 fp, ai (cy 0) (fs 2) 10 v_1] H := hP
          replace hD : va_D A [oF fs sz be, ai (cy 0) (fs 1) 10 fp, ai (cy 0) (fs 2) 10 v_1] := hD
          refine r_const hx hb dX3_advance_47 ?_
          exact hret [0, 1, 2] v_1 dX3_advance_48 hP hD hS (by decide) rfl (by omega) (⟨hw_44.1, Or.inl ⟨rfl, adv_yes (by omega) (by omega) (by omega) hw_44.2 (by omega) h2⟩⟩)
  exact lp_11 _ ((min f sz) - 1) (by omega) (fun k q1 q2 q3 => by omega) (Nat.lt_succ_self _) H locs (pick_P hP (is := [0, 1, 2]) rfl) (hD.sub [0, 1, 2] (by decide) rfl) hS ls (lv_sub hl [1, 2, 0] rfl)
