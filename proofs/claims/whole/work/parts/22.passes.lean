abbrev rm_X2_begin : Room := { frames := 0, cells := 0, slots := 0, locals := 0 }
theorem fl_X2_begin_9 : Cond.fieldLink RX2 9 "WalkPasses$Passes" "order" "[I" ∈ wsX2_begin := by decide +kernel
theorem fl_X2_begin_15 : Cond.fieldLink RX2 15 "WalkPasses$Passes" "spilledAt" "[I" ∈ wsX2_begin := by decide +kernel
theorem fl_X2_begin_46 : Cond.fieldLink RX2 46 "WalkPasses$Passes" "coming" "I" ∈ wsX2_begin := by decide +kernel
theorem iw_X2_begin_1 : ∀ w ∈ u_ws RX1 TX1 10, w ∈ wsX2_begin := by decide +kernel
theorem iw_X2_begin_2 : ∀ w ∈ u_ws RX2 TX2 7, w ∈ wsX2_begin := by decide +kernel
set_option maxHeartbeats 4000000 in
set_option maxRecDepth 100000 in
theorem k_X2_begin (l : Launch) (D : va_G) (cy : Nat → ClassId) (ps d : Nat → Nat) (z : Nat) (cm : Int) (or sa so g0 g1 g2 g3 ht ld : Int → Int) (lt mn vs : Int) (pt tk mr od pl rm cd : Int → Int) (hI : DI lt mn pt tk mr od pl rm cd) : CtV l yX2_begin wsX2_begin rm_X2_begin D (tyL cy) [.ref (ps 0), .ref (d 0)] [oP ps cm, ai (cy 0) (ps 1) 24 or, ai (cy 0) (ps 2) 24 sa, ai (cy 0) (ps 3) 10 so, aq (cy 3) (ps 4) 4 (fun ix => ps (5 + ix)), ai (cy 0) (ps 5) 24 g0, ai (cy 0) (ps 6) 24 g1, ai (cy 0) (ps 7) 24 g2, ai (cy 0) (ps 8) 24 g3, ai (cy 0) (ps 9) 4 ht, ai (cy 0) (ps 10) 4 ld, oD d lt mn vs, ai (cy 0) (d 1) 24 pt, ai (cy 0) (d 2) 24 tk, ai (cy 0) (d 3) 24 mr, ai (cy 0) (d 4) 10 od, ai (cy 0) (d 5) 10 pl, ai (cy 0) (d 6) 4 rm, ai (cy 0) (d 7) 10 cd] z (fun (u : Int × (Int → Int) × (Int → Int)) => 0 ≤ u.1 ∧ lst u.2.1 u.1.toNat = rw0 mr lt ∧ ∀ l, 0 ≤ l → l < lt → u.2.2 l = mr l) (fun (u : Int × (Int → Int) × (Int → Int)) => [oP ps u.1, ai (cy 0) (ps 1) 24 u.2.1, ai (cy 0) (ps 2) 24 u.2.2, ai (cy 0) (ps 3) 10 so, aq (cy 3) (ps 4) 4 (fun ix => ps (5 + ix)), ai (cy 0) (ps 5) 24 g0, ai (cy 0) (ps 6) 24 g1, ai (cy 0) (ps 7) 24 g2, ai (cy 0) (ps 8) 24 g3, ai (cy 0) (ps 9) 4 ht, ai (cy 0) (ps 10) 4 ld, oD d lt mn vs, ai (cy 0) (d 1) 24 pt, ai (cy 0) (d 2) 24 tk, ai (cy 0) (d 3) 24 mr, ai (cy 0) (d 4) 10 od, ai (cy 0) (d 5) 10 pl, ai (cy 0) (d 6) 4 rm, ai (cy 0) (d 7) 10 cd]) 0 0 := by
  refine ct_v (cc := cX2_begin) (maxL := 3) (by decide) rfl (Nat.le_of_ble_eq_true rfl) ?_
  intro p e s m args below meth c A Q H locs ls hx hb hml hown hin hts hK hN hP hD hS hA hl hret
  replace hl : lv_has ls 3 [(0, .ref (ps 0)), (1, .ref (d 0))] := hl
  replace hown : s.vm.findClass RX2 = some m.cls := hown
  obtain ⟨⟨⟨hlt0, hlt1⟩, hmn0, hmn1⟩, ⟨hpt, htk, hmr⟩, ⟨hod, hpl, hpo, hop⟩, hrm, hcd⟩ := id hI
  refine lv_aload_n hx hb dX2_begin_0 rfl (lv_at hl 0 rfl) ?_
  refine r_const hx hb dX2_begin_1 ?_
  refine va_put (D := D) (C := RX2) (T := TX2) (N := 7) (ci := 2) (v := .int (iI 0)) (ty := .int) hx hb hts iw_X2_begin_2 tyX2 tyX2_ok nmX2 hown hK hP hD hS 0 rfl rfl 1 (by decide) (hts _ fl_X2_begin_46) (fun _ h9 => h9) rfl (by decide +kernel) rfl rfl (Nat.le_of_ble_eq_true rfl) dX2_begin_2 (fun H locs hP hD hS => ?_)
  replace hP : va_P D vwCl [oP ps 0, ai (cy 0) (ps 1) 24 or, ai (cy 0) (ps 2) 24 sa, ai (cy 0) (ps 3) 10 so, aq (cy 3) (ps 4) 4 (fun ix => ps (5 + ix)), ai (cy 0) (ps 5) 24 g0, ai (cy 0) (ps 6) 24 g1, ai (cy 0) (ps 7) 24 g2, ai (cy 0) (ps 8) 24 g3, ai (cy 0) (ps 9) 4 ht, ai (cy 0) (ps 10) 4 ld, oD d lt mn vs, ai (cy 0) (d 1) 24 pt, ai (cy 0) (d 2) 24 tk, ai (cy 0) (d 3) 24 mr, ai (cy 0) (d 4) 10 od, ai (cy 0) (d 5) 10 pl, ai (cy 0) (d 6) 4 rm, ai (cy 0) (d 7) 10 cd] H := hP
  replace hD : va_D A [oP ps 0, ai (cy 0) (ps 1) 24 or, ai (cy 0) (ps 2) 24 sa, ai (cy 0) (ps 3) 10 so, aq (cy 3) (ps 4) 4 (fun ix => ps (5 + ix)), ai (cy 0) (ps 5) 24 g0, ai (cy 0) (ps 6) 24 g1, ai (cy 0) (ps 7) 24 g2, ai (cy 0) (ps 8) 24 g3, ai (cy 0) (ps 9) 4 ht, ai (cy 0) (ps 10) 4 ld, oD d lt mn vs, ai (cy 0) (d 1) 24 pt, ai (cy 0) (d 2) 24 tk, ai (cy 0) (d 3) 24 mr, ai (cy 0) (d 4) 10 od, ai (cy 0) (d 5) 10 pl, ai (cy 0) (d 6) 4 rm, ai (cy 0) (d 7) 10 cd] := hD
  refine r_const hx hb dX2_begin_5 ?_
  refine lv_istore_n (lv' := [(2, .int (iI 0)), (0, .ref (ps 0)), (1, .ref (d 0))]) hx hb dX2_begin_6 rfl hl (by decide) rfl (fun ls hl => ?_)
  have lp_7 : ∀ (fu : Nat) (i : Int) (cn : Int) (B : Int → Int) (C : Int → Int), (0 ≤ i ∧ i ≤ lt) → (0 ≤ cn ∧ cn ≤ i) → (lst B cn.toNat = rw0 mr i) → (∀ l, 0 ≤ l → l < i → C l = mr l) → (lt - i).toNat < fu → ∀ (H : Heap) (locs : List Loc), va_P D vwCl [oP ps cn, ai (cy 0) (ps 1) 24 B, ai (cy 0) (ps 2) 24 C, ai (cy 0) (ps 3) 10 so, aq (cy 3) (ps 4) 4 (fun ix => ps (5 + ix)), ai (cy 0) (ps 5) 24 g0, ai (cy 0) (ps 6) 24 g1, ai (cy 0) (ps 7) 24 g2, ai (cy 0) (ps 8) 24 g3, ai (cy 0) (ps 9) 4 ht, ai (cy 0) (ps 10) 4 ld, oD d lt mn vs, ai (cy 0) (d 1) 24 pt, ai (cy 0) (d 2) 24 tk, ai (cy 0) (d 3) 24 mr, ai (cy 0) (d 4) 10 od, ai (cy 0) (d 5) 10 pl, ai (cy 0) (d 6) 4 rm, ai (cy 0) (d 7) 10 cd] H → va_D A [oP ps cn, ai (cy 0) (ps 1) 24 B, ai (cy 0) (ps 2) 24 C, ai (cy 0) (ps 3) 10 so, aq (cy 3) (ps 4) 4 (fun ix => ps (5 + ix)), ai (cy 0) (ps 5) 24 g0, ai (cy 0) (ps 6) 24 g1, ai (cy 0) (ps 7) 24 g2, ai (cy 0) (ps 8) 24 g3, ai (cy 0) (ps 9) 4 ht, ai (cy 0) (ps 10) 4 ld, oD d lt mn vs, ai (cy 0) (d 1) 24 pt, ai (cy 0) (d 2) 24 tk, ai (cy 0) (d 3) 24 mr, ai (cy 0) (d 4) 10 od, ai (cy 0) (d 5) 10 pl, ai (cy 0) (d 6) 4 rm, ai (cy 0) (d 7) 10 cd] → va_S A s.heap H locs → ∀ (ls : Array Slot), lv_has ls 3 [(0, .ref (ps 0)), (1, .ref (d 0)), (2, .int (iI i))] → W p l e rm_X2_begin s m args below meth c H locs 0 0 Q (F0 m 7 ls []) := by
    intro fu
    induction fu with
    | zero =>
      intro i cn B C h1 h0 h2 h3 hm
      exact absurd hm (Nat.not_lt_zero _)
    | succ fu ih_7 =>
      intro i cn B C h1 h0 h2 h3 hm H locs hP hD hS ls hl
      refine lv_iload_n hx hb dX2_begin_7 rfl (lv_at hl 2 rfl) ?_
      refine lv_aload_n hx hb dX2_begin_8 rfl (lv_at hl 1 rfl) ?_
      refine va_getN (D := D) (C := RX1) (T := TX1) (N := 10) (ci := 1) (v := .int (iI lt)) hx hb hts iw_X2_begin_1 hown hK hP 11 rfl rfl 0 (by decide) (nfX2_40 hN) (fun _ h9 => h9) rfl dX2_begin_9 ?_
      refine r_ge hx hb 62 dX2_begin_12 (by decide) ⟨by omega, by omega⟩ ⟨by omega, by omega⟩ (fun c_12 => ?_) (fun c_12 => ?_)
      ·
        exact hret [0, 1, 2, 3, 4, 5, 6, 7, 8, 9, 10, 11, 12, 13, 14, 15, 16, 17, 18] (cn, B, C) dX2_begin_62 hP hD hS (by decide) rfl (by rw [show lt = i by omega]; exact ⟨h0.1, h2, h3⟩)
      ·
        refine lv_aload_n hx hb dX2_begin_15 rfl (lv_at hl 0 rfl) ?_
        refine va_get (D := D) (C := RX2) (T := TX2) (N := 7) (ci := 2) (v := .ref (ps 2)) hx hb hts iw_X2_begin_2 hown hK hP 0 rfl rfl 2 (by decide) (hts _ fl_X2_begin_15) (fun _ h9 => h9) rfl dX2_begin_16 ?_
        refine lv_iload_n hx hb dX2_begin_19 rfl (lv_at hl 2 rfl) ?_
        refine lv_aload_n hx hb dX2_begin_20 rfl (lv_at hl 1 rfl) ?_
        refine va_getN (D := D) (C := RX1) (T := TX1) (N := 10) (ci := 1) (v := .ref (d 3)) hx hb hts iw_X2_begin_1 hown hK hP 11 rfl rfl 3 (by decide) (nfX2_64 hN) (fun _ h9 => h9) rfl dX2_begin_21 ?_
        refine lv_iload_n hx hb dX2_begin_24 rfl (lv_at hl 2 rfl) ?_
        refine r_ald hx hb hK hP 14 rfl rfl ⟨by omega, by omega, by omega⟩ dX2_begin_25 ?_
        have b_25 := hmr i
        refine r_ast hx hb hK hP hD hS 2 rfl rfl ⟨by omega, by omega, by omega⟩ dX2_begin_26 (fun H locs hP hD hS => ?_)
        replace hP : va_P D vwCl [oP ps cn, ai (cy 0) (ps 1) 24 B, ai (cy 0) (ps 2) 24 (ud C i (mr i)), ai (cy 0) (ps 3) 10 so, aq (cy 3) (ps 4) 4 (fun ix => ps (5 + ix)), ai (cy 0) (ps 5) 24 g0, ai (cy 0) (ps 6) 24 g1, ai (cy 0) (ps 7) 24 g2, ai (cy 0) (ps 8) 24 g3, ai (cy 0) (ps 9) 4 ht, ai (cy 0) (ps 10) 4 ld, oD d lt mn vs, ai (cy 0) (d 1) 24 pt, ai (cy 0) (d 2) 24 tk, ai (cy 0) (d 3) 24 mr, ai (cy 0) (d 4) 10 od, ai (cy 0) (d 5) 10 pl, ai (cy 0) (d 6) 4 rm, ai (cy 0) (d 7) 10 cd] H := hP
        replace hD : va_D A [oP ps cn, ai (cy 0) (ps 1) 24 B, ai (cy 0) (ps 2) 24 (ud C i (mr i)), ai (cy 0) (ps 3) 10 so, aq (cy 3) (ps 4) 4 (fun ix => ps (5 + ix)), ai (cy 0) (ps 5) 24 g0, ai (cy 0) (ps 6) 24 g1, ai (cy 0) (ps 7) 24 g2, ai (cy 0) (ps 8) 24 g3, ai (cy 0) (ps 9) 4 ht, ai (cy 0) (ps 10) 4 ld, oD d lt mn vs, ai (cy 0) (d 1) 24 pt, ai (cy 0) (d 2) 24 tk, ai (cy 0) (d 3) 24 mr, ai (cy 0) (d 4) 10 od, ai (cy 0) (d 5) 10 pl, ai (cy 0) (d 6) 4 rm, ai (cy 0) (d 7) 10 cd] := hD
        refine lv_aload_n hx hb dX2_begin_27 rfl (lv_at hl 1 rfl) ?_
        refine va_getN (D := D) (C := RX1) (T := TX1) (N := 10) (ci := 1) (v := .ref (d 3)) hx hb hts iw_X2_begin_1 hown hK hP 11 rfl rfl 3 (by decide) (nfX2_64 hN) (fun _ h9 => h9) rfl dX2_begin_28 ?_
        refine lv_iload_n hx hb dX2_begin_31 rfl (lv_at hl 2 rfl) ?_
        refine r_ald hx hb hK hP 14 rfl rfl ⟨by omega, by omega, by omega⟩ dX2_begin_32 ?_
        have b_32 := hmr i
        refine r_ne0 hx hb 56 dX2_begin_33 (by decide) ⟨by omega, by omega⟩ (fun c_33 => ?_) (fun c_33 => ?_)
        ·
          refine r_inc (k := 2) (lv' := [(2, .int (iI (i + 1))), (0, .ref (ps 0)), (1, .ref (d 0))]) hx hb dX2_begin_56 hl rfl (by decide) rfl (fun ls hl => ?_)
          refine lv_goto (tgt := 7) hx hb dX2_begin_59 (by decide) ?_
          exact ih_7 (i + 1) cn B (ud C i (mr i)) (by omega) (by omega) (by first | (rw [lst_push h0.1, h2, rw0_s h1.1, if_pos c_33]; done) | (rw [h2, rw0_s h1.1, if_neg c_33]; done)) (fun l q1 q2 => by by_cases e : l = i; (subst e; exact ud_at _ _ _); (rw [ud_ne e]; exact h3 l q1 (by omega))) (by omega) H locs (pick_P hP (is := [0, 1, 2, 3, 4, 5, 6, 7, 8, 9, 10, 11, 12, 13, 14, 15, 16, 17, 18]) rfl) (hD.sub [0, 1, 2, 3, 4, 5, 6, 7, 8, 9, 10, 11, 12, 13, 14, 15, 16, 17, 18] (by decide) rfl) hS ls (lv_sub hl [1, 2, 0] rfl)
        ·
          refine lv_aload_n hx hb dX2_begin_36 rfl (lv_at hl 0 rfl) ?_
          refine va_get (D := D) (C := RX2) (T := TX2) (N := 7) (ci := 2) (v := .ref (ps 1)) hx hb hts iw_X2_begin_2 hown hK hP 0 rfl rfl 0 (by decide) (hts _ fl_X2_begin_9) (fun _ h9 => h9) rfl dX2_begin_37 ?_
          refine lv_aload_n hx hb dX2_begin_40 rfl (lv_at hl 0 rfl) ?_
          refine va_get (D := D) (C := RX2) (T := TX2) (N := 7) (ci := 2) (v := .int (iI cn)) hx hb hts iw_X2_begin_2 hown hK hP 0 rfl rfl 1 (by decide) (hts _ fl_X2_begin_46) (fun _ h9 => h9) rfl dX2_begin_41 ?_
          refine lv_iload_n hx hb dX2_begin_44 rfl (lv_at hl 2 rfl) ?_
          refine r_ast hx hb hK hP hD hS 1 rfl rfl ⟨by omega, by omega, by omega⟩ dX2_begin_45 (fun H locs hP hD hS => ?_)
          replace hP : va_P D vwCl [oP ps cn, ai (cy 0) (ps 1) 24 (ud B cn i), ai (cy 0) (ps 2) 24 (ud C i (mr i)), ai (cy 0) (ps 3) 10 so, aq (cy 3) (ps 4) 4 (fun ix => ps (5 + ix)), ai (cy 0) (ps 5) 24 g0, ai (cy 0) (ps 6) 24 g1, ai (cy 0) (ps 7) 24 g2, ai (cy 0) (ps 8) 24 g3, ai (cy 0) (ps 9) 4 ht, ai (cy 0) (ps 10) 4 ld, oD d lt mn vs, ai (cy 0) (d 1) 24 pt, ai (cy 0) (d 2) 24 tk, ai (cy 0) (d 3) 24 mr, ai (cy 0) (d 4) 10 od, ai (cy 0) (d 5) 10 pl, ai (cy 0) (d 6) 4 rm, ai (cy 0) (d 7) 10 cd] H := hP
          replace hD : va_D A [oP ps cn, ai (cy 0) (ps 1) 24 (ud B cn i), ai (cy 0) (ps 2) 24 (ud C i (mr i)), ai (cy 0) (ps 3) 10 so, aq (cy 3) (ps 4) 4 (fun ix => ps (5 + ix)), ai (cy 0) (ps 5) 24 g0, ai (cy 0) (ps 6) 24 g1, ai (cy 0) (ps 7) 24 g2, ai (cy 0) (ps 8) 24 g3, ai (cy 0) (ps 9) 4 ht, ai (cy 0) (ps 10) 4 ld, oD d lt mn vs, ai (cy 0) (d 1) 24 pt, ai (cy 0) (d 2) 24 tk, ai (cy 0) (d 3) 24 mr, ai (cy 0) (d 4) 10 od, ai (cy 0) (d 5) 10 pl, ai (cy 0) (d 6) 4 rm, ai (cy 0) (d 7) 10 cd] := hD
          refine lv_aload_n hx hb dX2_begin_46 rfl (lv_at hl 0 rfl) ?_
          refine lv_dup hx hb dX2_begin_47 rfl ?_
          refine va_get (D := D) (C := RX2) (T := TX2) (N := 7) (ci := 2) (v := .int (iI cn)) hx hb hts iw_X2_begin_2 hown hK hP 0 rfl rfl 1 (by decide) (hts _ fl_X2_begin_46) (fun _ h9 => h9) rfl dX2_begin_48 ?_
          refine r_const hx hb dX2_begin_51 ?_
          refine r_add hx hb dX2_begin_52 ?_
          refine va_put (D := D) (C := RX2) (T := TX2) (N := 7) (ci := 2) (v := .int (iI (cn + 1))) (ty := .int) hx hb hts iw_X2_begin_2 tyX2 tyX2_ok nmX2 hown hK hP hD hS 0 rfl rfl 1 (by decide) (hts _ fl_X2_begin_46) (fun _ h9 => h9) rfl (by decide +kernel) rfl rfl (Nat.le_of_ble_eq_true rfl) dX2_begin_53 (fun H locs hP hD hS => ?_)
          replace hP : va_P D vwCl [oP ps (cn + 1), ai (cy 0) (ps 1) 24 (ud B cn i), ai (cy 0) (ps 2) 24 (ud C i (mr i)), ai (cy 0) (ps 3) 10 so, aq (cy 3) (ps 4) 4 (fun ix => ps (5 + ix)), ai (cy 0) (ps 5) 24 g0, ai (cy 0) (ps 6) 24 g1, ai (cy 0) (ps 7) 24 g2, ai (cy 0) (ps 8) 24 g3, ai (cy 0) (ps 9) 4 ht, ai (cy 0) (ps 10) 4 ld, oD d lt mn vs, ai (cy 0) (d 1) 24 pt, ai (cy 0) (d 2) 24 tk, ai (cy 0) (d 3) 24 mr, ai (cy 0) (d 4) 10 od, ai (cy 0) (d 5) 10 pl, ai (cy 0) (d 6) 4 rm, ai (cy 0) (d 7) 10 cd] H := hP
          replace hD : va_D A [oP ps (cn + 1), ai (cy 0) (ps 1) 24 (ud B cn i), ai (cy 0) (ps 2) 24 (ud C i (mr i)), ai (cy 0) (ps 3) 10 so, aq (cy 3) (ps 4) 4 (fun ix => ps (5 + ix)), ai (cy 0) (ps 5) 24 g0, ai (cy 0) (ps 6) 24 g1, ai (cy 0) (ps 7) 24 g2, ai (cy 0) (ps 8) 24 g3, ai (cy 0) (ps 9) 4 ht, ai (cy 0) (ps 10) 4 ld, oD d lt mn vs, ai (cy 0) (d 1) 24 pt, ai (cy 0) (d 2) 24 tk, ai (cy 0) (d 3) 24 mr, ai (cy 0) (d 4) 10 od, ai (cy 0) (d 5) 10 pl, ai (cy 0) (d 6) 4 rm, ai (cy 0) (d 7) 10 cd] := hD
          refine r_inc (k := 2) (lv' := [(2, .int (iI (i + 1))), (0, .ref (ps 0)), (1, .ref (d 0))]) hx hb dX2_begin_56 hl rfl (by decide) rfl (fun ls hl => ?_)
          refine lv_goto (tgt := 7) hx hb dX2_begin_59 (by decide) ?_
          exact ih_7 (i + 1) (cn + 1) (ud B cn i) (ud C i (mr i)) (by omega) (by omega) (by first | (rw [lst_push h0.1, h2, rw0_s h1.1, if_pos c_33]; done) | (rw [h2, rw0_s h1.1, if_neg c_33]; done)) (fun l q1 q2 => by by_cases e : l = i; (subst e; exact ud_at _ _ _); (rw [ud_ne e]; exact h3 l q1 (by omega))) (by omega) H locs (pick_P hP (is := [0, 1, 2, 3, 4, 5, 6, 7, 8, 9, 10, 11, 12, 13, 14, 15, 16, 17, 18]) rfl) (hD.sub [0, 1, 2, 3, 4, 5, 6, 7, 8, 9, 10, 11, 12, 13, 14, 15, 16, 17, 18] (by decide) rfl) hS ls (lv_sub hl [1, 2, 0] rfl)
  exact lp_7 _ 0 0 or sa (by omega) (by omega) (rfl) (fun l q1 q2 => by omega) (Nat.lt_succ_self _) H locs (pick_P hP (is := [0, 1, 2, 3, 4, 5, 6, 7, 8, 9, 10, 11, 12, 13, 14, 15, 16, 17, 18]) rfl) (hD.sub [0, 1, 2, 3, 4, 5, 6, 7, 8, 9, 10, 11, 12, 13, 14, 15, 16, 17, 18] (by decide) rfl) hS ls (lv_sub hl [1, 2, 0] rfl)
abbrev rm_X2_aim : Room := { frames := 1, cells := 0, slots := 0, locals := 22 }
theorem fl_X2_aim_18 : Cond.fieldLink RX2 18 "WalkPasses$Passes" "stackerOf" "[I" ∈ wsX2_aim := by decide +kernel
theorem iw_X2_aim_2 : ∀ w ∈ u_ws RX2 TX2 7, w ∈ wsX2_aim := by decide +kernel
set_option maxHeartbeats 4000000 in
set_option maxRecDepth 100000 in
theorem k_X2_aim (l : Launch) (D : va_G) (cy : Nat → ClassId) (ps : Nat → Nat) (a : Nat) (z : Nat) (cm : Int) (or sa so g0 g1 g2 g3 ht ld : Int → Int) (cd : Int → Int) (un mn : Int) (hcd : ∀ j, 0 ≤ cd j ∧ cd j ≤ 63) (hun : 1 ≤ un ∧ un ≤ 1000) (hmn : 2 ≤ mn ∧ mn ≤ 4) : CtV l yX2_aim wsX2_aim rm_X2_aim D (tyL cy) [.ref (ps 0), .ref (a), .int (iI un), .int (iI mn)] [oP ps cm, ai (cy 0) (ps 1) 24 or, ai (cy 0) (ps 2) 24 sa, ai (cy 0) (ps 3) 10 so, aq (cy 3) (ps 4) 4 (fun ix => ps (5 + ix)), ai (cy 0) (ps 5) 24 g0, ai (cy 0) (ps 6) 24 g1, ai (cy 0) (ps 7) 24 g2, ai (cy 0) (ps 8) 24 g3, ai (cy 0) (ps 9) 4 ht, ai (cy 0) (ps 10) 4 ld, ai (cy 0) a 10 cd] z (fun (u : Int → Int) => ∀ q, 0 ≤ q → q ≤ 9 → u q = cd q / un % mn ∧ 0 ≤ u q ∧ u q < mn) (fun (u : Int → Int) => [oP ps cm, ai (cy 0) (ps 1) 24 or, ai (cy 0) (ps 2) 24 sa, ai (cy 0) (ps 3) 10 u, aq (cy 3) (ps 4) 4 (fun ix => ps (5 + ix)), ai (cy 0) (ps 5) 24 g0, ai (cy 0) (ps 6) 24 g1, ai (cy 0) (ps 7) 24 g2, ai (cy 0) (ps 8) 24 g3, ai (cy 0) (ps 9) 4 ht, ai (cy 0) (ps 10) 4 ld, ai (cy 0) a 10 cd]) 0 0 := by
  refine ct_v (cc := cX2_aim) (maxL := 5) (by decide) rfl (Nat.le_of_ble_eq_true rfl) ?_
  intro p e s m args below meth c A Q H locs ls hx hb hml hown hin hts hK hN hP hD hS hA hl hret
  replace hl : lv_has ls 5 [(0, .ref (ps 0)), (1, .ref (a)), (2, .int (iI un)), (3, .int (iI mn))] := hl
  replace hown : s.vm.findClass RX2 = some m.cls := hown
  refine r_const hx hb dX2_aim_0 ?_
  refine lv_istore (lv' := [(4, .int (iI 0)), (0, .ref (ps 0)), (1, .ref (a)), (2, .int (iI un)), (3, .int (iI mn))]) hx hb dX2_aim_1 hl (by decide) rfl (fun ls hl => ?_)
  have lp_3 : ∀ (fu : Nat) (i : Int) (B : Int → Int), (0 ≤ i ∧ i ≤ 10) → (∀ q, 0 ≤ q → q < i → B q = cd q / un % mn ∧ 0 ≤ B q ∧ B q < mn) → (10 - i).toNat < fu → ∀ (H : Heap) (locs : List Loc), va_P D vwCl [oP ps cm, ai (cy 0) (ps 1) 24 or, ai (cy 0) (ps 2) 24 sa, ai (cy 0) (ps 3) 10 B, aq (cy 3) (ps 4) 4 (fun ix => ps (5 + ix)), ai (cy 0) (ps 5) 24 g0, ai (cy 0) (ps 6) 24 g1, ai (cy 0) (ps 7) 24 g2, ai (cy 0) (ps 8) 24 g3, ai (cy 0) (ps 9) 4 ht, ai (cy 0) (ps 10) 4 ld, ai (cy 0) a 10 cd] H → va_D A [oP ps cm, ai (cy 0) (ps 1) 24 or, ai (cy 0) (ps 2) 24 sa, ai (cy 0) (ps 3) 10 B, aq (cy 3) (ps 4) 4 (fun ix => ps (5 + ix)), ai (cy 0) (ps 5) 24 g0, ai (cy 0) (ps 6) 24 g1, ai (cy 0) (ps 7) 24 g2, ai (cy 0) (ps 8) 24 g3, ai (cy 0) (ps 9) 4 ht, ai (cy 0) (ps 10) 4 ld, ai (cy 0) a 10 cd] → va_S A s.heap H locs → ∀ (ls : Array Slot), lv_has ls 5 [(0, .ref (ps 0)), (1, .ref (a)), (2, .int (iI un)), (3, .int (iI mn)), (4, .int (iI i))] → W p l e rm_X2_aim s m args below meth c H locs 0 0 Q (F0 m 3 ls []) := by
    intro fu
    induction fu with
    | zero =>
      intro i B h1 h2 hm
      exact absurd hm (Nat.not_lt_zero _)
    | succ fu ih_3 =>
      intro i B h1 h2 hm H locs hP hD hS ls hl
      refine lv_iload hx hb dX2_aim_3 (lv_at hl 4 rfl) ?_
      refine r_bip hx hb (10) dX2_aim_5 (by decide) ?_
      refine r_ge hx hb 32 dX2_aim_7 (by decide) ⟨by omega, by omega⟩ ⟨by omega, by omega⟩ (fun c_7 => ?_) (fun c_7 => ?_)
      ·
        exact hret [0, 1, 2, 3, 4, 5, 6, 7, 8, 9, 10, 11] B dX2_aim_32 hP hD hS (by decide) rfl (fun q q1 q2 => h2 q q1 (by omega))
      ·
        refine lv_aload_n hx hb dX2_aim_10 rfl (lv_at hl 0 rfl) ?_
        refine va_get (D := D) (C := RX2) (T := TX2) (N := 7) (ci := 2) (v := .ref (ps 3)) hx hb hts iw_X2_aim_2 hown hK hP 0 rfl rfl 3 (by decide) (hts _ fl_X2_aim_18) (fun _ h9 => h9) rfl dX2_aim_11 ?_
        refine lv_iload hx hb dX2_aim_14 (lv_at hl 4 rfl) ?_
        refine lv_aload_n hx hb dX2_aim_16 rfl (lv_at hl 1 rfl) ?_
        refine lv_iload hx hb dX2_aim_17 (lv_at hl 4 rfl) ?_
        refine r_ald hx hb hK hP 11 rfl rfl ⟨by omega, by omega, by omega⟩ dX2_aim_19 ?_
        have b_19 := hcd i
        refine lv_iload_n hx hb dX2_aim_20 rfl (lv_at hl 2 rfl) ?_
        refine lv_iload_n hx hb dX2_aim_21 rfl (lv_at hl 3 rfl) ?_
        have M_22 := k_X5_figure l D cy  H.size (cd i) un mn (⟨by omega, by omega⟩) (⟨by omega, by omega⟩) (⟨by omega, by omega⟩)
        refine kSN_i (wr := [oP ps cm, ai (cy 0) (ps 1) 24 or, ai (cy 0) (ps 2) 24 sa, ai (cy 0) (ps 3) 10 B, aq (cy 3) (ps 4) 4 (fun ix => ps (5 + ix)), ai (cy 0) (ps 5) 24 g0, ai (cy 0) (ps 6) 24 g1, ai (cy 0) (ps 7) 24 g2, ai (cy 0) (ps 8) 24 g3, ai (cy 0) (ps 9) 4 ht, ai (cy 0) (ps 10) 4 ld, ai (cy 0) a 10 cd]) (As := [.int (iI (cd i)), .int (iI un), .int (iI mn)]) (rest := [.int (iI i), .ref (ps 3)]) ⟨hx, hb, hml, hown, hts⟩ M_22 ⟨va_cnB 3 hts gX2_aim_X5_figure_n67 rfl rfl rfl (nmX2_67 hN) (hts (.initialized RX5) (by decide +kernel)) (by decide +kernel) ⟨Nat.le_of_ble_eq_true rfl, Nat.le_of_ble_eq_true rfl⟩, hts (.static yX5_figure) (by decide +kernel), trivial⟩ hN hK hP hD hS hA [] [0, 1, 2, 3, 4, 5, 6, 7, 8, 9, 10, 11] rfl rfl (by decide) (by decide) (by decide) rfl hl.1 rfl (Nat.le_of_ble_eq_true rfl) dX2_aim_22 ⟨Nat.le_of_ble_eq_true rfl, Nat.le_of_ble_eq_true rfl⟩ (fun r_22 u_22 H locs hw_22 hP hD hS => ?_)
        replace hP : va_P D vwCl [oP ps cm, ai (cy 0) (ps 1) 24 or, ai (cy 0) (ps 2) 24 sa, ai (cy 0) (ps 3) 10 B, aq (cy 3) (ps 4) 4 (fun ix => ps (5 + ix)), ai (cy 0) (ps 5) 24 g0, ai (cy 0) (ps 6) 24 g1, ai (cy 0) (ps 7) 24 g2, ai (cy 0) (ps 8) 24 g3, ai (cy 0) (ps 9) 4 ht, ai (cy 0) (ps 10) 4 ld, ai (cy 0) a 10 cd] H := hP
        replace hD : va_D A [oP ps cm, ai (cy 0) (ps 1) 24 or, ai (cy 0) (ps 2) 24 sa, ai (cy 0) (ps 3) 10 B, aq (cy 3) (ps 4) 4 (fun ix => ps (5 + ix)), ai (cy 0) (ps 5) 24 g0, ai (cy 0) (ps 6) 24 g1, ai (cy 0) (ps 7) 24 g2, ai (cy 0) (ps 8) 24 g3, ai (cy 0) (ps 9) 4 ht, ai (cy 0) (ps 10) 4 ld, ai (cy 0) a 10 cd] := hD
        refine r_ast hx hb hK hP hD hS 3 rfl rfl ⟨by omega, by omega, by omega⟩ dX2_aim_25 (fun H locs hP hD hS => ?_)
        replace hP : va_P D vwCl [oP ps cm, ai (cy 0) (ps 1) 24 or, ai (cy 0) (ps 2) 24 sa, ai (cy 0) (ps 3) 10 (ud B i r_22), aq (cy 3) (ps 4) 4 (fun ix => ps (5 + ix)), ai (cy 0) (ps 5) 24 g0, ai (cy 0) (ps 6) 24 g1, ai (cy 0) (ps 7) 24 g2, ai (cy 0) (ps 8) 24 g3, ai (cy 0) (ps 9) 4 ht, ai (cy 0) (ps 10) 4 ld, ai (cy 0) a 10 cd] H := hP
        replace hD : va_D A [oP ps cm, ai (cy 0) (ps 1) 24 or, ai (cy 0) (ps 2) 24 sa, ai (cy 0) (ps 3) 10 (ud B i r_22), aq (cy 3) (ps 4) 4 (fun ix => ps (5 + ix)), ai (cy 0) (ps 5) 24 g0, ai (cy 0) (ps 6) 24 g1, ai (cy 0) (ps 7) 24 g2, ai (cy 0) (ps 8) 24 g3, ai (cy 0) (ps 9) 4 ht, ai (cy 0) (ps 10) 4 ld, ai (cy 0) a 10 cd] := hD
        refine r_inc (k := 4) (lv' := [(4, .int (iI (i + 1))), (0, .ref (ps 0)), (1, .ref (a)), (2, .int (iI un)), (3, .int (iI mn))]) hx hb dX2_aim_26 hl rfl (by decide) rfl (fun ls hl => ?_)
        refine lv_goto (tgt := 3) hx hb dX2_aim_29 (by decide) ?_
        exact ih_3 (i + 1) (ud B i r_22) (by omega) (fun l q1 q2 => by by_cases e : l = i; (subst e; rw [ud_at]; exact hw_22); (rw [ud_ne e]; exact h2 l q1 (by omega))) (by omega) H locs (pick_P hP (is := [0, 1, 2, 3, 4, 5, 6, 7, 8, 9, 10, 11]) rfl) (hD.sub [0, 1, 2, 3, 4, 5, 6, 7, 8, 9, 10, 11] (by decide) rfl) hS ls (lv_sub hl [1, 2, 3, 4, 0] rfl)
  exact lp_3 _ 0 so (by omega) (fun l q1 q2 => by omega) (Nat.lt_succ_self _) H locs (pick_P hP (is := [0, 1, 2, 3, 4, 5, 6, 7, 8, 9, 10, 11]) rfl) (hD.sub [0, 1, 2, 3, 4, 5, 6, 7, 8, 9, 10, 11] (by decide) rfl) hS ls (lv_sub hl [1, 2, 3, 4, 0] rfl)
abbrev rm_X2_stack : Room := { frames := 1, cells := 0, slots := 0, locals := 23 }
theorem fl_X2_stack_9 : Cond.fieldLink RX2 9 "WalkPasses$Passes" "order" "[I" ∈ wsX2_stack := by decide +kernel
theorem fl_X2_stack_15 : Cond.fieldLink RX2 15 "WalkPasses$Passes" "spilledAt" "[I" ∈ wsX2_stack := by decide +kernel
theorem fl_X2_stack_18 : Cond.fieldLink RX2 18 "WalkPasses$Passes" "stackerOf" "[I" ∈ wsX2_stack := by decide +kernel
theorem fl_X2_stack_23 : Cond.fieldLink RX2 23 "WalkPasses$Passes" "piles" "[[I" ∈ wsX2_stack := by decide +kernel
theorem fl_X2_stack_26 : Cond.fieldLink RX2 26 "WalkPasses$Passes" "heights" "[I" ∈ wsX2_stack := by decide +kernel
theorem fl_X2_stack_29 : Cond.fieldLink RX2 29 "WalkPasses$Passes" "loads" "[I" ∈ wsX2_stack := by decide +kernel
theorem fl_X2_stack_46 : Cond.fieldLink RX2 46 "WalkPasses$Passes" "coming" "I" ∈ wsX2_stack := by decide +kernel
theorem iw_X2_stack_1 : ∀ w ∈ u_ws RX1 TX1 10, w ∈ wsX2_stack := by decide +kernel
theorem iw_X2_stack_2 : ∀ w ∈ u_ws RX2 TX2 7, w ∈ wsX2_stack := by decide +kernel
set_option maxHeartbeats 4000000 in
set_option maxRecDepth 100000 in
theorem k_X2_stack (l : Launch) (D : va_G) (cy : Nat → ClassId) (ps d : Nat → Nat) (z : Nat) (cm : Int) (or sa so g0 g1 g2 g3 ht ld : Int → Int) (lt mn vs : Int) (pt tk mr od pl rm cd : Int → Int) (jj : Int) (hI : DI lt mn pt tk mr od pl rm cd) (hcm : 0 ≤ cm ∧ cm ≤ 24) (hor : ∀ i, 0 ≤ i → i < cm → 0 ≤ or i ∧ or i < lt) (hso : ∀ q, 0 ≤ q → q ≤ 9 → 0 ≤ so q ∧ so q < mn) : CtV l yX2_stack wsX2_stack rm_X2_stack D (tyL cy) [.ref (ps 0), .ref (d 0), .int (iI jj)] [oP ps cm, ai (cy 0) (ps 1) 24 or, ai (cy 0) (ps 2) 24 sa, ai (cy 0) (ps 3) 10 so, aq (cy 3) (ps 4) 4 (fun ix => ps (5 + ix)), ai (cy 0) (ps 5) 24 g0, ai (cy 0) (ps 6) 24 g1, ai (cy 0) (ps 7) 24 g2, ai (cy 0) (ps 8) 24 g3, ai (cy 0) (ps 9) 4 ht, ai (cy 0) (ps 10) 4 ld, oD d lt mn vs, ai (cy 0) (d 1) 24 pt, ai (cy 0) (d 2) 24 tk, ai (cy 0) (d 3) 24 mr, ai (cy 0) (d 4) 10 od, ai (cy 0) (d 5) 10 pl, ai (cy 0) (d 6) 4 rm, ai (cy 0) (d 7) 10 cd] z (fun (u : (Int → Int) × (Int → Int) × (Int → Int) × (Int → Int) × (Int → Int) × (Int → Int) × (Int → Int)) => StkP (fun l => so (pt l)) tk rm (lst or cm.toNat) jj sa u.1 u.2.1 u.2.2.1 u.2.2.2.1 u.2.2.2.2.1 u.2.2.2.2.2.1 u.2.2.2.2.2.2) (fun (u : (Int → Int) × (Int → Int) × (Int → Int) × (Int → Int) × (Int → Int) × (Int → Int) × (Int → Int)) => [oP ps cm, ai (cy 0) (ps 1) 24 or, ai (cy 0) (ps 2) 24 u.1, ai (cy 0) (ps 3) 10 so, aq (cy 3) (ps 4) 4 (fun ix => ps (5 + ix)), ai (cy 0) (ps 5) 24 u.2.1, ai (cy 0) (ps 6) 24 u.2.2.1, ai (cy 0) (ps 7) 24 u.2.2.2.1, ai (cy 0) (ps 8) 24 u.2.2.2.2.1, ai (cy 0) (ps 9) 4 u.2.2.2.2.2.1, ai (cy 0) (ps 10) 4 u.2.2.2.2.2.2, oD d lt mn vs, ai (cy 0) (d 1) 24 pt, ai (cy 0) (d 2) 24 tk, ai (cy 0) (d 3) 24 mr, ai (cy 0) (d 4) 10 od, ai (cy 0) (d 5) 10 pl, ai (cy 0) (d 6) 4 rm, ai (cy 0) (d 7) 10 cd]) 0 0 := by
  refine ct_v (cc := cX2_stack) (maxL := 7) (by decide) rfl (Nat.le_of_ble_eq_true rfl) ?_
  intro p e s m args below meth c A Q H locs ls hx hb hml hown hin hts hK hN hP hD hS hA hl hret
  replace hl : lv_has ls 7 [(0, .ref (ps 0)), (1, .ref (d 0)), (2, .int (iI jj))] := hl
  replace hown : s.vm.findClass RX2 = some m.cls := hown
  obtain ⟨⟨⟨hlt0, hlt1⟩, hmn0, hmn1⟩, ⟨hpt, htk, hmr⟩, ⟨hod, hpl, hpo, hop⟩, hrm, hcd⟩ := id hI
  refine lv_aload_n hx hb dX2_stack_0 rfl (lv_at hl 0 rfl) ?_
  refine va_get (D := D) (C := RX2) (T := TX2) (N := 7) (ci := 2) (v := .ref (ps 9)) hx hb hts iw_X2_stack_2 hown hK hP 0 rfl rfl 5 (by decide) (hts _ fl_X2_stack_26) (fun _ h9 => h9) rfl dX2_stack_1 ?_
  refine r_const hx hb dX2_stack_4 ?_
  have M_5 := k_J7_fill_53178 l D cy (ps 9) H.size 4 ht 0 (by decide)
  refine kS_v (wr := [oP ps cm, ai (cy 0) (ps 1) 24 or, ai (cy 0) (ps 2) 24 sa, ai (cy 0) (ps 3) 10 so, aq (cy 3) (ps 4) 4 (fun ix => ps (5 + ix)), ai (cy 0) (ps 5) 24 g0, ai (cy 0) (ps 6) 24 g1, ai (cy 0) (ps 7) 24 g2, ai (cy 0) (ps 8) 24 g3, ai (cy 0) (ps 10) 4 ld, oD d lt mn vs, ai (cy 0) (d 1) 24 pt, ai (cy 0) (d 2) 24 tk, ai (cy 0) (d 3) 24 mr, ai (cy 0) (d 4) 10 od, ai (cy 0) (d 5) 10 pl, ai (cy 0) (d 6) 4 rm, ai (cy 0) (d 7) 10 cd]) (As := [.ref (ps 9), .int (iI 0)]) (rest := []) ⟨hx, hb, hml, hown, hts⟩ M_5 (va_cwS 2 hts gX2_stack_J7_fill_53178 rfl rfl rfl (by decide +kernel) ⟨Nat.le_of_ble_eq_true rfl, Nat.le_of_ble_eq_true rfl⟩) hN hK hP hD hS hA [9] [0, 1, 2, 3, 4, 5, 6, 7, 8, 10, 11, 12, 13, 14, 15, 16, 17, 18] rfl rfl (by decide) (by decide) (by decide) rfl hl.1 rfl (Nat.le_of_ble_eq_true rfl) dX2_stack_5 ⟨Nat.le_of_ble_eq_true rfl, Nat.le_of_ble_eq_true rfl⟩ (fun u_5 H locs hw_5 hP hD hS => ?_)
  replace hP : va_P D vwCl [oP ps cm, ai (cy 0) (ps 1) 24 or, ai (cy 0) (ps 2) 24 sa, ai (cy 0) (ps 3) 10 so, aq (cy 3) (ps 4) 4 (fun ix => ps (5 + ix)), ai (cy 0) (ps 5) 24 g0, ai (cy 0) (ps 6) 24 g1, ai (cy 0) (ps 7) 24 g2, ai (cy 0) (ps 8) 24 g3, ai (cy 0) (ps 10) 4 ld, oD d lt mn vs, ai (cy 0) (d 1) 24 pt, ai (cy 0) (d 2) 24 tk, ai (cy 0) (d 3) 24 mr, ai (cy 0) (d 4) 10 od, ai (cy 0) (d 5) 10 pl, ai (cy 0) (d 6) 4 rm, ai (cy 0) (d 7) 10 cd, ai (cy 0) (ps 9) 4 (fun _ => 0)] H := hP
  replace hD : va_D A [oP ps cm, ai (cy 0) (ps 1) 24 or, ai (cy 0) (ps 2) 24 sa, ai (cy 0) (ps 3) 10 so, aq (cy 3) (ps 4) 4 (fun ix => ps (5 + ix)), ai (cy 0) (ps 5) 24 g0, ai (cy 0) (ps 6) 24 g1, ai (cy 0) (ps 7) 24 g2, ai (cy 0) (ps 8) 24 g3, ai (cy 0) (ps 10) 4 ld, oD d lt mn vs, ai (cy 0) (d 1) 24 pt, ai (cy 0) (d 2) 24 tk, ai (cy 0) (d 3) 24 mr, ai (cy 0) (d 4) 10 od, ai (cy 0) (d 5) 10 pl, ai (cy 0) (d 6) 4 rm, ai (cy 0) (d 7) 10 cd, ai (cy 0) (ps 9) 4 (fun _ => 0)] := hD
  refine lv_aload_n hx hb dX2_stack_8 rfl (lv_at hl 0 rfl) ?_
  refine va_get (D := D) (C := RX2) (T := TX2) (N := 7) (ci := 2) (v := .ref (ps 10)) hx hb hts iw_X2_stack_2 hown hK hP 0 rfl rfl 6 (by decide) (hts _ fl_X2_stack_29) (fun _ h9 => h9) rfl dX2_stack_9 ?_
  refine r_const hx hb dX2_stack_12 ?_
  have M_13 := k_J7_fill_53178 l D cy (ps 10) H.size 4 ld 0 (by decide)
  refine kS_v (wr := [oP ps cm, ai (cy 0) (ps 1) 24 or, ai (cy 0) (ps 2) 24 sa, ai (cy 0) (ps 3) 10 so, aq (cy 3) (ps 4) 4 (fun ix => ps (5 + ix)), ai (cy 0) (ps 5) 24 g0, ai (cy 0) (ps 6) 24 g1, ai (cy 0) (ps 7) 24 g2, ai (cy 0) (ps 8) 24 g3, oD d lt mn vs, ai (cy 0) (d 1) 24 pt, ai (cy 0) (d 2) 24 tk, ai (cy 0) (d 3) 24 mr, ai (cy 0) (d 4) 10 od, ai (cy 0) (d 5) 10 pl, ai (cy 0) (d 6) 4 rm, ai (cy 0) (d 7) 10 cd, ai (cy 0) (ps 9) 4 (fun _ => 0)]) (As := [.ref (ps 10), .int (iI 0)]) (rest := []) ⟨hx, hb, hml, hown, hts⟩ M_13 (va_cwS 2 hts gX2_stack_J7_fill_53178 rfl rfl rfl (by decide +kernel) ⟨Nat.le_of_ble_eq_true rfl, Nat.le_of_ble_eq_true rfl⟩) hN hK hP hD hS hA [9] [0, 1, 2, 3, 4, 5, 6, 7, 8, 10, 11, 12, 13, 14, 15, 16, 17, 18] rfl rfl (by decide) (by decide) (by decide) rfl hl.1 rfl (Nat.le_of_ble_eq_true rfl) dX2_stack_13 ⟨Nat.le_of_ble_eq_true rfl, Nat.le_of_ble_eq_true rfl⟩ (fun u_13 H locs hw_13 hP hD hS => ?_)
  replace hP : va_P D vwCl [oP ps cm, ai (cy 0) (ps 1) 24 or, ai (cy 0) (ps 2) 24 sa, ai (cy 0) (ps 3) 10 so, aq (cy 3) (ps 4) 4 (fun ix => ps (5 + ix)), ai (cy 0) (ps 5) 24 g0, ai (cy 0) (ps 6) 24 g1, ai (cy 0) (ps 7) 24 g2, ai (cy 0) (ps 8) 24 g3, oD d lt mn vs, ai (cy 0) (d 1) 24 pt, ai (cy 0) (d 2) 24 tk, ai (cy 0) (d 3) 24 mr, ai (cy 0) (d 4) 10 od, ai (cy 0) (d 5) 10 pl, ai (cy 0) (d 6) 4 rm, ai (cy 0) (d 7) 10 cd, ai (cy 0) (ps 9) 4 (fun _ => 0), ai (cy 0) (ps 10) 4 (fun _ => 0)] H := hP
  replace hD : va_D A [oP ps cm, ai (cy 0) (ps 1) 24 or, ai (cy 0) (ps 2) 24 sa, ai (cy 0) (ps 3) 10 so, aq (cy 3) (ps 4) 4 (fun ix => ps (5 + ix)), ai (cy 0) (ps 5) 24 g0, ai (cy 0) (ps 6) 24 g1, ai (cy 0) (ps 7) 24 g2, ai (cy 0) (ps 8) 24 g3, oD d lt mn vs, ai (cy 0) (d 1) 24 pt, ai (cy 0) (d 2) 24 tk, ai (cy 0) (d 3) 24 mr, ai (cy 0) (d 4) 10 od, ai (cy 0) (d 5) 10 pl, ai (cy 0) (d 6) 4 rm, ai (cy 0) (d 7) 10 cd, ai (cy 0) (ps 9) 4 (fun _ => 0), ai (cy 0) (ps 10) 4 (fun _ => 0)] := hD
  refine r_const hx hb dX2_stack_16 ?_
  refine lv_istore_n (lv' := [(3, .int (iI 0)), (0, .ref (ps 0)), (1, .ref (d 0)), (2, .int (iI jj))]) hx hb dX2_stack_17 rfl hl (by decide) rfl (fun ls hl => ?_)
  have lp_18 : ∀ (fu : Nat) (i : Int) (SA : Int → Int) (A0 : Int → Int) (A1 : Int → Int) (A2 : Int → Int) (A3 : Int → Int) (HT : Int → Int) (LD : Int → Int), (0 ≤ i ∧ i ≤ cm) → (StkP (fun l => so (pt l)) tk rm (lst or i.toNat) jj sa SA A0 A1 A2 A3 HT LD) → (cm - i).toNat < fu → ∀ (H : Heap) (locs : List Loc), va_P D vwCl [oP ps cm, ai (cy 0) (ps 1) 24 or, ai (cy 0) (ps 2) 24 SA, ai (cy 0) (ps 3) 10 so, aq (cy 3) (ps 4) 4 (fun ix => ps (5 + ix)), ai (cy 0) (ps 5) 24 A0, ai (cy 0) (ps 6) 24 A1, ai (cy 0) (ps 7) 24 A2, ai (cy 0) (ps 8) 24 A3, oD d lt mn vs, ai (cy 0) (d 1) 24 pt, ai (cy 0) (d 2) 24 tk, ai (cy 0) (d 3) 24 mr, ai (cy 0) (d 4) 10 od, ai (cy 0) (d 5) 10 pl, ai (cy 0) (d 6) 4 rm, ai (cy 0) (d 7) 10 cd, ai (cy 0) (ps 9) 4 HT, ai (cy 0) (ps 10) 4 LD] H → va_D A [oP ps cm, ai (cy 0) (ps 1) 24 or, ai (cy 0) (ps 2) 24 SA, ai (cy 0) (ps 3) 10 so, aq (cy 3) (ps 4) 4 (fun ix => ps (5 + ix)), ai (cy 0) (ps 5) 24 A0, ai (cy 0) (ps 6) 24 A1, ai (cy 0) (ps 7) 24 A2, ai (cy 0) (ps 8) 24 A3, oD d lt mn vs, ai (cy 0) (d 1) 24 pt, ai (cy 0) (d 2) 24 tk, ai (cy 0) (d 3) 24 mr, ai (cy 0) (d 4) 10 od, ai (cy 0) (d 5) 10 pl, ai (cy 0) (d 6) 4 rm, ai (cy 0) (d 7) 10 cd, ai (cy 0) (ps 9) 4 HT, ai (cy 0) (ps 10) 4 LD] → va_S A s.heap H locs → ∀ (ls : Array Slot), lv_has ls 7 [(0, .ref (ps 0)), (1, .ref (d 0)), (2, .int (iI jj)), (3, .int (iI i))] → W p l e rm_X2_stack s m args below meth c H locs 0 0 Q (F0 m 18 ls []) := by
    intro fu
    induction fu with
    | zero =>
      intro i SA A0 A1 A2 A3 HT LD h1 hp hm
      exact absurd hm (Nat.not_lt_zero _)
    | succ fu ih_18 =>
      intro i SA A0 A1 A2 A3 HT LD h1 hp hm H locs hP hD hS ls hl
      have hLb : ∀ s, 0 ≤ LD s ∧ LD s ≤ 99 := by rw [hp.1]; exact pas_ld _ tk rm _ htk hrm
      have hHb := StkP_h hp
      have hHl := StkP_hl hp
      rw [lst_len] at hHl
      refine lv_iload_n hx hb dX2_stack_18 rfl (lv_at hl 3 rfl) ?_
      refine lv_aload_n hx hb dX2_stack_19 rfl (lv_at hl 0 rfl) ?_
      refine va_get (D := D) (C := RX2) (T := TX2) (N := 7) (ci := 2) (v := .int (iI cm)) hx hb hts iw_X2_stack_2 hown hK hP 0 rfl rfl 1 (by decide) (hts _ fl_X2_stack_46) (fun _ h9 => h9) rfl dX2_stack_20 ?_
      refine r_ge hx hb 131 dX2_stack_23 (by decide) ⟨by omega, by omega⟩ ⟨by omega, by omega⟩ (fun c_23 => ?_) (fun c_23 => ?_)
      ·
        exact hret [0, 1, 2, 3, 4, 5, 6, 7, 8, 17, 18, 9, 10, 11, 12, 13, 14, 15, 16] (SA, A0, A1, A2, A3, HT, LD) dX2_stack_131 hP hD hS (by decide) rfl (by rw [show cm = i by omega]; exact hp)
      ·
        refine lv_aload_n hx hb dX2_stack_26 rfl (lv_at hl 0 rfl) ?_
        refine va_get (D := D) (C := RX2) (T := TX2) (N := 7) (ci := 2) (v := .ref (ps 1)) hx hb hts iw_X2_stack_2 hown hK hP 0 rfl rfl 0 (by decide) (hts _ fl_X2_stack_9) (fun _ h9 => h9) rfl dX2_stack_27 ?_
        refine lv_iload_n hx hb dX2_stack_30 rfl (lv_at hl 3 rfl) ?_
        refine r_ald hx hb hK hP 1 rfl rfl ⟨by omega, by omega, by omega⟩ dX2_stack_31 ?_
        refine lv_istore (lv' := [(4, .int (iI (or i))), (0, .ref (ps 0)), (1, .ref (d 0)), (2, .int (iI jj)), (3, .int (iI i))]) hx hb dX2_stack_32 hl (by decide) rfl (fun ls hl => ?_)
        have ho1 := hor i h1.1 (by omega)
        refine lv_aload_n hx hb dX2_stack_34 rfl (lv_at hl 1 rfl) ?_
        refine va_get (D := D) (C := RX2) (T := TX2) (N := 7) (ci := 2) (v := .ref (ps 3)) hx hb hts iw_X2_stack_2 hown hK hP 0 rfl rfl 3 (by decide) (hts _ fl_X2_stack_18) (fun _ h9 => h9) rfl dX2_stack_35 ?_
        refine lv_aload_n hx hb dX2_stack_38 rfl (lv_at hl 2 rfl) ?_
        refine va_getN (D := D) (C := RX1) (T := TX1) (N := 10) (ci := 1) (v := .ref (d 1)) hx hb hts iw_X2_stack_1 hown hK hP 9 rfl rfl 1 (by decide) (nfX2_77 hN) (fun _ h9 => h9) rfl dX2_stack_39 ?_
        refine lv_iload hx hb dX2_stack_42 (lv_at hl 0 rfl) ?_
        refine r_ald hx hb hK hP 10 rfl rfl ⟨by omega, by omega, by omega⟩ dX2_stack_44 ?_
        have b_44 := hpt (or i)
        have hs0 := hso (pt (or i)) (by omega) (by omega)
        obtain ⟨s5, hs5⟩ : ∃ z, z = so (pt (or i)) := ⟨_, rfl⟩
        rw [← hs5] at hs0
        have hL5 := hLb s5
        have hH5 := hHb s5
        have hHl5 := hHl s5
        refine r_ald hx hb hK hP 3 rfl rfl ⟨by omega, by omega, by omega⟩ dX2_stack_45 ?_
        refine r_top (s5) (hs5.symm) ?_
        refine lv_istore (lv' := [(5, .int (iI s5)), (4, .int (iI (or i))), (0, .ref (ps 0)), (1, .ref (d 0)), (2, .int (iI jj)), (3, .int (iI i))]) hx hb dX2_stack_46 hl (by decide) rfl (fun ls hl => ?_)
        refine lv_aload_n hx hb dX2_stack_48 rfl (lv_at hl 2 rfl) ?_
        refine va_get (D := D) (C := RX2) (T := TX2) (N := 7) (ci := 2) (v := .ref (ps 10)) hx hb hts iw_X2_stack_2 hown hK hP 0 rfl rfl 6 (by decide) (hts _ fl_X2_stack_29) (fun _ h9 => h9) rfl dX2_stack_49 ?_
        refine lv_iload hx hb dX2_stack_52 (lv_at hl 0 rfl) ?_
        refine r_ald hx hb hK hP 18 rfl rfl ⟨by omega, by omega, by omega⟩ dX2_stack_54 ?_
        refine lv_aload_n hx hb dX2_stack_55 rfl (lv_at hl 3 rfl) ?_
        refine va_getN (D := D) (C := RX1) (T := TX1) (N := 10) (ci := 1) (v := .ref (d 2)) hx hb hts iw_X2_stack_1 hown hK hP 9 rfl rfl 2 (by decide) (nfX2_80 hN) (fun _ h9 => h9) rfl dX2_stack_56 ?_
        refine lv_iload hx hb dX2_stack_59 (lv_at hl 1 rfl) ?_
        refine r_ald hx hb hK hP 11 rfl rfl ⟨by omega, by omega, by omega⟩ dX2_stack_61 ?_
        have b_61 := htk (or i)
        refine r_add hx hb dX2_stack_62 ?_
        refine lv_istore (lv' := [(6, .int (iI ((LD s5) + (tk (or i))))), (5, .int (iI s5)), (4, .int (iI (or i))), (0, .ref (ps 0)), (1, .ref (d 0)), (2, .int (iI jj)), (3, .int (iI i))]) hx hb dX2_stack_63 hl (by decide) rfl (fun ls hl => ?_)
        refine lv_iload hx hb dX2_stack_65 (lv_at hl 0 rfl) ?_
        refine lv_aload_n hx hb dX2_stack_67 rfl (lv_at hl 4 rfl) ?_
        refine va_getN (D := D) (C := RX1) (T := TX1) (N := 10) (ci := 1) (v := .ref (d 6)) hx hb hts iw_X2_stack_1 hown hK hP 9 rfl rfl 7 (by decide) (nfX2_83 hN) (fun _ h9 => h9) rfl dX2_stack_68 ?_
        refine lv_iload hx hb dX2_stack_71 (lv_at hl 1 rfl) ?_
        refine r_ald hx hb hK hP 15 rfl rfl ⟨by omega, by omega, by omega⟩ dX2_stack_73 ?_
        have b_73 := hrm s5
        refine r_le hx hb 88 dX2_stack_74 (by decide) ⟨by omega, by omega⟩ ⟨by omega, by omega⟩ (fun c_74 => ?_) (fun c_74 => ?_)
        ·
          refine lv_aload_n hx hb dX2_stack_88 rfl (lv_at hl 3 rfl) ?_
          refine va_get (D := D) (C := RX2) (T := TX2) (N := 7) (ci := 2) (v := .ref (ps 10)) hx hb hts iw_X2_stack_2 hown hK hP 0 rfl rfl 6 (by decide) (hts _ fl_X2_stack_29) (fun _ h9 => h9) rfl dX2_stack_89 ?_
          refine lv_iload hx hb dX2_stack_92 (lv_at hl 1 rfl) ?_
          refine lv_iload hx hb dX2_stack_94 (lv_at hl 0 rfl) ?_
          refine r_ast hx hb hK hP hD hS 18 rfl rfl ⟨by omega, by omega, by omega⟩ dX2_stack_96 (fun H locs hP hD hS => ?_)
          replace hP : va_P D vwCl [oP ps cm, ai (cy 0) (ps 1) 24 or, ai (cy 0) (ps 2) 24 SA, ai (cy 0) (ps 3) 10 so, aq (cy 3) (ps 4) 4 (fun ix => ps (5 + ix)), ai (cy 0) (ps 5) 24 A0, ai (cy 0) (ps 6) 24 A1, ai (cy 0) (ps 7) 24 A2, ai (cy 0) (ps 8) 24 A3, oD d lt mn vs, ai (cy 0) (d 1) 24 pt, ai (cy 0) (d 2) 24 tk, ai (cy 0) (d 3) 24 mr, ai (cy 0) (d 4) 10 od, ai (cy 0) (d 5) 10 pl, ai (cy 0) (d 6) 4 rm, ai (cy 0) (d 7) 10 cd, ai (cy 0) (ps 9) 4 HT, ai (cy 0) (ps 10) 4 (ud LD s5 ((LD s5) + (tk (or i))))] H := hP
          replace hD : va_D A [oP ps cm, ai (cy 0) (ps 1) 24 or, ai (cy 0) (ps 2) 24 SA, ai (cy 0) (ps 3) 10 so, aq (cy 3) (ps 4) 4 (fun ix => ps (5 + ix)), ai (cy 0) (ps 5) 24 A0, ai (cy 0) (ps 6) 24 A1, ai (cy 0) (ps 7) 24 A2, ai (cy 0) (ps 8) 24 A3, oD d lt mn vs, ai (cy 0) (d 1) 24 pt, ai (cy 0) (d 2) 24 tk, ai (cy 0) (d 3) 24 mr, ai (cy 0) (d 4) 10 od, ai (cy 0) (d 5) 10 pl, ai (cy 0) (d 6) 4 rm, ai (cy 0) (d 7) 10 cd, ai (cy 0) (ps 9) 4 HT, ai (cy 0) (ps 10) 4 (ud LD s5 ((LD s5) + (tk (or i))))] := hD
          refine lv_aload_n hx hb dX2_stack_97 rfl (lv_at hl 3 rfl) ?_
          refine va_get (D := D) (C := RX2) (T := TX2) (N := 7) (ci := 2) (v := .ref (ps 4)) hx hb hts iw_X2_stack_2 hown hK hP 0 rfl rfl 4 (by decide) (hts _ fl_X2_stack_23) (fun _ h9 => h9) rfl dX2_stack_98 ?_
          refine lv_iload hx hb dX2_stack_101 (lv_at hl 1 rfl) ?_
          rcases (show s5 = 0 ∨ s5 = 1 ∨ s5 = 2 ∨ s5 = 3 by omega) with rfl | rfl | rfl | rfl
          ·
            refine r_ald2 hx hb hK hP 4 rfl rfl ⟨by omega, by omega, by omega⟩ dX2_stack_103 ?_
            refine lv_aload_n hx hb dX2_stack_104 rfl (lv_at hl 3 rfl) ?_
            refine va_get (D := D) (C := RX2) (T := TX2) (N := 7) (ci := 2) (v := .ref (ps 9)) hx hb hts iw_X2_stack_2 hown hK hP 0 rfl rfl 5 (by decide) (hts _ fl_X2_stack_26) (fun _ h9 => h9) rfl dX2_stack_105 ?_
            refine lv_iload hx hb dX2_stack_108 (lv_at hl 1 rfl) ?_
            refine r_ald hx hb hK hP 17 rfl rfl ⟨by omega, by omega, by omega⟩ dX2_stack_110 ?_
            refine lv_iload hx hb dX2_stack_111 (lv_at hl 2 rfl) ?_
            refine r_ast hx hb hK hP hD hS 5 rfl rfl ⟨by omega, by omega, by omega⟩ dX2_stack_113 (fun H locs hP hD hS => ?_)
            replace hP : va_P D vwCl [oP ps cm, ai (cy 0) (ps 1) 24 or, ai (cy 0) (ps 2) 24 SA, ai (cy 0) (ps 3) 10 so, aq (cy 3) (ps 4) 4 (fun ix => ps (5 + ix)), ai (cy 0) (ps 5) 24 (ud A0 (HT 0) (or i)), ai (cy 0) (ps 6) 24 A1, ai (cy 0) (ps 7) 24 A2, ai (cy 0) (ps 8) 24 A3, oD d lt mn vs, ai (cy 0) (d 1) 24 pt, ai (cy 0) (d 2) 24 tk, ai (cy 0) (d 3) 24 mr, ai (cy 0) (d 4) 10 od, ai (cy 0) (d 5) 10 pl, ai (cy 0) (d 6) 4 rm, ai (cy 0) (d 7) 10 cd, ai (cy 0) (ps 9) 4 HT, ai (cy 0) (ps 10) 4 (ud LD 0 ((LD 0) + (tk (or i))))] H := hP
            replace hD : va_D A [oP ps cm, ai (cy 0) (ps 1) 24 or, ai (cy 0) (ps 2) 24 SA, ai (cy 0) (ps 3) 10 so, aq (cy 3) (ps 4) 4 (fun ix => ps (5 + ix)), ai (cy 0) (ps 5) 24 (ud A0 (HT 0) (or i)), ai (cy 0) (ps 6) 24 A1, ai (cy 0) (ps 7) 24 A2, ai (cy 0) (ps 8) 24 A3, oD d lt mn vs, ai (cy 0) (d 1) 24 pt, ai (cy 0) (d 2) 24 tk, ai (cy 0) (d 3) 24 mr, ai (cy 0) (d 4) 10 od, ai (cy 0) (d 5) 10 pl, ai (cy 0) (d 6) 4 rm, ai (cy 0) (d 7) 10 cd, ai (cy 0) (ps 9) 4 HT, ai (cy 0) (ps 10) 4 (ud LD 0 ((LD 0) + (tk (or i))))] := hD
            refine lv_aload_n hx hb dX2_stack_114 rfl (lv_at hl 3 rfl) ?_
            refine va_get (D := D) (C := RX2) (T := TX2) (N := 7) (ci := 2) (v := .ref (ps 9)) hx hb hts iw_X2_stack_2 hown hK hP 0 rfl rfl 5 (by decide) (hts _ fl_X2_stack_26) (fun _ h9 => h9) rfl dX2_stack_115 ?_
            refine lv_iload hx hb dX2_stack_118 (lv_at hl 1 rfl) ?_
            refine lv_dup2_11 hx hb dX2_stack_120 rfl rfl ?_
            refine r_ald hx hb hK hP 17 rfl rfl ⟨by omega, by omega, by omega⟩ dX2_stack_121 ?_
            refine r_const hx hb dX2_stack_122 ?_
            refine r_add hx hb dX2_stack_123 ?_
            refine r_ast hx hb hK hP hD hS 17 rfl rfl ⟨by omega, by omega, by omega⟩ dX2_stack_124 (fun H locs hP hD hS => ?_)
            replace hP : va_P D vwCl [oP ps cm, ai (cy 0) (ps 1) 24 or, ai (cy 0) (ps 2) 24 SA, ai (cy 0) (ps 3) 10 so, aq (cy 3) (ps 4) 4 (fun ix => ps (5 + ix)), ai (cy 0) (ps 5) 24 (ud A0 (HT 0) (or i)), ai (cy 0) (ps 6) 24 A1, ai (cy 0) (ps 7) 24 A2, ai (cy 0) (ps 8) 24 A3, oD d lt mn vs, ai (cy 0) (d 1) 24 pt, ai (cy 0) (d 2) 24 tk, ai (cy 0) (d 3) 24 mr, ai (cy 0) (d 4) 10 od, ai (cy 0) (d 5) 10 pl, ai (cy 0) (d 6) 4 rm, ai (cy 0) (d 7) 10 cd, ai (cy 0) (ps 9) 4 (ud HT 0 ((HT 0) + 1)), ai (cy 0) (ps 10) 4 (ud LD 0 ((LD 0) + (tk (or i))))] H := hP
            replace hD : va_D A [oP ps cm, ai (cy 0) (ps 1) 24 or, ai (cy 0) (ps 2) 24 SA, ai (cy 0) (ps 3) 10 so, aq (cy 3) (ps 4) 4 (fun ix => ps (5 + ix)), ai (cy 0) (ps 5) 24 (ud A0 (HT 0) (or i)), ai (cy 0) (ps 6) 24 A1, ai (cy 0) (ps 7) 24 A2, ai (cy 0) (ps 8) 24 A3, oD d lt mn vs, ai (cy 0) (d 1) 24 pt, ai (cy 0) (d 2) 24 tk, ai (cy 0) (d 3) 24 mr, ai (cy 0) (d 4) 10 od, ai (cy 0) (d 5) 10 pl, ai (cy 0) (d 6) 4 rm, ai (cy 0) (d 7) 10 cd, ai (cy 0) (ps 9) 4 (ud HT 0 ((HT 0) + 1)), ai (cy 0) (ps 10) 4 (ud LD 0 ((LD 0) + (tk (or i))))] := hD
            refine r_inc (k := 6) (lv' := [(3, .int (iI (i + 1))), (6, .int (iI ((LD 0) + (tk (or i))))), (5, .int (iI 0)), (4, .int (iI (or i))), (0, .ref (ps 0)), (1, .ref (d 0)), (2, .int (iI jj))]) hx hb dX2_stack_125 hl rfl (by decide) rfl (fun ls hl => ?_)
            refine lv_goto (tgt := 18) hx hb dX2_stack_128 (by decide) ?_
            exact ih_18 (i + 1) SA (ud A0 (HT 0) (or i)) A1 A2 A3 (ud HT 0 ((HT 0) + 1)) (ud LD 0 ((LD 0) + (tk (or i)))) (by omega) (by first | exact StkP_no h1.1 hp (by rw [← hs5]; omega) | exact StkP_yes h1.1 hp hs5 (by omega) (fun s q1 q2 => gs_0 _ _ _ _ _ s) | exact StkP_yes h1.1 hp hs5 (by omega) (fun s q1 q2 => gs_1 _ _ _ _ _ s) | exact StkP_yes h1.1 hp hs5 (by omega) (fun s q1 q2 => gs_2 _ _ _ _ _ s) | exact StkP_yes h1.1 hp hs5 (by omega) (fun s q1 q2 => gs_3 _ _ _ _ _ s q1 q2)) (by omega) H locs (pick_P hP (is := [0, 1, 2, 3, 4, 5, 6, 7, 8, 9, 10, 11, 12, 13, 14, 15, 16, 17, 18]) rfl) (hD.sub [0, 1, 2, 3, 4, 5, 6, 7, 8, 9, 10, 11, 12, 13, 14, 15, 16, 17, 18] (by decide) rfl) hS ls (lv_sub hl [4, 5, 6, 0] rfl)
          ·
            refine r_ald2 hx hb hK hP 4 rfl rfl ⟨by omega, by omega, by omega⟩ dX2_stack_103 ?_
            refine lv_aload_n hx hb dX2_stack_104 rfl (lv_at hl 3 rfl) ?_
            refine va_get (D := D) (C := RX2) (T := TX2) (N := 7) (ci := 2) (v := .ref (ps 9)) hx hb hts iw_X2_stack_2 hown hK hP 0 rfl rfl 5 (by decide) (hts _ fl_X2_stack_26) (fun _ h9 => h9) rfl dX2_stack_105 ?_
            refine lv_iload hx hb dX2_stack_108 (lv_at hl 1 rfl) ?_
            refine r_ald hx hb hK hP 17 rfl rfl ⟨by omega, by omega, by omega⟩ dX2_stack_110 ?_
            refine lv_iload hx hb dX2_stack_111 (lv_at hl 2 rfl) ?_
            refine r_ast hx hb hK hP hD hS 6 rfl rfl ⟨by omega, by omega, by omega⟩ dX2_stack_113 (fun H locs hP hD hS => ?_)
            replace hP : va_P D vwCl [oP ps cm, ai (cy 0) (ps 1) 24 or, ai (cy 0) (ps 2) 24 SA, ai (cy 0) (ps 3) 10 so, aq (cy 3) (ps 4) 4 (fun ix => ps (5 + ix)), ai (cy 0) (ps 5) 24 A0, ai (cy 0) (ps 6) 24 (ud A1 (HT 1) (or i)), ai (cy 0) (ps 7) 24 A2, ai (cy 0) (ps 8) 24 A3, oD d lt mn vs, ai (cy 0) (d 1) 24 pt, ai (cy 0) (d 2) 24 tk, ai (cy 0) (d 3) 24 mr, ai (cy 0) (d 4) 10 od, ai (cy 0) (d 5) 10 pl, ai (cy 0) (d 6) 4 rm, ai (cy 0) (d 7) 10 cd, ai (cy 0) (ps 9) 4 HT, ai (cy 0) (ps 10) 4 (ud LD 1 ((LD 1) + (tk (or i))))] H := hP
            replace hD : va_D A [oP ps cm, ai (cy 0) (ps 1) 24 or, ai (cy 0) (ps 2) 24 SA, ai (cy 0) (ps 3) 10 so, aq (cy 3) (ps 4) 4 (fun ix => ps (5 + ix)), ai (cy 0) (ps 5) 24 A0, ai (cy 0) (ps 6) 24 (ud A1 (HT 1) (or i)), ai (cy 0) (ps 7) 24 A2, ai (cy 0) (ps 8) 24 A3, oD d lt mn vs, ai (cy 0) (d 1) 24 pt, ai (cy 0) (d 2) 24 tk, ai (cy 0) (d 3) 24 mr, ai (cy 0) (d 4) 10 od, ai (cy 0) (d 5) 10 pl, ai (cy 0) (d 6) 4 rm, ai (cy 0) (d 7) 10 cd, ai (cy 0) (ps 9) 4 HT, ai (cy 0) (ps 10) 4 (ud LD 1 ((LD 1) + (tk (or i))))] := hD
            refine lv_aload_n hx hb dX2_stack_114 rfl (lv_at hl 3 rfl) ?_
            refine va_get (D := D) (C := RX2) (T := TX2) (N := 7) (ci := 2) (v := .ref (ps 9)) hx hb hts iw_X2_stack_2 hown hK hP 0 rfl rfl 5 (by decide) (hts _ fl_X2_stack_26) (fun _ h9 => h9) rfl dX2_stack_115 ?_
            refine lv_iload hx hb dX2_stack_118 (lv_at hl 1 rfl) ?_
            refine lv_dup2_11 hx hb dX2_stack_120 rfl rfl ?_
            refine r_ald hx hb hK hP 17 rfl rfl ⟨by omega, by omega, by omega⟩ dX2_stack_121 ?_
            refine r_const hx hb dX2_stack_122 ?_
            refine r_add hx hb dX2_stack_123 ?_
            refine r_ast hx hb hK hP hD hS 17 rfl rfl ⟨by omega, by omega, by omega⟩ dX2_stack_124 (fun H locs hP hD hS => ?_)
            replace hP : va_P D vwCl [oP ps cm, ai (cy 0) (ps 1) 24 or, ai (cy 0) (ps 2) 24 SA, ai (cy 0) (ps 3) 10 so, aq (cy 3) (ps 4) 4 (fun ix => ps (5 + ix)), ai (cy 0) (ps 5) 24 A0, ai (cy 0) (ps 6) 24 (ud A1 (HT 1) (or i)), ai (cy 0) (ps 7) 24 A2, ai (cy 0) (ps 8) 24 A3, oD d lt mn vs, ai (cy 0) (d 1) 24 pt, ai (cy 0) (d 2) 24 tk, ai (cy 0) (d 3) 24 mr, ai (cy 0) (d 4) 10 od, ai (cy 0) (d 5) 10 pl, ai (cy 0) (d 6) 4 rm, ai (cy 0) (d 7) 10 cd, ai (cy 0) (ps 9) 4 (ud HT 1 ((HT 1) + 1)), ai (cy 0) (ps 10) 4 (ud LD 1 ((LD 1) + (tk (or i))))] H := hP
            replace hD : va_D A [oP ps cm, ai (cy 0) (ps 1) 24 or, ai (cy 0) (ps 2) 24 SA, ai (cy 0) (ps 3) 10 so, aq (cy 3) (ps 4) 4 (fun ix => ps (5 + ix)), ai (cy 0) (ps 5) 24 A0, ai (cy 0) (ps 6) 24 (ud A1 (HT 1) (or i)), ai (cy 0) (ps 7) 24 A2, ai (cy 0) (ps 8) 24 A3, oD d lt mn vs, ai (cy 0) (d 1) 24 pt, ai (cy 0) (d 2) 24 tk, ai (cy 0) (d 3) 24 mr, ai (cy 0) (d 4) 10 od, ai (cy 0) (d 5) 10 pl, ai (cy 0) (d 6) 4 rm, ai (cy 0) (d 7) 10 cd, ai (cy 0) (ps 9) 4 (ud HT 1 ((HT 1) + 1)), ai (cy 0) (ps 10) 4 (ud LD 1 ((LD 1) + (tk (or i))))] := hD
            refine r_inc (k := 6) (lv' := [(3, .int (iI (i + 1))), (6, .int (iI ((LD 1) + (tk (or i))))), (5, .int (iI 1)), (4, .int (iI (or i))), (0, .ref (ps 0)), (1, .ref (d 0)), (2, .int (iI jj))]) hx hb dX2_stack_125 hl rfl (by decide) rfl (fun ls hl => ?_)
            refine lv_goto (tgt := 18) hx hb dX2_stack_128 (by decide) ?_
            exact ih_18 (i + 1) SA A0 (ud A1 (HT 1) (or i)) A2 A3 (ud HT 1 ((HT 1) + 1)) (ud LD 1 ((LD 1) + (tk (or i)))) (by omega) (by first | exact StkP_no h1.1 hp (by rw [← hs5]; omega) | exact StkP_yes h1.1 hp hs5 (by omega) (fun s q1 q2 => gs_0 _ _ _ _ _ s) | exact StkP_yes h1.1 hp hs5 (by omega) (fun s q1 q2 => gs_1 _ _ _ _ _ s) | exact StkP_yes h1.1 hp hs5 (by omega) (fun s q1 q2 => gs_2 _ _ _ _ _ s) | exact StkP_yes h1.1 hp hs5 (by omega) (fun s q1 q2 => gs_3 _ _ _ _ _ s q1 q2)) (by omega) H locs (pick_P hP (is := [0, 1, 2, 3, 4, 5, 6, 7, 8, 9, 10, 11, 12, 13, 14, 15, 16, 17, 18]) rfl) (hD.sub [0, 1, 2, 3, 4, 5, 6, 7, 8, 9, 10, 11, 12, 13, 14, 15, 16, 17, 18] (by decide) rfl) hS ls (lv_sub hl [4, 5, 6, 0] rfl)
          ·
            refine r_ald2 hx hb hK hP 4 rfl rfl ⟨by omega, by omega, by omega⟩ dX2_stack_103 ?_
            refine lv_aload_n hx hb dX2_stack_104 rfl (lv_at hl 3 rfl) ?_
            refine va_get (D := D) (C := RX2) (T := TX2) (N := 7) (ci := 2) (v := .ref (ps 9)) hx hb hts iw_X2_stack_2 hown hK hP 0 rfl rfl 5 (by decide) (hts _ fl_X2_stack_26) (fun _ h9 => h9) rfl dX2_stack_105 ?_
            refine lv_iload hx hb dX2_stack_108 (lv_at hl 1 rfl) ?_
            refine r_ald hx hb hK hP 17 rfl rfl ⟨by omega, by omega, by omega⟩ dX2_stack_110 ?_
            refine lv_iload hx hb dX2_stack_111 (lv_at hl 2 rfl) ?_
            refine r_ast hx hb hK hP hD hS 7 rfl rfl ⟨by omega, by omega, by omega⟩ dX2_stack_113 (fun H locs hP hD hS => ?_)
            replace hP : va_P D vwCl [oP ps cm, ai (cy 0) (ps 1) 24 or, ai (cy 0) (ps 2) 24 SA, ai (cy 0) (ps 3) 10 so, aq (cy 3) (ps 4) 4 (fun ix => ps (5 + ix)), ai (cy 0) (ps 5) 24 A0, ai (cy 0) (ps 6) 24 A1, ai (cy 0) (ps 7) 24 (ud A2 (HT 2) (or i)), ai (cy 0) (ps 8) 24 A3, oD d lt mn vs, ai (cy 0) (d 1) 24 pt, ai (cy 0) (d 2) 24 tk, ai (cy 0) (d 3) 24 mr, ai (cy 0) (d 4) 10 od, ai (cy 0) (d 5) 10 pl, ai (cy 0) (d 6) 4 rm, ai (cy 0) (d 7) 10 cd, ai (cy 0) (ps 9) 4 HT, ai (cy 0) (ps 10) 4 (ud LD 2 ((LD 2) + (tk (or i))))] H := hP
            replace hD : va_D A [oP ps cm, ai (cy 0) (ps 1) 24 or, ai (cy 0) (ps 2) 24 SA, ai (cy 0) (ps 3) 10 so, aq (cy 3) (ps 4) 4 (fun ix => ps (5 + ix)), ai (cy 0) (ps 5) 24 A0, ai (cy 0) (ps 6) 24 A1, ai (cy 0) (ps 7) 24 (ud A2 (HT 2) (or i)), ai (cy 0) (ps 8) 24 A3, oD d lt mn vs, ai (cy 0) (d 1) 24 pt, ai (cy 0) (d 2) 24 tk, ai (cy 0) (d 3) 24 mr, ai (cy 0) (d 4) 10 od, ai (cy 0) (d 5) 10 pl, ai (cy 0) (d 6) 4 rm, ai (cy 0) (d 7) 10 cd, ai (cy 0) (ps 9) 4 HT, ai (cy 0) (ps 10) 4 (ud LD 2 ((LD 2) + (tk (or i))))] := hD
            refine lv_aload_n hx hb dX2_stack_114 rfl (lv_at hl 3 rfl) ?_
            refine va_get (D := D) (C := RX2) (T := TX2) (N := 7) (ci := 2) (v := .ref (ps 9)) hx hb hts iw_X2_stack_2 hown hK hP 0 rfl rfl 5 (by decide) (hts _ fl_X2_stack_26) (fun _ h9 => h9) rfl dX2_stack_115 ?_
            refine lv_iload hx hb dX2_stack_118 (lv_at hl 1 rfl) ?_
            refine lv_dup2_11 hx hb dX2_stack_120 rfl rfl ?_
            refine r_ald hx hb hK hP 17 rfl rfl ⟨by omega, by omega, by omega⟩ dX2_stack_121 ?_
            refine r_const hx hb dX2_stack_122 ?_
            refine r_add hx hb dX2_stack_123 ?_
            refine r_ast hx hb hK hP hD hS 17 rfl rfl ⟨by omega, by omega, by omega⟩ dX2_stack_124 (fun H locs hP hD hS => ?_)
            replace hP : va_P D vwCl [oP ps cm, ai (cy 0) (ps 1) 24 or, ai (cy 0) (ps 2) 24 SA, ai (cy 0) (ps 3) 10 so, aq (cy 3) (ps 4) 4 (fun ix => ps (5 + ix)), ai (cy 0) (ps 5) 24 A0, ai (cy 0) (ps 6) 24 A1, ai (cy 0) (ps 7) 24 (ud A2 (HT 2) (or i)), ai (cy 0) (ps 8) 24 A3, oD d lt mn vs, ai (cy 0) (d 1) 24 pt, ai (cy 0) (d 2) 24 tk, ai (cy 0) (d 3) 24 mr, ai (cy 0) (d 4) 10 od, ai (cy 0) (d 5) 10 pl, ai (cy 0) (d 6) 4 rm, ai (cy 0) (d 7) 10 cd, ai (cy 0) (ps 9) 4 (ud HT 2 ((HT 2) + 1)), ai (cy 0) (ps 10) 4 (ud LD 2 ((LD 2) + (tk (or i))))] H := hP
            replace hD : va_D A [oP ps cm, ai (cy 0) (ps 1) 24 or, ai (cy 0) (ps 2) 24 SA, ai (cy 0) (ps 3) 10 so, aq (cy 3) (ps 4) 4 (fun ix => ps (5 + ix)), ai (cy 0) (ps 5) 24 A0, ai (cy 0) (ps 6) 24 A1, ai (cy 0) (ps 7) 24 (ud A2 (HT 2) (or i)), ai (cy 0) (ps 8) 24 A3, oD d lt mn vs, ai (cy 0) (d 1) 24 pt, ai (cy 0) (d 2) 24 tk, ai (cy 0) (d 3) 24 mr, ai (cy 0) (d 4) 10 od, ai (cy 0) (d 5) 10 pl, ai (cy 0) (d 6) 4 rm, ai (cy 0) (d 7) 10 cd, ai (cy 0) (ps 9) 4 (ud HT 2 ((HT 2) + 1)), ai (cy 0) (ps 10) 4 (ud LD 2 ((LD 2) + (tk (or i))))] := hD
            refine r_inc (k := 6) (lv' := [(3, .int (iI (i + 1))), (6, .int (iI ((LD 2) + (tk (or i))))), (5, .int (iI 2)), (4, .int (iI (or i))), (0, .ref (ps 0)), (1, .ref (d 0)), (2, .int (iI jj))]) hx hb dX2_stack_125 hl rfl (by decide) rfl (fun ls hl => ?_)
            refine lv_goto (tgt := 18) hx hb dX2_stack_128 (by decide) ?_
            exact ih_18 (i + 1) SA A0 A1 (ud A2 (HT 2) (or i)) A3 (ud HT 2 ((HT 2) + 1)) (ud LD 2 ((LD 2) + (tk (or i)))) (by omega) (by first | exact StkP_no h1.1 hp (by rw [← hs5]; omega) | exact StkP_yes h1.1 hp hs5 (by omega) (fun s q1 q2 => gs_0 _ _ _ _ _ s) | exact StkP_yes h1.1 hp hs5 (by omega) (fun s q1 q2 => gs_1 _ _ _ _ _ s) | exact StkP_yes h1.1 hp hs5 (by omega) (fun s q1 q2 => gs_2 _ _ _ _ _ s) | exact StkP_yes h1.1 hp hs5 (by omega) (fun s q1 q2 => gs_3 _ _ _ _ _ s q1 q2)) (by omega) H locs (pick_P hP (is := [0, 1, 2, 3, 4, 5, 6, 7, 8, 9, 10, 11, 12, 13, 14, 15, 16, 17, 18]) rfl) (hD.sub [0, 1, 2, 3, 4, 5, 6, 7, 8, 9, 10, 11, 12, 13, 14, 15, 16, 17, 18] (by decide) rfl) hS ls (lv_sub hl [4, 5, 6, 0] rfl)
          ·
            refine r_ald2 hx hb hK hP 4 rfl rfl ⟨by omega, by omega, by omega⟩ dX2_stack_103 ?_
            refine lv_aload_n hx hb dX2_stack_104 rfl (lv_at hl 3 rfl) ?_
            refine va_get (D := D) (C := RX2) (T := TX2) (N := 7) (ci := 2) (v := .ref (ps 9)) hx hb hts iw_X2_stack_2 hown hK hP 0 rfl rfl 5 (by decide) (hts _ fl_X2_stack_26) (fun _ h9 => h9) rfl dX2_stack_105 ?_
            refine lv_iload hx hb dX2_stack_108 (lv_at hl 1 rfl) ?_
            refine r_ald hx hb hK hP 17 rfl rfl ⟨by omega, by omega, by omega⟩ dX2_stack_110 ?_
            refine lv_iload hx hb dX2_stack_111 (lv_at hl 2 rfl) ?_
            refine r_ast hx hb hK hP hD hS 8 rfl rfl ⟨by omega, by omega, by omega⟩ dX2_stack_113 (fun H locs hP hD hS => ?_)
            replace hP : va_P D vwCl [oP ps cm, ai (cy 0) (ps 1) 24 or, ai (cy 0) (ps 2) 24 SA, ai (cy 0) (ps 3) 10 so, aq (cy 3) (ps 4) 4 (fun ix => ps (5 + ix)), ai (cy 0) (ps 5) 24 A0, ai (cy 0) (ps 6) 24 A1, ai (cy 0) (ps 7) 24 A2, ai (cy 0) (ps 8) 24 (ud A3 (HT 3) (or i)), oD d lt mn vs, ai (cy 0) (d 1) 24 pt, ai (cy 0) (d 2) 24 tk, ai (cy 0) (d 3) 24 mr, ai (cy 0) (d 4) 10 od, ai (cy 0) (d 5) 10 pl, ai (cy 0) (d 6) 4 rm, ai (cy 0) (d 7) 10 cd, ai (cy 0) (ps 9) 4 HT, ai (cy 0) (ps 10) 4 (ud LD 3 ((LD 3) + (tk (or i))))] H := hP
            replace hD : va_D A [oP ps cm, ai (cy 0) (ps 1) 24 or, ai (cy 0) (ps 2) 24 SA, ai (cy 0) (ps 3) 10 so, aq (cy 3) (ps 4) 4 (fun ix => ps (5 + ix)), ai (cy 0) (ps 5) 24 A0, ai (cy 0) (ps 6) 24 A1, ai (cy 0) (ps 7) 24 A2, ai (cy 0) (ps 8) 24 (ud A3 (HT 3) (or i)), oD d lt mn vs, ai (cy 0) (d 1) 24 pt, ai (cy 0) (d 2) 24 tk, ai (cy 0) (d 3) 24 mr, ai (cy 0) (d 4) 10 od, ai (cy 0) (d 5) 10 pl, ai (cy 0) (d 6) 4 rm, ai (cy 0) (d 7) 10 cd, ai (cy 0) (ps 9) 4 HT, ai (cy 0) (ps 10) 4 (ud LD 3 ((LD 3) + (tk (or i))))] := hD
            refine lv_aload_n hx hb dX2_stack_114 rfl (lv_at hl 3 rfl) ?_
            refine va_get (D := D) (C := RX2) (T := TX2) (N := 7) (ci := 2) (v := .ref (ps 9)) hx hb hts iw_X2_stack_2 hown hK hP 0 rfl rfl 5 (by decide) (hts _ fl_X2_stack_26) (fun _ h9 => h9) rfl dX2_stack_115 ?_
            refine lv_iload hx hb dX2_stack_118 (lv_at hl 1 rfl) ?_
            refine lv_dup2_11 hx hb dX2_stack_120 rfl rfl ?_
            refine r_ald hx hb hK hP 17 rfl rfl ⟨by omega, by omega, by omega⟩ dX2_stack_121 ?_
            refine r_const hx hb dX2_stack_122 ?_
            refine r_add hx hb dX2_stack_123 ?_
            refine r_ast hx hb hK hP hD hS 17 rfl rfl ⟨by omega, by omega, by omega⟩ dX2_stack_124 (fun H locs hP hD hS => ?_)
            replace hP : va_P D vwCl [oP ps cm, ai (cy 0) (ps 1) 24 or, ai (cy 0) (ps 2) 24 SA, ai (cy 0) (ps 3) 10 so, aq (cy 3) (ps 4) 4 (fun ix => ps (5 + ix)), ai (cy 0) (ps 5) 24 A0, ai (cy 0) (ps 6) 24 A1, ai (cy 0) (ps 7) 24 A2, ai (cy 0) (ps 8) 24 (ud A3 (HT 3) (or i)), oD d lt mn vs, ai (cy 0) (d 1) 24 pt, ai (cy 0) (d 2) 24 tk, ai (cy 0) (d 3) 24 mr, ai (cy 0) (d 4) 10 od, ai (cy 0) (d 5) 10 pl, ai (cy 0) (d 6) 4 rm, ai (cy 0) (d 7) 10 cd, ai (cy 0) (ps 9) 4 (ud HT 3 ((HT 3) + 1)), ai (cy 0) (ps 10) 4 (ud LD 3 ((LD 3) + (tk (or i))))] H := hP
            replace hD : va_D A [oP ps cm, ai (cy 0) (ps 1) 24 or, ai (cy 0) (ps 2) 24 SA, ai (cy 0) (ps 3) 10 so, aq (cy 3) (ps 4) 4 (fun ix => ps (5 + ix)), ai (cy 0) (ps 5) 24 A0, ai (cy 0) (ps 6) 24 A1, ai (cy 0) (ps 7) 24 A2, ai (cy 0) (ps 8) 24 (ud A3 (HT 3) (or i)), oD d lt mn vs, ai (cy 0) (d 1) 24 pt, ai (cy 0) (d 2) 24 tk, ai (cy 0) (d 3) 24 mr, ai (cy 0) (d 4) 10 od, ai (cy 0) (d 5) 10 pl, ai (cy 0) (d 6) 4 rm, ai (cy 0) (d 7) 10 cd, ai (cy 0) (ps 9) 4 (ud HT 3 ((HT 3) + 1)), ai (cy 0) (ps 10) 4 (ud LD 3 ((LD 3) + (tk (or i))))] := hD
            refine r_inc (k := 6) (lv' := [(3, .int (iI (i + 1))), (6, .int (iI ((LD 3) + (tk (or i))))), (5, .int (iI 3)), (4, .int (iI (or i))), (0, .ref (ps 0)), (1, .ref (d 0)), (2, .int (iI jj))]) hx hb dX2_stack_125 hl rfl (by decide) rfl (fun ls hl => ?_)
            refine lv_goto (tgt := 18) hx hb dX2_stack_128 (by decide) ?_
            exact ih_18 (i + 1) SA A0 A1 A2 (ud A3 (HT 3) (or i)) (ud HT 3 ((HT 3) + 1)) (ud LD 3 ((LD 3) + (tk (or i)))) (by omega) (by first | exact StkP_no h1.1 hp (by rw [← hs5]; omega) | exact StkP_yes h1.1 hp hs5 (by omega) (fun s q1 q2 => gs_0 _ _ _ _ _ s) | exact StkP_yes h1.1 hp hs5 (by omega) (fun s q1 q2 => gs_1 _ _ _ _ _ s) | exact StkP_yes h1.1 hp hs5 (by omega) (fun s q1 q2 => gs_2 _ _ _ _ _ s) | exact StkP_yes h1.1 hp hs5 (by omega) (fun s q1 q2 => gs_3 _ _ _ _ _ s q1 q2)) (by omega) H locs (pick_P hP (is := [0, 1, 2, 3, 4, 5, 6, 7, 8, 9, 10, 11, 12, 13, 14, 15, 16, 17, 18]) rfl) (hD.sub [0, 1, 2, 3, 4, 5, 6, 7, 8, 9, 10, 11, 12, 13, 14, 15, 16, 17, 18] (by decide) rfl) hS ls (lv_sub hl [4, 5, 6, 0] rfl)
        ·
          refine lv_aload_n hx hb dX2_stack_77 rfl (lv_at hl 3 rfl) ?_
          refine va_get (D := D) (C := RX2) (T := TX2) (N := 7) (ci := 2) (v := .ref (ps 2)) hx hb hts iw_X2_stack_2 hown hK hP 0 rfl rfl 2 (by decide) (hts _ fl_X2_stack_15) (fun _ h9 => h9) rfl dX2_stack_78 ?_
          refine lv_iload hx hb dX2_stack_81 (lv_at hl 2 rfl) ?_
          refine lv_iload_n hx hb dX2_stack_83 rfl (lv_at hl 5 rfl) ?_
          refine r_ast hx hb hK hP hD hS 2 rfl rfl ⟨by omega, by omega, by omega⟩ dX2_stack_84 (fun H locs hP hD hS => ?_)
          replace hP : va_P D vwCl [oP ps cm, ai (cy 0) (ps 1) 24 or, ai (cy 0) (ps 2) 24 (ud SA (or i) jj), ai (cy 0) (ps 3) 10 so, aq (cy 3) (ps 4) 4 (fun ix => ps (5 + ix)), ai (cy 0) (ps 5) 24 A0, ai (cy 0) (ps 6) 24 A1, ai (cy 0) (ps 7) 24 A2, ai (cy 0) (ps 8) 24 A3, oD d lt mn vs, ai (cy 0) (d 1) 24 pt, ai (cy 0) (d 2) 24 tk, ai (cy 0) (d 3) 24 mr, ai (cy 0) (d 4) 10 od, ai (cy 0) (d 5) 10 pl, ai (cy 0) (d 6) 4 rm, ai (cy 0) (d 7) 10 cd, ai (cy 0) (ps 9) 4 HT, ai (cy 0) (ps 10) 4 LD] H := hP
          replace hD : va_D A [oP ps cm, ai (cy 0) (ps 1) 24 or, ai (cy 0) (ps 2) 24 (ud SA (or i) jj), ai (cy 0) (ps 3) 10 so, aq (cy 3) (ps 4) 4 (fun ix => ps (5 + ix)), ai (cy 0) (ps 5) 24 A0, ai (cy 0) (ps 6) 24 A1, ai (cy 0) (ps 7) 24 A2, ai (cy 0) (ps 8) 24 A3, oD d lt mn vs, ai (cy 0) (d 1) 24 pt, ai (cy 0) (d 2) 24 tk, ai (cy 0) (d 3) 24 mr, ai (cy 0) (d 4) 10 od, ai (cy 0) (d 5) 10 pl, ai (cy 0) (d 6) 4 rm, ai (cy 0) (d 7) 10 cd, ai (cy 0) (ps 9) 4 HT, ai (cy 0) (ps 10) 4 LD] := hD
          refine lv_goto (tgt := 125) hx hb dX2_stack_85 (by decide) ?_
          refine r_inc (k := 6) (lv' := [(3, .int (iI (i + 1))), (6, .int (iI ((LD s5) + (tk (or i))))), (5, .int (iI s5)), (4, .int (iI (or i))), (0, .ref (ps 0)), (1, .ref (d 0)), (2, .int (iI jj))]) hx hb dX2_stack_125 hl rfl (by decide) rfl (fun ls hl => ?_)
          refine lv_goto (tgt := 18) hx hb dX2_stack_128 (by decide) ?_
          exact ih_18 (i + 1) (ud SA (or i) jj) A0 A1 A2 A3 HT LD (by omega) (by first | exact StkP_no h1.1 hp (by rw [← hs5]; omega) | exact StkP_yes h1.1 hp hs5 (by omega) (fun s q1 q2 => gs_0 _ _ _ _ _ s) | exact StkP_yes h1.1 hp hs5 (by omega) (fun s q1 q2 => gs_1 _ _ _ _ _ s) | exact StkP_yes h1.1 hp hs5 (by omega) (fun s q1 q2 => gs_2 _ _ _ _ _ s) | exact StkP_yes h1.1 hp hs5 (by omega) (fun s q1 q2 => gs_3 _ _ _ _ _ s q1 q2)) (by omega) H locs (pick_P hP (is := [0, 1, 2, 3, 4, 5, 6, 7, 8, 9, 10, 11, 12, 13, 14, 15, 16, 17, 18]) rfl) (hD.sub [0, 1, 2, 3, 4, 5, 6, 7, 8, 9, 10, 11, 12, 13, 14, 15, 16, 17, 18] (by decide) rfl) hS ls (lv_sub hl [4, 5, 6, 0] rfl)
  exact lp_18 _ 0 sa g0 g1 g2 g3 (fun _ => 0) (fun _ => 0) (by omega) (StkP_0 _ _ _ _ _ _ _ _ _) (Nat.lt_succ_self _) H locs (pick_P hP (is := [0, 1, 2, 3, 4, 5, 6, 7, 8, 9, 10, 11, 12, 13, 14, 15, 16, 17, 18]) rfl) (hD.sub [0, 1, 2, 3, 4, 5, 6, 7, 8, 9, 10, 11, 12, 13, 14, 15, 16, 17, 18] (by decide) rfl) hS ls (lv_sub hl [1, 2, 3, 0] rfl)
abbrev rm_X2_sweep : Room := { frames := 1, cells := 0, slots := 0, locals := 40 }
theorem fl_X2_sweep_9 : Cond.fieldLink RX2 9 "WalkPasses$Passes" "order" "[I" ∈ wsX2_sweep := by decide +kernel
theorem fl_X2_sweep_23 : Cond.fieldLink RX2 23 "WalkPasses$Passes" "piles" "[[I" ∈ wsX2_sweep := by decide +kernel
theorem fl_X2_sweep_26 : Cond.fieldLink RX2 26 "WalkPasses$Passes" "heights" "[I" ∈ wsX2_sweep := by decide +kernel
theorem fl_X2_sweep_46 : Cond.fieldLink RX2 46 "WalkPasses$Passes" "coming" "I" ∈ wsX2_sweep := by decide +kernel
theorem iw_X2_sweep_2 : ∀ w ∈ u_ws RX2 TX2 7, w ∈ wsX2_sweep := by decide +kernel
set_option maxHeartbeats 4000000 in
set_option maxRecDepth 100000 in
theorem k_X2_sweep (l : Launch) (D : va_G) (cy : Nat → ClassId) (ps : Nat → Nat) (z : Nat) (cm : Int) (or sa so g0 g1 g2 g3 ht ld : Int → Int) (mn : Int) (LS : Int → List Int) (hG : ∀ s, 0 ≤ s → s < 4 → lst (gsel g0 g1 g2 g3 s) (ht s).toNat = LS s) (hH : ∀ s, 0 ≤ ht s) (hc : ∀ s, 0 ≤ s → s ≤ mn → (catL LS s.toNat).length ≤ 24) (hmn : 2 ≤ mn ∧ mn ≤ 4) : CtV l yX2_sweep wsX2_sweep rm_X2_sweep D (tyL cy) [.ref (ps 0), .int (iI mn)] [oP ps cm, ai (cy 0) (ps 1) 24 or, ai (cy 0) (ps 2) 24 sa, ai (cy 0) (ps 3) 10 so, aq (cy 3) (ps 4) 4 (fun ix => ps (5 + ix)), ai (cy 0) (ps 5) 24 g0, ai (cy 0) (ps 6) 24 g1, ai (cy 0) (ps 7) 24 g2, ai (cy 0) (ps 8) 24 g3, ai (cy 0) (ps 9) 4 ht, ai (cy 0) (ps 10) 4 ld] z (fun (u : Int × (Int → Int)) => 0 ≤ u.1 ∧ lst u.2 u.1.toNat = catL LS mn.toNat) (fun (u : Int × (Int → Int)) => [oP ps u.1, ai (cy 0) (ps 1) 24 u.2, ai (cy 0) (ps 2) 24 sa, ai (cy 0) (ps 3) 10 so, aq (cy 3) (ps 4) 4 (fun ix => ps (5 + ix)), ai (cy 0) (ps 5) 24 g0, ai (cy 0) (ps 6) 24 g1, ai (cy 0) (ps 7) 24 g2, ai (cy 0) (ps 8) 24 g3, ai (cy 0) (ps 9) 4 ht, ai (cy 0) (ps 10) 4 ld]) 0 0 := by
  refine ct_v (cc := cX2_sweep) (maxL := 3) (by decide) rfl (Nat.le_of_ble_eq_true rfl) ?_
  intro p e s m args below meth c A Q H locs ls hx hb hml hown hin hts hK hN hP hD hS hA hl hret
  replace hl : lv_has ls 3 [(0, .ref (ps 0)), (1, .int (iI mn))] := hl
  replace hown : s.vm.findClass RX2 = some m.cls := hown
  refine lv_aload_n hx hb dX2_sweep_0 rfl (lv_at hl 0 rfl) ?_
  refine r_const hx hb dX2_sweep_1 ?_
  refine va_put (D := D) (C := RX2) (T := TX2) (N := 7) (ci := 2) (v := .int (iI 0)) (ty := .int) hx hb hts iw_X2_sweep_2 tyX2 tyX2_ok nmX2 hown hK hP hD hS 0 rfl rfl 1 (by decide) (hts _ fl_X2_sweep_46) (fun _ h9 => h9) rfl (by decide +kernel) rfl rfl (Nat.le_of_ble_eq_true rfl) dX2_sweep_2 (fun H locs hP hD hS => ?_)
  replace hP : va_P D vwCl [oP ps 0, ai (cy 0) (ps 1) 24 or, ai (cy 0) (ps 2) 24 sa, ai (cy 0) (ps 3) 10 so, aq (cy 3) (ps 4) 4 (fun ix => ps (5 + ix)), ai (cy 0) (ps 5) 24 g0, ai (cy 0) (ps 6) 24 g1, ai (cy 0) (ps 7) 24 g2, ai (cy 0) (ps 8) 24 g3, ai (cy 0) (ps 9) 4 ht, ai (cy 0) (ps 10) 4 ld] H := hP
  replace hD : va_D A [oP ps 0, ai (cy 0) (ps 1) 24 or, ai (cy 0) (ps 2) 24 sa, ai (cy 0) (ps 3) 10 so, aq (cy 3) (ps 4) 4 (fun ix => ps (5 + ix)), ai (cy 0) (ps 5) 24 g0, ai (cy 0) (ps 6) 24 g1, ai (cy 0) (ps 7) 24 g2, ai (cy 0) (ps 8) 24 g3, ai (cy 0) (ps 9) 4 ht, ai (cy 0) (ps 10) 4 ld] := hD
  refine r_const hx hb dX2_sweep_5 ?_
  refine lv_istore_n (lv' := [(2, .int (iI 0)), (0, .ref (ps 0)), (1, .int (iI mn))]) hx hb dX2_sweep_6 rfl hl (by decide) rfl (fun ls hl => ?_)
  have lp_7 : ∀ (fu : Nat) (s2 : Int) (cn : Int) (B : Int → Int), (0 ≤ s2 ∧ s2 ≤ mn) → (0 ≤ cn) → (lst B cn.toNat = catL LS s2.toNat) → (mn - s2).toNat < fu → ∀ (H : Heap) (locs : List Loc), va_P D vwCl [oP ps cn, ai (cy 0) (ps 1) 24 B, ai (cy 0) (ps 2) 24 sa, ai (cy 0) (ps 3) 10 so, aq (cy 3) (ps 4) 4 (fun ix => ps (5 + ix)), ai (cy 0) (ps 5) 24 g0, ai (cy 0) (ps 6) 24 g1, ai (cy 0) (ps 7) 24 g2, ai (cy 0) (ps 8) 24 g3, ai (cy 0) (ps 9) 4 ht, ai (cy 0) (ps 10) 4 ld] H → va_D A [oP ps cn, ai (cy 0) (ps 1) 24 B, ai (cy 0) (ps 2) 24 sa, ai (cy 0) (ps 3) 10 so, aq (cy 3) (ps 4) 4 (fun ix => ps (5 + ix)), ai (cy 0) (ps 5) 24 g0, ai (cy 0) (ps 6) 24 g1, ai (cy 0) (ps 7) 24 g2, ai (cy 0) (ps 8) 24 g3, ai (cy 0) (ps 9) 4 ht, ai (cy 0) (ps 10) 4 ld] → va_S A s.heap H locs → ∀ (ls : Array Slot), lv_has ls 3 [(0, .ref (ps 0)), (1, .int (iI mn)), (2, .int (iI s2))] → W p l e rm_X2_sweep s m args below meth c H locs 0 0 Q (F0 m 7 ls []) := by
    intro fu
    induction fu with
    | zero =>
      intro s2 cn B h1 h0 h2 hm
      exact absurd hm (Nat.not_lt_zero _)
    | succ fu ih_7 =>
      intro s2 cn B h1 h0 h2 hm H locs hP hD hS ls hl
      refine lv_iload_n hx hb dX2_sweep_7 rfl (lv_at hl 2 rfl) ?_
      refine lv_iload_n hx hb dX2_sweep_8 rfl (lv_at hl 1 rfl) ?_
      refine r_ge hx hb 57 dX2_sweep_9 (by decide) ⟨by omega, by omega⟩ ⟨by omega, by omega⟩ (fun c_9 => ?_) (fun c_9 => ?_)
      ·
        exact hret [0, 1, 2, 3, 4, 5, 6, 7, 8, 9, 10] (cn, B) dX2_sweep_57 hP hD hS (by decide) rfl (by rw [show mn = s2 by omega]; exact ⟨h0, h2⟩)
      ·
        have hn1 := lst_n h2 h0
        have hn2 := hc (s2 + 1) (by omega) (by omega)
        rw [catL_s h1.1, List.length_append, ← hG s2 h1.1 (by omega), lst_len] at hn2
        have hn3 := hH s2
        refine lv_aload_n hx hb dX2_sweep_12 rfl (lv_at hl 0 rfl) ?_
        refine va_get (D := D) (C := RX2) (T := TX2) (N := 7) (ci := 2) (v := .ref (ps 4)) hx hb hts iw_X2_sweep_2 hown hK hP 0 rfl rfl 4 (by decide) (hts _ fl_X2_sweep_23) (fun _ h9 => h9) rfl dX2_sweep_13 ?_
        refine lv_iload_n hx hb dX2_sweep_16 rfl (lv_at hl 2 rfl) ?_
        rcases (show s2 = 0 ∨ s2 = 1 ∨ s2 = 2 ∨ s2 = 3 by omega) with rfl | rfl | rfl | rfl
        ·
          refine r_ald2 hx hb hK hP 4 rfl rfl ⟨by omega, by omega, by omega⟩ dX2_sweep_17 ?_
          refine r_const hx hb dX2_sweep_18 ?_
          refine lv_aload_n hx hb dX2_sweep_19 rfl (lv_at hl 0 rfl) ?_
          refine va_get (D := D) (C := RX2) (T := TX2) (N := 7) (ci := 2) (v := .ref (ps 1)) hx hb hts iw_X2_sweep_2 hown hK hP 0 rfl rfl 0 (by decide) (hts _ fl_X2_sweep_9) (fun _ h9 => h9) rfl dX2_sweep_20 ?_
          refine lv_aload_n hx hb dX2_sweep_23 rfl (lv_at hl 0 rfl) ?_
          refine va_get (D := D) (C := RX2) (T := TX2) (N := 7) (ci := 2) (v := .int (iI cn)) hx hb hts iw_X2_sweep_2 hown hK hP 0 rfl rfl 1 (by decide) (hts _ fl_X2_sweep_46) (fun _ h9 => h9) rfl dX2_sweep_24 ?_
          refine lv_aload_n hx hb dX2_sweep_27 rfl (lv_at hl 0 rfl) ?_
          refine va_get (D := D) (C := RX2) (T := TX2) (N := 7) (ci := 2) (v := .ref (ps 9)) hx hb hts iw_X2_sweep_2 hown hK hP 0 rfl rfl 5 (by decide) (hts _ fl_X2_sweep_26) (fun _ h9 => h9) rfl dX2_sweep_28 ?_
          refine lv_iload_n hx hb dX2_sweep_31 rfl (lv_at hl 2 rfl) ?_
          refine r_ald hx hb hK hP 9 rfl rfl ⟨by omega, by omega, by omega⟩ dX2_sweep_32 ?_
          refine r_copy (own := RX2) (index := 86) hx hb (by rw [hml]; exact hl.1.symm) hown (hts _ (by decide +kernel)) (hts _ (by decide +kernel)) (hts _ (by decide +kernel)) (hts _ (by decide +kernel)) hK hP hD hS 5 1 rfl rfl rfl ⟨by omega, by omega, by omega, ⟨by omega, by omega⟩, by omega, by omega⟩ (Nat.le_of_ble_eq_true rfl) (Nat.le_of_ble_eq_true rfl) dX2_sweep_33 (fun H locs hP hD hS => ?_)
          replace hP : va_P D vwCl [oP ps cn, ai (cy 0) (ps 1) 24 (cpy g0 B 0 cn (ht 0)), ai (cy 0) (ps 2) 24 sa, ai (cy 0) (ps 3) 10 so, aq (cy 3) (ps 4) 4 (fun ix => ps (5 + ix)), ai (cy 0) (ps 5) 24 g0, ai (cy 0) (ps 6) 24 g1, ai (cy 0) (ps 7) 24 g2, ai (cy 0) (ps 8) 24 g3, ai (cy 0) (ps 9) 4 ht, ai (cy 0) (ps 10) 4 ld] H := hP
          replace hD : va_D A [oP ps cn, ai (cy 0) (ps 1) 24 (cpy g0 B 0 cn (ht 0)), ai (cy 0) (ps 2) 24 sa, ai (cy 0) (ps 3) 10 so, aq (cy 3) (ps 4) 4 (fun ix => ps (5 + ix)), ai (cy 0) (ps 5) 24 g0, ai (cy 0) (ps 6) 24 g1, ai (cy 0) (ps 7) 24 g2, ai (cy 0) (ps 8) 24 g3, ai (cy 0) (ps 9) 4 ht, ai (cy 0) (ps 10) 4 ld] := hD
          refine lv_aload_n hx hb dX2_sweep_36 rfl (lv_at hl 0 rfl) ?_
          refine lv_dup hx hb dX2_sweep_37 rfl ?_
          refine va_get (D := D) (C := RX2) (T := TX2) (N := 7) (ci := 2) (v := .int (iI cn)) hx hb hts iw_X2_sweep_2 hown hK hP 0 rfl rfl 1 (by decide) (hts _ fl_X2_sweep_46) (fun _ h9 => h9) rfl dX2_sweep_38 ?_
          refine lv_aload_n hx hb dX2_sweep_41 rfl (lv_at hl 0 rfl) ?_
          refine va_get (D := D) (C := RX2) (T := TX2) (N := 7) (ci := 2) (v := .ref (ps 9)) hx hb hts iw_X2_sweep_2 hown hK hP 0 rfl rfl 5 (by decide) (hts _ fl_X2_sweep_26) (fun _ h9 => h9) rfl dX2_sweep_42 ?_
          refine lv_iload_n hx hb dX2_sweep_45 rfl (lv_at hl 2 rfl) ?_
          refine r_ald hx hb hK hP 9 rfl rfl ⟨by omega, by omega, by omega⟩ dX2_sweep_46 ?_
          refine r_add hx hb dX2_sweep_47 ?_
          refine va_put (D := D) (C := RX2) (T := TX2) (N := 7) (ci := 2) (v := .int (iI (cn + (ht 0)))) (ty := .int) hx hb hts iw_X2_sweep_2 tyX2 tyX2_ok nmX2 hown hK hP hD hS 0 rfl rfl 1 (by decide) (hts _ fl_X2_sweep_46) (fun _ h9 => h9) rfl (by decide +kernel) rfl rfl (Nat.le_of_ble_eq_true rfl) dX2_sweep_48 (fun H locs hP hD hS => ?_)
          replace hP : va_P D vwCl [oP ps (cn + (ht 0)), ai (cy 0) (ps 1) 24 (cpy g0 B 0 cn (ht 0)), ai (cy 0) (ps 2) 24 sa, ai (cy 0) (ps 3) 10 so, aq (cy 3) (ps 4) 4 (fun ix => ps (5 + ix)), ai (cy 0) (ps 5) 24 g0, ai (cy 0) (ps 6) 24 g1, ai (cy 0) (ps 7) 24 g2, ai (cy 0) (ps 8) 24 g3, ai (cy 0) (ps 9) 4 ht, ai (cy 0) (ps 10) 4 ld] H := hP
          replace hD : va_D A [oP ps (cn + (ht 0)), ai (cy 0) (ps 1) 24 (cpy g0 B 0 cn (ht 0)), ai (cy 0) (ps 2) 24 sa, ai (cy 0) (ps 3) 10 so, aq (cy 3) (ps 4) 4 (fun ix => ps (5 + ix)), ai (cy 0) (ps 5) 24 g0, ai (cy 0) (ps 6) 24 g1, ai (cy 0) (ps 7) 24 g2, ai (cy 0) (ps 8) 24 g3, ai (cy 0) (ps 9) 4 ht, ai (cy 0) (ps 10) 4 ld] := hD
          refine r_inc (k := 2) (lv' := [(2, .int (iI (0 + 1))), (0, .ref (ps 0)), (1, .int (iI mn))]) hx hb dX2_sweep_51 hl rfl (by decide) rfl (fun ls hl => ?_)
          refine lv_goto (tgt := 7) hx hb dX2_sweep_54 (by decide) ?_
          exact ih_7 (0 + 1) (cn + (ht 0)) (cpy g0 B 0 cn (ht 0)) (by omega) (by omega) (by rw [catL_s h1.1, ← h2, ← hG _ (by omega) (by omega)]; exact lst_cat h0 (hH _)) (by omega) H locs (pick_P hP (is := [0, 1, 2, 3, 4, 5, 6, 7, 8, 9, 10]) rfl) (hD.sub [0, 1, 2, 3, 4, 5, 6, 7, 8, 9, 10] (by decide) rfl) hS ls (lv_sub hl [1, 2, 0] rfl)
        ·
          refine r_ald2 hx hb hK hP 4 rfl rfl ⟨by omega, by omega, by omega⟩ dX2_sweep_17 ?_
          refine r_const hx hb dX2_sweep_18 ?_
          refine lv_aload_n hx hb dX2_sweep_19 rfl (lv_at hl 0 rfl) ?_
          refine va_get (D := D) (C := RX2) (T := TX2) (N := 7) (ci := 2) (v := .ref (ps 1)) hx hb hts iw_X2_sweep_2 hown hK hP 0 rfl rfl 0 (by decide) (hts _ fl_X2_sweep_9) (fun _ h9 => h9) rfl dX2_sweep_20 ?_
          refine lv_aload_n hx hb dX2_sweep_23 rfl (lv_at hl 0 rfl) ?_
          refine va_get (D := D) (C := RX2) (T := TX2) (N := 7) (ci := 2) (v := .int (iI cn)) hx hb hts iw_X2_sweep_2 hown hK hP 0 rfl rfl 1 (by decide) (hts _ fl_X2_sweep_46) (fun _ h9 => h9) rfl dX2_sweep_24 ?_
          refine lv_aload_n hx hb dX2_sweep_27 rfl (lv_at hl 0 rfl) ?_
          refine va_get (D := D) (C := RX2) (T := TX2) (N := 7) (ci := 2) (v := .ref (ps 9)) hx hb hts iw_X2_sweep_2 hown hK hP 0 rfl rfl 5 (by decide) (hts _ fl_X2_sweep_26) (fun _ h9 => h9) rfl dX2_sweep_28 ?_
          refine lv_iload_n hx hb dX2_sweep_31 rfl (lv_at hl 2 rfl) ?_
          refine r_ald hx hb hK hP 9 rfl rfl ⟨by omega, by omega, by omega⟩ dX2_sweep_32 ?_
          refine r_copy (own := RX2) (index := 86) hx hb (by rw [hml]; exact hl.1.symm) hown (hts _ (by decide +kernel)) (hts _ (by decide +kernel)) (hts _ (by decide +kernel)) (hts _ (by decide +kernel)) hK hP hD hS 6 1 rfl rfl rfl ⟨by omega, by omega, by omega, ⟨by omega, by omega⟩, by omega, by omega⟩ (Nat.le_of_ble_eq_true rfl) (Nat.le_of_ble_eq_true rfl) dX2_sweep_33 (fun H locs hP hD hS => ?_)
          replace hP : va_P D vwCl [oP ps cn, ai (cy 0) (ps 1) 24 (cpy g1 B 0 cn (ht 1)), ai (cy 0) (ps 2) 24 sa, ai (cy 0) (ps 3) 10 so, aq (cy 3) (ps 4) 4 (fun ix => ps (5 + ix)), ai (cy 0) (ps 5) 24 g0, ai (cy 0) (ps 6) 24 g1, ai (cy 0) (ps 7) 24 g2, ai (cy 0) (ps 8) 24 g3, ai (cy 0) (ps 9) 4 ht, ai (cy 0) (ps 10) 4 ld] H := hP
          replace hD : va_D A [oP ps cn, ai (cy 0) (ps 1) 24 (cpy g1 B 0 cn (ht 1)), ai (cy 0) (ps 2) 24 sa, ai (cy 0) (ps 3) 10 so, aq (cy 3) (ps 4) 4 (fun ix => ps (5 + ix)), ai (cy 0) (ps 5) 24 g0, ai (cy 0) (ps 6) 24 g1, ai (cy 0) (ps 7) 24 g2, ai (cy 0) (ps 8) 24 g3, ai (cy 0) (ps 9) 4 ht, ai (cy 0) (ps 10) 4 ld] := hD
          refine lv_aload_n hx hb dX2_sweep_36 rfl (lv_at hl 0 rfl) ?_
          refine lv_dup hx hb dX2_sweep_37 rfl ?_
          refine va_get (D := D) (C := RX2) (T := TX2) (N := 7) (ci := 2) (v := .int (iI cn)) hx hb hts iw_X2_sweep_2 hown hK hP 0 rfl rfl 1 (by decide) (hts _ fl_X2_sweep_46) (fun _ h9 => h9) rfl dX2_sweep_38 ?_
          refine lv_aload_n hx hb dX2_sweep_41 rfl (lv_at hl 0 rfl) ?_
          refine va_get (D := D) (C := RX2) (T := TX2) (N := 7) (ci := 2) (v := .ref (ps 9)) hx hb hts iw_X2_sweep_2 hown hK hP 0 rfl rfl 5 (by decide) (hts _ fl_X2_sweep_26) (fun _ h9 => h9) rfl dX2_sweep_42 ?_
          refine lv_iload_n hx hb dX2_sweep_45 rfl (lv_at hl 2 rfl) ?_
          refine r_ald hx hb hK hP 9 rfl rfl ⟨by omega, by omega, by omega⟩ dX2_sweep_46 ?_
          refine r_add hx hb dX2_sweep_47 ?_
          refine va_put (D := D) (C := RX2) (T := TX2) (N := 7) (ci := 2) (v := .int (iI (cn + (ht 1)))) (ty := .int) hx hb hts iw_X2_sweep_2 tyX2 tyX2_ok nmX2 hown hK hP hD hS 0 rfl rfl 1 (by decide) (hts _ fl_X2_sweep_46) (fun _ h9 => h9) rfl (by decide +kernel) rfl rfl (Nat.le_of_ble_eq_true rfl) dX2_sweep_48 (fun H locs hP hD hS => ?_)
          replace hP : va_P D vwCl [oP ps (cn + (ht 1)), ai (cy 0) (ps 1) 24 (cpy g1 B 0 cn (ht 1)), ai (cy 0) (ps 2) 24 sa, ai (cy 0) (ps 3) 10 so, aq (cy 3) (ps 4) 4 (fun ix => ps (5 + ix)), ai (cy 0) (ps 5) 24 g0, ai (cy 0) (ps 6) 24 g1, ai (cy 0) (ps 7) 24 g2, ai (cy 0) (ps 8) 24 g3, ai (cy 0) (ps 9) 4 ht, ai (cy 0) (ps 10) 4 ld] H := hP
          replace hD : va_D A [oP ps (cn + (ht 1)), ai (cy 0) (ps 1) 24 (cpy g1 B 0 cn (ht 1)), ai (cy 0) (ps 2) 24 sa, ai (cy 0) (ps 3) 10 so, aq (cy 3) (ps 4) 4 (fun ix => ps (5 + ix)), ai (cy 0) (ps 5) 24 g0, ai (cy 0) (ps 6) 24 g1, ai (cy 0) (ps 7) 24 g2, ai (cy 0) (ps 8) 24 g3, ai (cy 0) (ps 9) 4 ht, ai (cy 0) (ps 10) 4 ld] := hD
          refine r_inc (k := 2) (lv' := [(2, .int (iI (1 + 1))), (0, .ref (ps 0)), (1, .int (iI mn))]) hx hb dX2_sweep_51 hl rfl (by decide) rfl (fun ls hl => ?_)
          refine lv_goto (tgt := 7) hx hb dX2_sweep_54 (by decide) ?_
          exact ih_7 (1 + 1) (cn + (ht 1)) (cpy g1 B 0 cn (ht 1)) (by omega) (by omega) (by rw [catL_s h1.1, ← h2, ← hG _ (by omega) (by omega)]; exact lst_cat h0 (hH _)) (by omega) H locs (pick_P hP (is := [0, 1, 2, 3, 4, 5, 6, 7, 8, 9, 10]) rfl) (hD.sub [0, 1, 2, 3, 4, 5, 6, 7, 8, 9, 10] (by decide) rfl) hS ls (lv_sub hl [1, 2, 0] rfl)
        ·
          refine r_ald2 hx hb hK hP 4 rfl rfl ⟨by omega, by omega, by omega⟩ dX2_sweep_17 ?_
          refine r_const hx hb dX2_sweep_18 ?_
          refine lv_aload_n hx hb dX2_sweep_19 rfl (lv_at hl 0 rfl) ?_
          refine va_get (D := D) (C := RX2) (T := TX2) (N := 7) (ci := 2) (v := .ref (ps 1)) hx hb hts iw_X2_sweep_2 hown hK hP 0 rfl rfl 0 (by decide) (hts _ fl_X2_sweep_9) (fun _ h9 => h9) rfl dX2_sweep_20 ?_
          refine lv_aload_n hx hb dX2_sweep_23 rfl (lv_at hl 0 rfl) ?_
          refine va_get (D := D) (C := RX2) (T := TX2) (N := 7) (ci := 2) (v := .int (iI cn)) hx hb hts iw_X2_sweep_2 hown hK hP 0 rfl rfl 1 (by decide) (hts _ fl_X2_sweep_46) (fun _ h9 => h9) rfl dX2_sweep_24 ?_
          refine lv_aload_n hx hb dX2_sweep_27 rfl (lv_at hl 0 rfl) ?_
          refine va_get (D := D) (C := RX2) (T := TX2) (N := 7) (ci := 2) (v := .ref (ps 9)) hx hb hts iw_X2_sweep_2 hown hK hP 0 rfl rfl 5 (by decide) (hts _ fl_X2_sweep_26) (fun _ h9 => h9) rfl dX2_sweep_28 ?_
          refine lv_iload_n hx hb dX2_sweep_31 rfl (lv_at hl 2 rfl) ?_
          refine r_ald hx hb hK hP 9 rfl rfl ⟨by omega, by omega, by omega⟩ dX2_sweep_32 ?_
          refine r_copy (own := RX2) (index := 86) hx hb (by rw [hml]; exact hl.1.symm) hown (hts _ (by decide +kernel)) (hts _ (by decide +kernel)) (hts _ (by decide +kernel)) (hts _ (by decide +kernel)) hK hP hD hS 7 1 rfl rfl rfl ⟨by omega, by omega, by omega, ⟨by omega, by omega⟩, by omega, by omega⟩ (Nat.le_of_ble_eq_true rfl) (Nat.le_of_ble_eq_true rfl) dX2_sweep_33 (fun H locs hP hD hS => ?_)
          replace hP : va_P D vwCl [oP ps cn, ai (cy 0) (ps 1) 24 (cpy g2 B 0 cn (ht 2)), ai (cy 0) (ps 2) 24 sa, ai (cy 0) (ps 3) 10 so, aq (cy 3) (ps 4) 4 (fun ix => ps (5 + ix)), ai (cy 0) (ps 5) 24 g0, ai (cy 0) (ps 6) 24 g1, ai (cy 0) (ps 7) 24 g2, ai (cy 0) (ps 8) 24 g3, ai (cy 0) (ps 9) 4 ht, ai (cy 0) (ps 10) 4 ld] H := hP
          replace hD : va_D A [oP ps cn, ai (cy 0) (ps 1) 24 (cpy g2 B 0 cn (ht 2)), ai (cy 0) (ps 2) 24 sa, ai (cy 0) (ps 3) 10 so, aq (cy 3) (ps 4) 4 (fun ix => ps (5 + ix)), ai (cy 0) (ps 5) 24 g0, ai (cy 0) (ps 6) 24 g1, ai (cy 0) (ps 7) 24 g2, ai (cy 0) (ps 8) 24 g3, ai (cy 0) (ps 9) 4 ht, ai (cy 0) (ps 10) 4 ld] := hD
          refine lv_aload_n hx hb dX2_sweep_36 rfl (lv_at hl 0 rfl) ?_
          refine lv_dup hx hb dX2_sweep_37 rfl ?_
          refine va_get (D := D) (C := RX2) (T := TX2) (N := 7) (ci := 2) (v := .int (iI cn)) hx hb hts iw_X2_sweep_2 hown hK hP 0 rfl rfl 1 (by decide) (hts _ fl_X2_sweep_46) (fun _ h9 => h9) rfl dX2_sweep_38 ?_
          refine lv_aload_n hx hb dX2_sweep_41 rfl (lv_at hl 0 rfl) ?_
          refine va_get (D := D) (C := RX2) (T := TX2) (N := 7) (ci := 2) (v := .ref (ps 9)) hx hb hts iw_X2_sweep_2 hown hK hP 0 rfl rfl 5 (by decide) (hts _ fl_X2_sweep_26) (fun _ h9 => h9) rfl dX2_sweep_42 ?_
          refine lv_iload_n hx hb dX2_sweep_45 rfl (lv_at hl 2 rfl) ?_
          refine r_ald hx hb hK hP 9 rfl rfl ⟨by omega, by omega, by omega⟩ dX2_sweep_46 ?_
          refine r_add hx hb dX2_sweep_47 ?_
          refine va_put (D := D) (C := RX2) (T := TX2) (N := 7) (ci := 2) (v := .int (iI (cn + (ht 2)))) (ty := .int) hx hb hts iw_X2_sweep_2 tyX2 tyX2_ok nmX2 hown hK hP hD hS 0 rfl rfl 1 (by decide) (hts _ fl_X2_sweep_46) (fun _ h9 => h9) rfl (by decide +kernel) rfl rfl (Nat.le_of_ble_eq_true rfl) dX2_sweep_48 (fun H locs hP hD hS => ?_)
          replace hP : va_P D vwCl [oP ps (cn + (ht 2)), ai (cy 0) (ps 1) 24 (cpy g2 B 0 cn (ht 2)), ai (cy 0) (ps 2) 24 sa, ai (cy 0) (ps 3) 10 so, aq (cy 3) (ps 4) 4 (fun ix => ps (5 + ix)), ai (cy 0) (ps 5) 24 g0, ai (cy 0) (ps 6) 24 g1, ai (cy 0) (ps 7) 24 g2, ai (cy 0) (ps 8) 24 g3, ai (cy 0) (ps 9) 4 ht, ai (cy 0) (ps 10) 4 ld] H := hP
          replace hD : va_D A [oP ps (cn + (ht 2)), ai (cy 0) (ps 1) 24 (cpy g2 B 0 cn (ht 2)), ai (cy 0) (ps 2) 24 sa, ai (cy 0) (ps 3) 10 so, aq (cy 3) (ps 4) 4 (fun ix => ps (5 + ix)), ai (cy 0) (ps 5) 24 g0, ai (cy 0) (ps 6) 24 g1, ai (cy 0) (ps 7) 24 g2, ai (cy 0) (ps 8) 24 g3, ai (cy 0) (ps 9) 4 ht, ai (cy 0) (ps 10) 4 ld] := hD
          refine r_inc (k := 2) (lv' := [(2, .int (iI (2 + 1))), (0, .ref (ps 0)), (1, .int (iI mn))]) hx hb dX2_sweep_51 hl rfl (by decide) rfl (fun ls hl => ?_)
          refine lv_goto (tgt := 7) hx hb dX2_sweep_54 (by decide) ?_
          exact ih_7 (2 + 1) (cn + (ht 2)) (cpy g2 B 0 cn (ht 2)) (by omega) (by omega) (by rw [catL_s h1.1, ← h2, ← hG _ (by omega) (by omega)]; exact lst_cat h0 (hH _)) (by omega) H locs (pick_P hP (is := [0, 1, 2, 3, 4, 5, 6, 7, 8, 9, 10]) rfl) (hD.sub [0, 1, 2, 3, 4, 5, 6, 7, 8, 9, 10] (by decide) rfl) hS ls (lv_sub hl [1, 2, 0] rfl)
        ·
          refine r_ald2 hx hb hK hP 4 rfl rfl ⟨by omega, by omega, by omega⟩ dX2_sweep_17 ?_
          refine r_const hx hb dX2_sweep_18 ?_
          refine lv_aload_n hx hb dX2_sweep_19 rfl (lv_at hl 0 rfl) ?_
          refine va_get (D := D) (C := RX2) (T := TX2) (N := 7) (ci := 2) (v := .ref (ps 1)) hx hb hts iw_X2_sweep_2 hown hK hP 0 rfl rfl 0 (by decide) (hts _ fl_X2_sweep_9) (fun _ h9 => h9) rfl dX2_sweep_20 ?_
          refine lv_aload_n hx hb dX2_sweep_23 rfl (lv_at hl 0 rfl) ?_
          refine va_get (D := D) (C := RX2) (T := TX2) (N := 7) (ci := 2) (v := .int (iI cn)) hx hb hts iw_X2_sweep_2 hown hK hP 0 rfl rfl 1 (by decide) (hts _ fl_X2_sweep_46) (fun _ h9 => h9) rfl dX2_sweep_24 ?_
          refine lv_aload_n hx hb dX2_sweep_27 rfl (lv_at hl 0 rfl) ?_
          refine va_get (D := D) (C := RX2) (T := TX2) (N := 7) (ci := 2) (v := .ref (ps 9)) hx hb hts iw_X2_sweep_2 hown hK hP 0 rfl rfl 5 (by decide) (hts _ fl_X2_sweep_26) (fun _ h9 => h9) rfl dX2_sweep_28 ?_
          refine lv_iload_n hx hb dX2_sweep_31 rfl (lv_at hl 2 rfl) ?_
          refine r_ald hx hb hK hP 9 rfl rfl ⟨by omega, by omega, by omega⟩ dX2_sweep_32 ?_
          refine r_copy (own := RX2) (index := 86) hx hb (by rw [hml]; exact hl.1.symm) hown (hts _ (by decide +kernel)) (hts _ (by decide +kernel)) (hts _ (by decide +kernel)) (hts _ (by decide +kernel)) hK hP hD hS 8 1 rfl rfl rfl ⟨by omega, by omega, by omega, ⟨by omega, by omega⟩, by omega, by omega⟩ (Nat.le_of_ble_eq_true rfl) (Nat.le_of_ble_eq_true rfl) dX2_sweep_33 (fun H locs hP hD hS => ?_)
          replace hP : va_P D vwCl [oP ps cn, ai (cy 0) (ps 1) 24 (cpy g3 B 0 cn (ht 3)), ai (cy 0) (ps 2) 24 sa, ai (cy 0) (ps 3) 10 so, aq (cy 3) (ps 4) 4 (fun ix => ps (5 + ix)), ai (cy 0) (ps 5) 24 g0, ai (cy 0) (ps 6) 24 g1, ai (cy 0) (ps 7) 24 g2, ai (cy 0) (ps 8) 24 g3, ai (cy 0) (ps 9) 4 ht, ai (cy 0) (ps 10) 4 ld] H := hP
          replace hD : va_D A [oP ps cn, ai (cy 0) (ps 1) 24 (cpy g3 B 0 cn (ht 3)), ai (cy 0) (ps 2) 24 sa, ai (cy 0) (ps 3) 10 so, aq (cy 3) (ps 4) 4 (fun ix => ps (5 + ix)), ai (cy 0) (ps 5) 24 g0, ai (cy 0) (ps 6) 24 g1, ai (cy 0) (ps 7) 24 g2, ai (cy 0) (ps 8) 24 g3, ai (cy 0) (ps 9) 4 ht, ai (cy 0) (ps 10) 4 ld] := hD
          refine lv_aload_n hx hb dX2_sweep_36 rfl (lv_at hl 0 rfl) ?_
          refine lv_dup hx hb dX2_sweep_37 rfl ?_
          refine va_get (D := D) (C := RX2) (T := TX2) (N := 7) (ci := 2) (v := .int (iI cn)) hx hb hts iw_X2_sweep_2 hown hK hP 0 rfl rfl 1 (by decide) (hts _ fl_X2_sweep_46) (fun _ h9 => h9) rfl dX2_sweep_38 ?_
          refine lv_aload_n hx hb dX2_sweep_41 rfl (lv_at hl 0 rfl) ?_
          refine va_get (D := D) (C := RX2) (T := TX2) (N := 7) (ci := 2) (v := .ref (ps 9)) hx hb hts iw_X2_sweep_2 hown hK hP 0 rfl rfl 5 (by decide) (hts _ fl_X2_sweep_26) (fun _ h9 => h9) rfl dX2_sweep_42 ?_
          refine lv_iload_n hx hb dX2_sweep_45 rfl (lv_at hl 2 rfl) ?_
          refine r_ald hx hb hK hP 9 rfl rfl ⟨by omega, by omega, by omega⟩ dX2_sweep_46 ?_
          refine r_add hx hb dX2_sweep_47 ?_
          refine va_put (D := D) (C := RX2) (T := TX2) (N := 7) (ci := 2) (v := .int (iI (cn + (ht 3)))) (ty := .int) hx hb hts iw_X2_sweep_2 tyX2 tyX2_ok nmX2 hown hK hP hD hS 0 rfl rfl 1 (by decide) (hts _ fl_X2_sweep_46) (fun _ h9 => h9) rfl (by decide +kernel) rfl rfl (Nat.le_of_ble_eq_true rfl) dX2_sweep_48 (fun H locs hP hD hS => ?_)
          replace hP : va_P D vwCl [oP ps (cn + (ht 3)), ai (cy 0) (ps 1) 24 (cpy g3 B 0 cn (ht 3)), ai (cy 0) (ps 2) 24 sa, ai (cy 0) (ps 3) 10 so, aq (cy 3) (ps 4) 4 (fun ix => ps (5 + ix)), ai (cy 0) (ps 5) 24 g0, ai (cy 0) (ps 6) 24 g1, ai (cy 0) (ps 7) 24 g2, ai (cy 0) (ps 8) 24 g3, ai (cy 0) (ps 9) 4 ht, ai (cy 0) (ps 10) 4 ld] H := hP
          replace hD : va_D A [oP ps (cn + (ht 3)), ai (cy 0) (ps 1) 24 (cpy g3 B 0 cn (ht 3)), ai (cy 0) (ps 2) 24 sa, ai (cy 0) (ps 3) 10 so, aq (cy 3) (ps 4) 4 (fun ix => ps (5 + ix)), ai (cy 0) (ps 5) 24 g0, ai (cy 0) (ps 6) 24 g1, ai (cy 0) (ps 7) 24 g2, ai (cy 0) (ps 8) 24 g3, ai (cy 0) (ps 9) 4 ht, ai (cy 0) (ps 10) 4 ld] := hD
          refine r_inc (k := 2) (lv' := [(2, .int (iI (3 + 1))), (0, .ref (ps 0)), (1, .int (iI mn))]) hx hb dX2_sweep_51 hl rfl (by decide) rfl (fun ls hl => ?_)
          refine lv_goto (tgt := 7) hx hb dX2_sweep_54 (by decide) ?_
          exact ih_7 (3 + 1) (cn + (ht 3)) (cpy g3 B 0 cn (ht 3)) (by omega) (by omega) (by rw [catL_s h1.1, ← h2, ← hG _ (by omega) (by omega)]; exact lst_cat h0 (hH _)) (by omega) H locs (pick_P hP (is := [0, 1, 2, 3, 4, 5, 6, 7, 8, 9, 10]) rfl) (hD.sub [0, 1, 2, 3, 4, 5, 6, 7, 8, 9, 10] (by decide) rfl) hS ls (lv_sub hl [1, 2, 0] rfl)
  exact lp_7 _ 0 0 or (by omega) (by omega) (rfl) (Nat.lt_succ_self _) H locs (pick_P hP (is := [0, 1, 2, 3, 4, 5, 6, 7, 8, 9, 10]) rfl) (hD.sub [0, 1, 2, 3, 4, 5, 6, 7, 8, 9, 10] (by decide) rfl) hS ls (lv_sub hl [1, 2, 0] rfl)
abbrev rm_X2_countSpilledAt : Room := { frames := 0, cells := 0, slots := 0, locals := 0 }
theorem fl_X2_countSpilledAt_15 : Cond.fieldLink RX2 15 "WalkPasses$Passes" "spilledAt" "[I" ∈ wsX2_countSpilledAt := by decide +kernel
theorem iw_X2_countSpilledAt_1 : ∀ w ∈ u_ws RX1 TX1 10, w ∈ wsX2_countSpilledAt := by decide +kernel
theorem iw_X2_countSpilledAt_2 : ∀ w ∈ u_ws RX2 TX2 7, w ∈ wsX2_countSpilledAt := by decide +kernel
set_option maxHeartbeats 4000000 in
set_option maxRecDepth 100000 in
theorem k_X2_countSpilledAt (l : Launch) (D : va_G) (cy : Nat → ClassId) (ps d : Nat → Nat) (z : Nat) (cm : Int) (or sa so g0 g1 g2 g3 ht ld : Int → Int) (lt mn vs : Int) (pt tk mr od pl rm cd : Int → Int) (jj : Int) (hlt : 0 ≤ lt ∧ lt ≤ 24) (hsa : ∀ l, 0 ≤ l → l < lt → 0 ≤ sa l ∧ sa l ≤ 3) (hj : 0 ≤ jj ∧ jj ≤ 3) : CtI l yX2_countSpilledAt wsX2_countSpilledAt rm_X2_countSpilledAt D (tyL cy) [.ref (ps 0), .ref (d 0), .int (iI jj)] [oP ps cm, ai (cy 0) (ps 1) 24 or, ai (cy 0) (ps 2) 24 sa, ai (cy 0) (ps 3) 10 so, aq (cy 3) (ps 4) 4 (fun ix => ps (5 + ix)), ai (cy 0) (ps 5) 24 g0, ai (cy 0) (ps 6) 24 g1, ai (cy 0) (ps 7) 24 g2, ai (cy 0) (ps 8) 24 g3, ai (cy 0) (ps 9) 4 ht, ai (cy 0) (ps 10) 4 ld, oD d lt mn vs, ai (cy 0) (d 1) 24 pt, ai (cy 0) (d 2) 24 tk, ai (cy 0) (d 3) 24 mr, ai (cy 0) (d 4) 10 od, ai (cy 0) (d 5) 10 pl, ai (cy 0) (d 6) 4 rm, ai (cy 0) (d 7) 10 cd] z (fun (r : Int) (u : Unit) => r = sumTo (fun l => if sa l = jj then 1 else 0) lt.toNat) (fun (u : Unit) => [oP ps cm, ai (cy 0) (ps 1) 24 or, ai (cy 0) (ps 2) 24 sa, ai (cy 0) (ps 3) 10 so, aq (cy 3) (ps 4) 4 (fun ix => ps (5 + ix)), ai (cy 0) (ps 5) 24 g0, ai (cy 0) (ps 6) 24 g1, ai (cy 0) (ps 7) 24 g2, ai (cy 0) (ps 8) 24 g3, ai (cy 0) (ps 9) 4 ht, ai (cy 0) (ps 10) 4 ld, oD d lt mn vs, ai (cy 0) (d 1) 24 pt, ai (cy 0) (d 2) 24 tk, ai (cy 0) (d 3) 24 mr, ai (cy 0) (d 4) 10 od, ai (cy 0) (d 5) 10 pl, ai (cy 0) (d 6) 4 rm, ai (cy 0) (d 7) 10 cd]) 0 0 := by
  refine ct_i (cc := cX2_countSpilledAt) (maxL := 5) (by decide) rfl (Nat.le_of_ble_eq_true rfl) ?_
  intro p e s m args below meth c A Q H locs ls hx hb hml hown hin hts hK hN hP hD hS hA hl hret
  replace hl : lv_has ls 5 [(0, .ref (ps 0)), (1, .ref (d 0)), (2, .int (iI jj))] := hl
  replace hown : s.vm.findClass RX2 = some m.cls := hown
  refine r_const hx hb dX2_countSpilledAt_0 ?_
  refine lv_istore_n (lv' := [(3, .int (iI 0)), (0, .ref (ps 0)), (1, .ref (d 0)), (2, .int (iI jj))]) hx hb dX2_countSpilledAt_1 rfl hl (by decide) rfl (fun ls hl => ?_)
  refine r_const hx hb dX2_countSpilledAt_2 ?_
  refine lv_istore (lv' := [(4, .int (iI 0)), (3, .int (iI 0)), (0, .ref (ps 0)), (1, .ref (d 0)), (2, .int (iI jj))]) hx hb dX2_countSpilledAt_3 hl (by decide) rfl (fun ls hl => ?_)
  have lp_5 : ∀ (fu : Nat) (g : Int) (i : Int), (0 ≤ i ∧ i ≤ lt) → (g = sumTo (fun l => if sa l = jj then 1 else 0) i.toNat) → (lt - i).toNat < fu → ∀ (H : Heap) (locs : List Loc), va_P D vwCl [oP ps cm, ai (cy 0) (ps 1) 24 or, ai (cy 0) (ps 2) 24 sa, ai (cy 0) (ps 3) 10 so, aq (cy 3) (ps 4) 4 (fun ix => ps (5 + ix)), ai (cy 0) (ps 5) 24 g0, ai (cy 0) (ps 6) 24 g1, ai (cy 0) (ps 7) 24 g2, ai (cy 0) (ps 8) 24 g3, ai (cy 0) (ps 9) 4 ht, ai (cy 0) (ps 10) 4 ld, oD d lt mn vs, ai (cy 0) (d 1) 24 pt, ai (cy 0) (d 2) 24 tk, ai (cy 0) (d 3) 24 mr, ai (cy 0) (d 4) 10 od, ai (cy 0) (d 5) 10 pl, ai (cy 0) (d 6) 4 rm, ai (cy 0) (d 7) 10 cd] H → va_D A [oP ps cm, ai (cy 0) (ps 1) 24 or, ai (cy 0) (ps 2) 24 sa, ai (cy 0) (ps 3) 10 so, aq (cy 3) (ps 4) 4 (fun ix => ps (5 + ix)), ai (cy 0) (ps 5) 24 g0, ai (cy 0) (ps 6) 24 g1, ai (cy 0) (ps 7) 24 g2, ai (cy 0) (ps 8) 24 g3, ai (cy 0) (ps 9) 4 ht, ai (cy 0) (ps 10) 4 ld, oD d lt mn vs, ai (cy 0) (d 1) 24 pt, ai (cy 0) (d 2) 24 tk, ai (cy 0) (d 3) 24 mr, ai (cy 0) (d 4) 10 od, ai (cy 0) (d 5) 10 pl, ai (cy 0) (d 6) 4 rm, ai (cy 0) (d 7) 10 cd] → va_S A s.heap H locs → ∀ (ls : Array Slot), lv_has ls 5 [(0, .ref (ps 0)), (1, .ref (d 0)), (2, .int (iI jj)), (3, .int (iI g)), (4, .int (iI i))] → W p l e rm_X2_countSpilledAt s m args below meth c H locs 0 0 Q (F0 m 5 ls []) := by
    intro fu
    induction fu with
    | zero =>
      intro g i h1 h2 hm
      exact absurd hm (Nat.not_lt_zero _)
    | succ fu ih_5 =>
      intro g i h1 h2 hm H locs hP hD hS ls hl
      refine lv_iload hx hb dX2_countSpilledAt_5 (lv_at hl 4 rfl) ?_
      refine lv_aload_n hx hb dX2_countSpilledAt_7 rfl (lv_at hl 1 rfl) ?_
      refine va_getN (D := D) (C := RX1) (T := TX1) (N := 10) (ci := 1) (v := .int (iI lt)) hx hb hts iw_X2_countSpilledAt_1 hown hK hP 11 rfl rfl 0 (by decide) (nfX2_40 hN) (fun _ h9 => h9) rfl dX2_countSpilledAt_8 ?_
      refine r_ge hx hb 34 dX2_countSpilledAt_11 (by decide) ⟨by omega, by omega⟩ ⟨by omega, by omega⟩ (fun c_11 => ?_) (fun c_11 => ?_)
      ·
        refine lv_iload_n hx hb dX2_countSpilledAt_34 rfl (lv_at hl 3 rfl) ?_
        exact hret [0, 1, 2, 3, 4, 5, 6, 7, 8, 9, 10, 11, 12, 13, 14, 15, 16, 17, 18] () dX2_countSpilledAt_35 hP hD hS (by decide) rfl (by rw [h2, show lt = i by omega])
      ·
        refine lv_aload_n hx hb dX2_countSpilledAt_14 rfl (lv_at hl 0 rfl) ?_
        have hs1 := hsa i h1.1 (by omega)
        refine va_get (D := D) (C := RX2) (T := TX2) (N := 7) (ci := 2) (v := .ref (ps 2)) hx hb hts iw_X2_countSpilledAt_2 hown hK hP 0 rfl rfl 2 (by decide) (hts _ fl_X2_countSpilledAt_15) (fun _ h9 => h9) rfl dX2_countSpilledAt_15 ?_
        refine lv_iload hx hb dX2_countSpilledAt_18 (lv_at hl 4 rfl) ?_
        refine r_ald hx hb hK hP 2 rfl rfl ⟨by omega, by omega, by omega⟩ dX2_countSpilledAt_20 ?_
        refine lv_iload_n hx hb dX2_countSpilledAt_21 rfl (lv_at hl 2 rfl) ?_
        refine r_ne hx hb 28 dX2_countSpilledAt_22 (by decide) ⟨by omega, by omega⟩ ⟨by omega, by omega⟩ (fun c_22 => ?_) (fun c_22 => ?_)
        ·
          refine r_inc (k := 4) (lv' := [(4, .int (iI (i + 1))), (0, .ref (ps 0)), (1, .ref (d 0)), (2, .int (iI jj)), (3, .int (iI g))]) hx hb dX2_countSpilledAt_28 hl rfl (by decide) rfl (fun ls hl => ?_)
          refine lv_goto (tgt := 5) hx hb dX2_countSpilledAt_31 (by decide) ?_
          exact ih_5 g (i + 1) (by omega) (by rw [sumTo_s h1.1, h2]; first | (rw [if_pos c_22]; done) | (rw [if_neg c_22]; omega)) (by omega) H locs (pick_P hP (is := [0, 1, 2, 3, 4, 5, 6, 7, 8, 9, 10, 11, 12, 13, 14, 15, 16, 17, 18]) rfl) (hD.sub [0, 1, 2, 3, 4, 5, 6, 7, 8, 9, 10, 11, 12, 13, 14, 15, 16, 17, 18] (by decide) rfl) hS ls (lv_sub hl [1, 2, 3, 4, 0] rfl)
        ·
          refine r_inc (k := 3) (lv' := [(3, .int (iI (g + 1))), (0, .ref (ps 0)), (1, .ref (d 0)), (2, .int (iI jj)), (4, .int (iI i))]) hx hb dX2_countSpilledAt_25 hl rfl (by decide) rfl (fun ls hl => ?_)
          refine r_inc (k := 4) (lv' := [(4, .int (iI (i + 1))), (3, .int (iI (g + 1))), (0, .ref (ps 0)), (1, .ref (d 0)), (2, .int (iI jj))]) hx hb dX2_countSpilledAt_28 hl rfl (by decide) rfl (fun ls hl => ?_)
          refine lv_goto (tgt := 5) hx hb dX2_countSpilledAt_31 (by decide) ?_
          exact ih_5 (g + 1) (i + 1) (by omega) (by rw [sumTo_s h1.1, h2]; first | (rw [if_pos c_22]; done) | (rw [if_neg c_22]; omega)) (by omega) H locs (pick_P hP (is := [0, 1, 2, 3, 4, 5, 6, 7, 8, 9, 10, 11, 12, 13, 14, 15, 16, 17, 18]) rfl) (hD.sub [0, 1, 2, 3, 4, 5, 6, 7, 8, 9, 10, 11, 12, 13, 14, 15, 16, 17, 18] (by decide) rfl) hS ls (lv_sub hl [2, 3, 4, 1, 0] rfl)
  exact lp_5 _ 0 0 (by omega) (rfl) (Nat.lt_succ_self _) H locs (pick_P hP (is := [0, 1, 2, 3, 4, 5, 6, 7, 8, 9, 10, 11, 12, 13, 14, 15, 16, 17, 18]) rfl) (hD.sub [0, 1, 2, 3, 4, 5, 6, 7, 8, 9, 10, 11, 12, 13, 14, 15, 16, 17, 18] (by decide) rfl) hS ls (lv_sub hl [2, 3, 4, 1, 0] rfl)
abbrev rm_X2_countWrong : Room := { frames := 0, cells := 0, slots := 0, locals := 0 }
theorem fl_X2_countWrong_9 : Cond.fieldLink RX2 9 "WalkPasses$Passes" "order" "[I" ∈ wsX2_countWrong := by decide +kernel
theorem fl_X2_countWrong_46 : Cond.fieldLink RX2 46 "WalkPasses$Passes" "coming" "I" ∈ wsX2_countWrong := by decide +kernel
theorem iw_X2_countWrong_1 : ∀ w ∈ u_ws RX1 TX1 10, w ∈ wsX2_countWrong := by decide +kernel
theorem iw_X2_countWrong_2 : ∀ w ∈ u_ws RX2 TX2 7, w ∈ wsX2_countWrong := by decide +kernel
set_option maxHeartbeats 4000000 in
set_option maxRecDepth 100000 in
theorem k_X2_countWrong (l : Launch) (D : va_G) (cy : Nat → ClassId) (ps d : Nat → Nat) (z : Nat) (cm : Int) (or sa so g0 g1 g2 g3 ht ld : Int → Int) (lt mn vs : Int) (pt tk mr od pl rm cd : Int → Int) (hI : DI lt mn pt tk mr od pl rm cd) (hcm : 0 ≤ cm ∧ cm ≤ 24) (hor : ∀ i, 0 ≤ i → i < cm → 0 ≤ or i ∧ or i < lt) : CtI l yX2_countWrong wsX2_countWrong rm_X2_countWrong D (tyL cy) [.ref (ps 0), .ref (d 0)] [oP ps cm, ai (cy 0) (ps 1) 24 or, ai (cy 0) (ps 2) 24 sa, ai (cy 0) (ps 3) 10 so, aq (cy 3) (ps 4) 4 (fun ix => ps (5 + ix)), ai (cy 0) (ps 5) 24 g0, ai (cy 0) (ps 6) 24 g1, ai (cy 0) (ps 7) 24 g2, ai (cy 0) (ps 8) 24 g3, ai (cy 0) (ps 9) 4 ht, ai (cy 0) (ps 10) 4 ld, oD d lt mn vs, ai (cy 0) (d 1) 24 pt, ai (cy 0) (d 2) 24 tk, ai (cy 0) (d 3) 24 mr, ai (cy 0) (d 4) 10 od, ai (cy 0) (d 5) 10 pl, ai (cy 0) (d 6) 4 rm, ai (cy 0) (d 7) 10 cd] z (fun (r : Int) (u : Unit) => r = wrS (fun i => pl (pt (or i))) cm.toNat) (fun (u : Unit) => [oP ps cm, ai (cy 0) (ps 1) 24 or, ai (cy 0) (ps 2) 24 sa, ai (cy 0) (ps 3) 10 so, aq (cy 3) (ps 4) 4 (fun ix => ps (5 + ix)), ai (cy 0) (ps 5) 24 g0, ai (cy 0) (ps 6) 24 g1, ai (cy 0) (ps 7) 24 g2, ai (cy 0) (ps 8) 24 g3, ai (cy 0) (ps 9) 4 ht, ai (cy 0) (ps 10) 4 ld, oD d lt mn vs, ai (cy 0) (d 1) 24 pt, ai (cy 0) (d 2) 24 tk, ai (cy 0) (d 3) 24 mr, ai (cy 0) (d 4) 10 od, ai (cy 0) (d 5) 10 pl, ai (cy 0) (d 6) 4 rm, ai (cy 0) (d 7) 10 cd]) 0 0 := by
  refine ct_i (cc := cX2_countWrong) (maxL := 6) (by decide) rfl (Nat.le_of_ble_eq_true rfl) ?_
  intro p e s m args below meth c A Q H locs ls hx hb hml hown hin hts hK hN hP hD hS hA hl hret
  replace hl : lv_has ls 6 [(0, .ref (ps 0)), (1, .ref (d 0))] := hl
  replace hown : s.vm.findClass RX2 = some m.cls := hown
  obtain ⟨⟨⟨hlt0, hlt1⟩, hmn0, hmn1⟩, ⟨hpt, htk, hmr⟩, ⟨hod, hpl, hpo, hop⟩, hrm, hcd⟩ := id hI
  refine r_const hx hb dX2_countWrong_0 ?_
  refine lv_istore_n (lv' := [(2, .int (iI 0)), (0, .ref (ps 0)), (1, .ref (d 0))]) hx hb dX2_countWrong_1 rfl hl (by decide) rfl (fun ls hl => ?_)
  refine r_const hx hb dX2_countWrong_2 ?_
  refine lv_istore_n (lv' := [(3, .int (iI 1)), (2, .int (iI 0)), (0, .ref (ps 0)), (1, .ref (d 0))]) hx hb dX2_countWrong_3 rfl hl (by decide) rfl (fun ls hl => ?_)
  have lp_4 : ∀ (fu : Nat) (g : Int) (b : Int), (1 ≤ b ∧ (b ≤ cm ∨ b = 1)) → (g = wrS (fun i => pl (pt (or i))) b.toNat) → (cm - b).toNat < fu → ∀ (H : Heap) (locs : List Loc), va_P D vwCl [oP ps cm, ai (cy 0) (ps 1) 24 or, ai (cy 0) (ps 2) 24 sa, ai (cy 0) (ps 3) 10 so, aq (cy 3) (ps 4) 4 (fun ix => ps (5 + ix)), ai (cy 0) (ps 5) 24 g0, ai (cy 0) (ps 6) 24 g1, ai (cy 0) (ps 7) 24 g2, ai (cy 0) (ps 8) 24 g3, ai (cy 0) (ps 9) 4 ht, ai (cy 0) (ps 10) 4 ld, oD d lt mn vs, ai (cy 0) (d 1) 24 pt, ai (cy 0) (d 2) 24 tk, ai (cy 0) (d 3) 24 mr, ai (cy 0) (d 4) 10 od, ai (cy 0) (d 5) 10 pl, ai (cy 0) (d 6) 4 rm, ai (cy 0) (d 7) 10 cd] H → va_D A [oP ps cm, ai (cy 0) (ps 1) 24 or, ai (cy 0) (ps 2) 24 sa, ai (cy 0) (ps 3) 10 so, aq (cy 3) (ps 4) 4 (fun ix => ps (5 + ix)), ai (cy 0) (ps 5) 24 g0, ai (cy 0) (ps 6) 24 g1, ai (cy 0) (ps 7) 24 g2, ai (cy 0) (ps 8) 24 g3, ai (cy 0) (ps 9) 4 ht, ai (cy 0) (ps 10) 4 ld, oD d lt mn vs, ai (cy 0) (d 1) 24 pt, ai (cy 0) (d 2) 24 tk, ai (cy 0) (d 3) 24 mr, ai (cy 0) (d 4) 10 od, ai (cy 0) (d 5) 10 pl, ai (cy 0) (d 6) 4 rm, ai (cy 0) (d 7) 10 cd] → va_S A s.heap H locs → ∀ (ls : Array Slot), lv_has ls 6 [(0, .ref (ps 0)), (1, .ref (d 0)), (2, .int (iI g)), (3, .int (iI b))] → W p l e rm_X2_countWrong s m args below meth c H locs 0 0 Q (F0 m 4 ls []) := by
    intro fu
    induction fu with
    | zero =>
      intro g b h1 h2 hm
      exact absurd hm (Nat.not_lt_zero _)
    | succ fu ih_4 =>
      intro g b h1 h2 hm H locs hP hD hS ls hl
      refine lv_iload_n hx hb dX2_countWrong_4 rfl (lv_at hl 3 rfl) ?_
      refine lv_aload_n hx hb dX2_countWrong_5 rfl (lv_at hl 0 rfl) ?_
      refine va_get (D := D) (C := RX2) (T := TX2) (N := 7) (ci := 2) (v := .int (iI cm)) hx hb hts iw_X2_countWrong_2 hown hK hP 0 rfl rfl 1 (by decide) (hts _ fl_X2_countWrong_46) (fun _ h9 => h9) rfl dX2_countWrong_6 ?_
      refine r_ge hx hb 76 dX2_countWrong_9 (by decide) ⟨by omega, by omega⟩ ⟨by omega, by omega⟩ (fun c_9 => ?_) (fun c_9 => ?_)
      ·
        refine lv_iload_n hx hb dX2_countWrong_76 rfl (lv_at hl 2 rfl) ?_
        exact hret [0, 1, 2, 3, 4, 5, 6, 7, 8, 9, 10, 11, 12, 13, 14, 15, 16, 17, 18] () dX2_countWrong_77 hP hD hS (by decide) rfl (by rw [h2]; exact wrS_1 (by omega) (by omega))
      ·
        have ho1 := hor b (by omega) (by omega)
        refine lv_aload_n hx hb dX2_countWrong_12 rfl (lv_at hl 1 rfl) ?_
        refine va_getN (D := D) (C := RX1) (T := TX1) (N := 10) (ci := 1) (v := .ref (d 5)) hx hb hts iw_X2_countWrong_1 hown hK hP 11 rfl rfl 5 (by decide) (nfX2_92 hN) (fun _ h9 => h9) rfl dX2_countWrong_13 ?_
        refine lv_aload_n hx hb dX2_countWrong_16 rfl (lv_at hl 1 rfl) ?_
        refine va_getN (D := D) (C := RX1) (T := TX1) (N := 10) (ci := 1) (v := .ref (d 1)) hx hb hts iw_X2_countWrong_1 hown hK hP 11 rfl rfl 1 (by decide) (nfX2_77 hN) (fun _ h9 => h9) rfl dX2_countWrong_17 ?_
        refine lv_aload_n hx hb dX2_countWrong_20 rfl (lv_at hl 0 rfl) ?_
        refine va_get (D := D) (C := RX2) (T := TX2) (N := 7) (ci := 2) (v := .ref (ps 1)) hx hb hts iw_X2_countWrong_2 hown hK hP 0 rfl rfl 0 (by decide) (hts _ fl_X2_countWrong_9) (fun _ h9 => h9) rfl dX2_countWrong_21 ?_
        refine lv_iload_n hx hb dX2_countWrong_24 rfl (lv_at hl 3 rfl) ?_
        refine r_ald hx hb hK hP 1 rfl rfl ⟨by omega, by omega, by omega⟩ dX2_countWrong_25 ?_
        refine r_ald hx hb hK hP 12 rfl rfl ⟨by omega, by omega, by omega⟩ dX2_countWrong_26 ?_
        have b_26 := hpt (or b)
        refine r_ald hx hb hK hP 16 rfl rfl ⟨by omega, by omega, by omega⟩ dX2_countWrong_27 ?_
        have b_27 := hpl (pt (or b))
        refine lv_istore (lv' := [(4, .int (iI (pl (pt (or b))))), (0, .ref (ps 0)), (1, .ref (d 0)), (2, .int (iI g)), (3, .int (iI b))]) hx hb dX2_countWrong_28 hl (by decide) rfl (fun ls hl => ?_)
        refine r_const hx hb dX2_countWrong_30 ?_
        refine lv_istore (lv' := [(5, .int (iI 0)), (4, .int (iI (pl (pt (or b))))), (0, .ref (ps 0)), (1, .ref (d 0)), (2, .int (iI g)), (3, .int (iI b))]) hx hb dX2_countWrong_31 hl (by decide) rfl (fun ls hl => ?_)
        have lp_33 : ∀ (fu : Nat) (ge : Int) (i : Int), (0 ≤ i ∧ i ≤ b) → (ge = g + sumTo (fun i => if (fun i => pl (pt (or i))) b < (fun i => pl (pt (or i))) i then 1 else 0) i.toNat) → (b - i).toNat < fu → ∀ (H : Heap) (locs : List Loc), va_P D vwCl [oP ps cm, ai (cy 0) (ps 1) 24 or, ai (cy 0) (ps 2) 24 sa, ai (cy 0) (ps 3) 10 so, aq (cy 3) (ps 4) 4 (fun ix => ps (5 + ix)), ai (cy 0) (ps 5) 24 g0, ai (cy 0) (ps 6) 24 g1, ai (cy 0) (ps 7) 24 g2, ai (cy 0) (ps 8) 24 g3, ai (cy 0) (ps 9) 4 ht, ai (cy 0) (ps 10) 4 ld, oD d lt mn vs, ai (cy 0) (d 1) 24 pt, ai (cy 0) (d 2) 24 tk, ai (cy 0) (d 3) 24 mr, ai (cy 0) (d 4) 10 od, ai (cy 0) (d 5) 10 pl, ai (cy 0) (d 6) 4 rm, ai (cy 0) (d 7) 10 cd] H → va_D A [oP ps cm, ai (cy 0) (ps 1) 24 or, ai (cy 0) (ps 2) 24 sa, ai (cy 0) (ps 3) 10 so, aq (cy 3) (ps 4) 4 (fun ix => ps (5 + ix)), ai (cy 0) (ps 5) 24 g0, ai (cy 0) (ps 6) 24 g1, ai (cy 0) (ps 7) 24 g2, ai (cy 0) (ps 8) 24 g3, ai (cy 0) (ps 9) 4 ht, ai (cy 0) (ps 10) 4 ld, oD d lt mn vs, ai (cy 0) (d 1) 24 pt, ai (cy 0) (d 2) 24 tk, ai (cy 0) (d 3) 24 mr, ai (cy 0) (d 4) 10 od, ai (cy 0) (d 5) 10 pl, ai (cy 0) (d 6) 4 rm, ai (cy 0) (d 7) 10 cd] → va_S A s.heap H locs → ∀ (ls : Array Slot), lv_has ls 6 [(0, .ref (ps 0)), (1, .ref (d 0)), (2, .int (iI ge)), (3, .int (iI b)), (4, .int (iI (pl (pt (or b))))), (5, .int (iI i))] → W p l e rm_X2_countWrong s m args below meth c H locs 0 0 Q (F0 m 33 ls []) := by
          intro fu
          induction fu with
          | zero =>
            intro ge i h3 h4 hm
            exact absurd hm (Nat.not_lt_zero _)
          | succ fu ih_33 =>
            intro ge i h3 h4 hm H locs hP hD hS ls hl
            refine lv_iload hx hb dX2_countWrong_33 (lv_at hl 5 rfl) ?_
            refine lv_iload_n hx hb dX2_countWrong_35 rfl (lv_at hl 3 rfl) ?_
            refine r_ge hx hb 70 dX2_countWrong_36 (by decide) ⟨by omega, by omega⟩ ⟨by omega, by omega⟩ (fun c_36 => ?_) (fun c_36 => ?_)
            ·
              refine r_inc (k := 3) (lv' := [(3, .int (iI (b + 1))), (0, .ref (ps 0)), (1, .ref (d 0)), (2, .int (iI ge)), (4, .int (iI (pl (pt (or b))))), (5, .int (iI i))]) hx hb dX2_countWrong_70 hl rfl (by decide) rfl (fun ls hl => ?_)
              refine lv_goto (tgt := 4) hx hb dX2_countWrong_73 (by decide) ?_
              exact ih_4 ge (b + 1) (by omega) (by rw [h4, wrS_s (by omega), ← h2, show i = b by omega]) (by omega) H locs (pick_P hP (is := [0, 1, 2, 3, 4, 5, 6, 7, 8, 9, 10, 11, 12, 13, 14, 15, 16, 17, 18]) rfl) (hD.sub [0, 1, 2, 3, 4, 5, 6, 7, 8, 9, 10, 11, 12, 13, 14, 15, 16, 17, 18] (by decide) rfl) hS ls (lv_sub hl [1, 2, 3, 0] rfl)
            ·
              refine lv_iload hx hb dX2_countWrong_39 (lv_at hl 4 rfl) ?_
              have ho2 := hor i (by omega) (by omega)
              refine lv_aload_n hx hb dX2_countWrong_41 rfl (lv_at hl 1 rfl) ?_
              refine va_getN (D := D) (C := RX1) (T := TX1) (N := 10) (ci := 1) (v := .ref (d 5)) hx hb hts iw_X2_countWrong_1 hown hK hP 11 rfl rfl 5 (by decide) (nfX2_92 hN) (fun _ h9 => h9) rfl dX2_countWrong_42 ?_
              refine lv_aload_n hx hb dX2_countWrong_45 rfl (lv_at hl 1 rfl) ?_
              refine va_getN (D := D) (C := RX1) (T := TX1) (N := 10) (ci := 1) (v := .ref (d 1)) hx hb hts iw_X2_countWrong_1 hown hK hP 11 rfl rfl 1 (by decide) (nfX2_77 hN) (fun _ h9 => h9) rfl dX2_countWrong_46 ?_
              refine lv_aload_n hx hb dX2_countWrong_49 rfl (lv_at hl 0 rfl) ?_
              refine va_get (D := D) (C := RX2) (T := TX2) (N := 7) (ci := 2) (v := .ref (ps 1)) hx hb hts iw_X2_countWrong_2 hown hK hP 0 rfl rfl 0 (by decide) (hts _ fl_X2_countWrong_9) (fun _ h9 => h9) rfl dX2_countWrong_50 ?_
              refine lv_iload hx hb dX2_countWrong_53 (lv_at hl 5 rfl) ?_
              refine r_ald hx hb hK hP 1 rfl rfl ⟨by omega, by omega, by omega⟩ dX2_countWrong_55 ?_
              refine r_ald hx hb hK hP 12 rfl rfl ⟨by omega, by omega, by omega⟩ dX2_countWrong_56 ?_
              have b_56 := hpt (or i)
              refine r_ald hx hb hK hP 16 rfl rfl ⟨by omega, by omega, by omega⟩ dX2_countWrong_57 ?_
              have b_57 := hpl (pt (or i))
              refine r_ge hx hb 64 dX2_countWrong_58 (by decide) ⟨by omega, by omega⟩ ⟨by omega, by omega⟩ (fun c_58 => ?_) (fun c_58 => ?_)
              ·
                refine r_inc (k := 5) (lv' := [(5, .int (iI (i + 1))), (0, .ref (ps 0)), (1, .ref (d 0)), (2, .int (iI ge)), (3, .int (iI b)), (4, .int (iI (pl (pt (or b)))))]) hx hb dX2_countWrong_64 hl rfl (by decide) rfl (fun ls hl => ?_)
                refine lv_goto (tgt := 33) hx hb dX2_countWrong_67 (by decide) ?_
                exact ih_33 ge (i + 1) (by omega) (by rw [sumTo_s h3.1, h4]; first | (rw [if_pos (by show pl (pt (or b)) < pl (pt (or i)); omega)]; omega) | (rw [if_neg (by show ¬ pl (pt (or b)) < pl (pt (or i)); omega)]; omega)) (by omega) H locs (pick_P hP (is := [0, 1, 2, 3, 4, 5, 6, 7, 8, 9, 10, 11, 12, 13, 14, 15, 16, 17, 18]) rfl) (hD.sub [0, 1, 2, 3, 4, 5, 6, 7, 8, 9, 10, 11, 12, 13, 14, 15, 16, 17, 18] (by decide) rfl) hS ls (lv_sub hl [1, 2, 3, 4, 5, 0] rfl)
              ·
                refine r_inc (k := 2) (lv' := [(2, .int (iI (ge + 1))), (0, .ref (ps 0)), (1, .ref (d 0)), (3, .int (iI b)), (4, .int (iI (pl (pt (or b))))), (5, .int (iI i))]) hx hb dX2_countWrong_61 hl rfl (by decide) rfl (fun ls hl => ?_)
                refine r_inc (k := 5) (lv' := [(5, .int (iI (i + 1))), (2, .int (iI (ge + 1))), (0, .ref (ps 0)), (1, .ref (d 0)), (3, .int (iI b)), (4, .int (iI (pl (pt (or b)))))]) hx hb dX2_countWrong_64 hl rfl (by decide) rfl (fun ls hl => ?_)
                refine lv_goto (tgt := 33) hx hb dX2_countWrong_67 (by decide) ?_
                exact ih_33 (ge + 1) (i + 1) (by omega) (by rw [sumTo_s h3.1, h4]; first | (rw [if_pos (by show pl (pt (or b)) < pl (pt (or i)); omega)]; omega) | (rw [if_neg (by show ¬ pl (pt (or b)) < pl (pt (or i)); omega)]; omega)) (by omega) H locs (pick_P hP (is := [0, 1, 2, 3, 4, 5, 6, 7, 8, 9, 10, 11, 12, 13, 14, 15, 16, 17, 18]) rfl) (hD.sub [0, 1, 2, 3, 4, 5, 6, 7, 8, 9, 10, 11, 12, 13, 14, 15, 16, 17, 18] (by decide) rfl) hS ls (lv_sub hl [2, 3, 1, 4, 5, 0] rfl)
        exact lp_33 _ g 0 (by omega) (by show g = g + 0; omega) (Nat.lt_succ_self _) H locs (pick_P hP (is := [0, 1, 2, 3, 4, 5, 6, 7, 8, 9, 10, 11, 12, 13, 14, 15, 16, 17, 18]) rfl) (hD.sub [0, 1, 2, 3, 4, 5, 6, 7, 8, 9, 10, 11, 12, 13, 14, 15, 16, 17, 18] (by decide) rfl) hS ls (lv_sub hl [2, 3, 4, 5, 1, 0] rfl)
  exact lp_4 _ 0 1 (by omega) (rfl) (Nat.lt_succ_self _) H locs (pick_P hP (is := [0, 1, 2, 3, 4, 5, 6, 7, 8, 9, 10, 11, 12, 13, 14, 15, 16, 17, 18]) rfl) (hD.sub [0, 1, 2, 3, 4, 5, 6, 7, 8, 9, 10, 11, 12, 13, 14, 15, 16, 17, 18] (by decide) rfl) hS ls (lv_sub hl [2, 3, 1, 0] rfl)
abbrev rm_X2_countSpilledUpTo : Room := { frames := 2, cells := 0, slots := 0, locals := 62 }
theorem fl_X2_countSpilledUpTo_46 : Cond.fieldLink RX2 46 "WalkPasses$Passes" "coming" "I" ∈ wsX2_countSpilledUpTo := by decide +kernel
theorem iw_X2_countSpilledUpTo_1 : ∀ w ∈ u_ws RX1 TX1 10, w ∈ wsX2_countSpilledUpTo := by decide +kernel
theorem iw_X2_countSpilledUpTo_2 : ∀ w ∈ u_ws RX2 TX2 7, w ∈ wsX2_countSpilledUpTo := by decide +kernel
set_option maxHeartbeats 4000000 in
set_option maxRecDepth 100000 in
theorem k_X2_countSpilledUpTo (l : Launch) (D : va_G) (cy : Nat → ClassId) (ps d : Nat → Nat) (a : Nat) (z : Nat) (cm : Int) (or sa so g0 g1 g2 g3 ht ld : Int → Int) (lt mn vs : Int) (pt tk mr od pl rm cd : Int → Int) (cx : Int → Int) (k mo : Int) (hI : DI lt mn pt tk mr od pl rm cd) (hk : 1 ≤ k ∧ k ≤ 3) (hmo : 0 ≤ mo ∧ mo ≤ 100) (hcx : ∀ j, 0 ≤ cx j ∧ cx j ≤ 63) : CtI l yX2_countSpilledUpTo wsX2_countSpilledUpTo rm_X2_countSpilledUpTo D (tyL cy) [.ref (ps 0), .ref (d 0), .ref (a), .int (iI k), .int (iI mo)] [oP ps cm, ai (cy 0) (ps 1) 24 or, ai (cy 0) (ps 2) 24 sa, ai (cy 0) (ps 3) 10 so, aq (cy 3) (ps 4) 4 (fun ix => ps (5 + ix)), ai (cy 0) (ps 5) 24 g0, ai (cy 0) (ps 6) 24 g1, ai (cy 0) (ps 7) 24 g2, ai (cy 0) (ps 8) 24 g3, ai (cy 0) (ps 9) 4 ht, ai (cy 0) (ps 10) 4 ld, oD d lt mn vs, ai (cy 0) (d 1) 24 pt, ai (cy 0) (d 2) 24 tk, ai (cy 0) (d 3) 24 mr, ai (cy 0) (d 4) 10 od, ai (cy 0) (d 5) 10 pl, ai (cy 0) (d 6) 4 rm, ai (cy 0) (d 7) 10 cd, ai (cy 0) a 10 cx] z (fun (r : Int) (u : Int × (Int → Int) × (Int → Int) × (Int → Int) × (Int → Int) × (Int → Int) × (Int → Int) × (Int → Int) × (Int → Int) × (Int → Int)) => (lt - ((rnS lt mn pt tk mr rm cx k.toNat).1.length : Int) ≤ mo → r = lt - ((rnS lt mn pt tk mr rm cx k.toNat).1.length : Int) ∧ RnP lt mn pt tk mr rm cx k.toNat u.1 u.2.1 u.2.2.1 u.2.2.2.2.2.2.2.2.2) ∧ (mo < lt - ((rnS lt mn pt tk mr rm cx k.toNat).1.length : Int) → mo < r ∧ r ≤ 24)) (fun (u : Int × (Int → Int) × (Int → Int) × (Int → Int) × (Int → Int) × (Int → Int) × (Int → Int) × (Int → Int) × (Int → Int) × (Int → Int)) => [oP ps u.1, ai (cy 0) (ps 1) 24 u.2.1, ai (cy 0) (ps 2) 24 u.2.2.1, ai (cy 0) (ps 3) 10 u.2.2.2.1, aq (cy 3) (ps 4) 4 (fun ix => ps (5 + ix)), ai (cy 0) (ps 5) 24 u.2.2.2.2.1, ai (cy 0) (ps 6) 24 u.2.2.2.2.2.1, ai (cy 0) (ps 7) 24 u.2.2.2.2.2.2.1, ai (cy 0) (ps 8) 24 u.2.2.2.2.2.2.2.1, ai (cy 0) (ps 9) 4 u.2.2.2.2.2.2.2.2.1, ai (cy 0) (ps 10) 4 u.2.2.2.2.2.2.2.2.2, oD d lt mn vs, ai (cy 0) (d 1) 24 pt, ai (cy 0) (d 2) 24 tk, ai (cy 0) (d 3) 24 mr, ai (cy 0) (d 4) 10 od, ai (cy 0) (d 5) 10 pl, ai (cy 0) (d 6) 4 rm, ai (cy 0) (d 7) 10 cd, ai (cy 0) a 10 cx]) 0 0 := by
  refine ct_i (cc := cX2_countSpilledUpTo) (maxL := 7) (by decide) rfl (Nat.le_of_ble_eq_true rfl) ?_
  intro p e s m args below meth c A Q H locs ls hx hb hml hown hin hts hK hN hP hD hS hA hl hret
  replace hl : lv_has ls 7 [(0, .ref (ps 0)), (1, .ref (d 0)), (2, .ref (a)), (3, .int (iI k)), (4, .int (iI mo))] := hl
  replace hown : s.vm.findClass RX2 = some m.cls := hown
  obtain ⟨⟨⟨hlt0, hlt1⟩, hmn0, hmn1⟩, ⟨hpt, htk, hmr⟩, ⟨hod, hpl, hpo, hop⟩, hrm, hcd⟩ := id hI
  refine lv_aload_n hx hb dX2_countSpilledUpTo_0 rfl (lv_at hl 0 rfl) ?_
  refine lv_aload_n hx hb dX2_countSpilledUpTo_1 rfl (lv_at hl 1 rfl) ?_
  have M_2 := k_X2_begin l D cy ps d H.size cm or sa so g0 g1 g2 g3 ht ld lt mn vs pt tk mr od pl rm cd (hI)
  refine kV_v (wr := [ai (cy 0) a 10 cx]) (As := [.ref (d 0)]) (rest := []) (q := (RX2, TX2, 7)) (ci := 2) ⟨hx, hb, hml, hown, hts⟩ M_2 0 rfl rfl (cwV 1 hts gX2_countSpilledUpTo_X2_begin rfl rfl rfl (by decide +kernel) ⟨Nat.le_of_ble_eq_true rfl, Nat.le_of_ble_eq_true rfl⟩) hN hK hP hD hS hA [0, 1, 2, 3, 4, 5, 6, 7, 8, 9, 10, 11, 12, 13, 14, 15, 16, 17, 18] [19] rfl rfl (by decide) (by decide) (by decide) rfl hl.1 rfl (Nat.le_of_ble_eq_true rfl) dX2_countSpilledUpTo_2 ⟨Nat.le_of_ble_eq_true rfl, Nat.le_of_ble_eq_true rfl⟩ (fun u_2 H locs hw_2 hP hD hS => ?_)
  obtain ⟨v_1, v_2, v_3⟩ := u_2
  try dsimp only at hw_2
  replace hP : va_P D vwCl [ai (cy 0) a 10 cx, oP ps v_1, ai (cy 0) (ps 1) 24 v_2, ai (cy 0) (ps 2) 24 v_3, ai (cy 0) (ps 3) 10 so, aq (cy 3) (ps 4) 4 (fun ix => ps (5 + ix)), ai (cy 0) (ps 5) 24 g0, ai (cy 0) (ps 6) 24 g1, ai (cy 0) (ps 7) 24 g2, ai (cy 0) (ps 8) 24 g3, ai (cy 0) (ps 9) 4 ht, ai (cy 0) (ps 10) 4 ld, oD d lt mn vs, ai (cy 0) (d 1) 24 pt, ai (cy 0) (d 2) 24 tk, ai (cy 0) (d 3) 24 mr, ai (cy 0) (d 4) 10 od, ai (cy 0) (d 5) 10 pl, ai (cy 0) (d 6) 4 rm, ai (cy 0) (d 7) 10 cd] H := hP
  replace hD : va_D A [ai (cy 0) a 10 cx, oP ps v_1, ai (cy 0) (ps 1) 24 v_2, ai (cy 0) (ps 2) 24 v_3, ai (cy 0) (ps 3) 10 so, aq (cy 3) (ps 4) 4 (fun ix => ps (5 + ix)), ai (cy 0) (ps 5) 24 g0, ai (cy 0) (ps 6) 24 g1, ai (cy 0) (ps 7) 24 g2, ai (cy 0) (ps 8) 24 g3, ai (cy 0) (ps 9) 4 ht, ai (cy 0) (ps 10) 4 ld, oD d lt mn vs, ai (cy 0) (d 1) 24 pt, ai (cy 0) (d 2) 24 tk, ai (cy 0) (d 3) 24 mr, ai (cy 0) (d 4) 10 od, ai (cy 0) (d 5) 10 pl, ai (cy 0) (d 6) 4 rm, ai (cy 0) (d 7) 10 cd] := hD
  refine r_const hx hb dX2_countSpilledUpTo_5 ?_
  refine lv_istore (lv' := [(5, .int (iI 1)), (0, .ref (ps 0)), (1, .ref (d 0)), (2, .ref (a)), (3, .int (iI k)), (4, .int (iI mo))]) hx hb dX2_countSpilledUpTo_6 hl (by decide) rfl (fun ls hl => ?_)
  refine r_const hx hb dX2_countSpilledUpTo_8 ?_
  refine lv_istore (lv' := [(6, .int (iI 1)), (5, .int (iI 1)), (0, .ref (ps 0)), (1, .ref (d 0)), (2, .ref (a)), (3, .int (iI k)), (4, .int (iI mo))]) hx hb dX2_countSpilledUpTo_9 hl (by decide) rfl (fun ls hl => ?_)
  have lp_11 : ∀ (fu : Nat) (un : Int) (j : Int) (cn : Int) (B : Int → Int) (SA : Int → Int) (SO : Int → Int) (A0 : Int → Int) (A1 : Int → Int) (A2 : Int → Int) (A3 : Int → Int) (HT : Int → Int) (LD : Int → Int), (1 ≤ j ∧ j ≤ k + 1) → (un = pw mn (j - 1).toNat) → (RnP lt mn pt tk mr rm cx (j - 1).toNat cn B SA LD) → (k + 1 - j).toNat < fu → ∀ (H : Heap) (locs : List Loc), va_P D vwCl [ai (cy 0) a 10 cx, oP ps cn, ai (cy 0) (ps 1) 24 B, ai (cy 0) (ps 2) 24 SA, ai (cy 0) (ps 3) 10 SO, aq (cy 3) (ps 4) 4 (fun ix => ps (5 + ix)), ai (cy 0) (ps 5) 24 A0, ai (cy 0) (ps 6) 24 A1, ai (cy 0) (ps 7) 24 A2, ai (cy 0) (ps 8) 24 A3, ai (cy 0) (ps 9) 4 HT, ai (cy 0) (ps 10) 4 LD, oD d lt mn vs, ai (cy 0) (d 1) 24 pt, ai (cy 0) (d 2) 24 tk, ai (cy 0) (d 3) 24 mr, ai (cy 0) (d 4) 10 od, ai (cy 0) (d 5) 10 pl, ai (cy 0) (d 6) 4 rm, ai (cy 0) (d 7) 10 cd] H → va_D A [ai (cy 0) a 10 cx, oP ps cn, ai (cy 0) (ps 1) 24 B, ai (cy 0) (ps 2) 24 SA, ai (cy 0) (ps 3) 10 SO, aq (cy 3) (ps 4) 4 (fun ix => ps (5 + ix)), ai (cy 0) (ps 5) 24 A0, ai (cy 0) (ps 6) 24 A1, ai (cy 0) (ps 7) 24 A2, ai (cy 0) (ps 8) 24 A3, ai (cy 0) (ps 9) 4 HT, ai (cy 0) (ps 10) 4 LD, oD d lt mn vs, ai (cy 0) (d 1) 24 pt, ai (cy 0) (d 2) 24 tk, ai (cy 0) (d 3) 24 mr, ai (cy 0) (d 4) 10 od, ai (cy 0) (d 5) 10 pl, ai (cy 0) (d 6) 4 rm, ai (cy 0) (d 7) 10 cd] → va_S A s.heap H locs → ∀ (ls : Array Slot), lv_has ls 7 [(0, .ref (ps 0)), (1, .ref (d 0)), (2, .ref (a)), (3, .int (iI k)), (4, .int (iI mo)), (5, .int (iI un)), (6, .int (iI j))] → W p l e rm_X2_countSpilledUpTo s m args below meth c H locs 0 0 Q (F0 m 11 ls []) := by
    intro fu
    induction fu with
    | zero =>
      intro un j cn B SA SO A0 A1 A2 A3 HT LD h1 h2 hp hm
      exact absurd hm (Nat.not_lt_zero _)
    | succ fu ih_11 =>
      intro un j cn B SA SO A0 A1 A2 A3 HT LD h1 h2 hp hm H locs hP hD hS ls hl
      have hcn := RnP_cm hp
      have hrl := rn_len lt mn pt tk mr rm cx hlt0 (j - 1).toNat
      have hub := pw_b hmn0 hmn1 (n := (j - 1).toNat) (by omega)
      refine lv_iload hx hb dX2_countSpilledUpTo_11 (lv_at hl 6 rfl) ?_
      refine lv_iload_n hx hb dX2_countSpilledUpTo_13 rfl (lv_at hl 3 rfl) ?_
      refine r_gt hx hb 72 dX2_countSpilledUpTo_14 (by decide) ⟨by omega, by omega⟩ ⟨by omega, by omega⟩ (fun c_14 => ?_) (fun c_14 => ?_)
      ·
        refine lv_aload_n hx hb dX2_countSpilledUpTo_72 rfl (lv_at hl 1 rfl) ?_
        refine va_getN (D := D) (C := RX1) (T := TX1) (N := 10) (ci := 1) (v := .int (iI lt)) hx hb hts iw_X2_countSpilledUpTo_1 hown hK hP 12 rfl rfl 0 (by decide) (nfX2_40 hN) (fun _ h9 => h9) rfl dX2_countSpilledUpTo_73 ?_
        refine lv_aload_n hx hb dX2_countSpilledUpTo_76 rfl (lv_at hl 0 rfl) ?_
        refine va_get (D := D) (C := RX2) (T := TX2) (N := 7) (ci := 2) (v := .int (iI cn)) hx hb hts iw_X2_countSpilledUpTo_2 hown hK hP 1 rfl rfl 1 (by decide) (hts _ fl_X2_countSpilledUpTo_46) (fun _ h9 => h9) rfl dX2_countSpilledUpTo_77 ?_
        refine r_sub hx hb dX2_countSpilledUpTo_80 ?_
        have hcn2 := rn_len lt mn pt tk mr rm cx hlt0 k.toNat
        exact hret [1, 2, 3, 4, 5, 6, 7, 8, 9, 10, 11, 12, 13, 14, 15, 16, 17, 18, 19, 0] (cn, B, SA, SO, A0, A1, A2, A3, HT, LD) dX2_countSpilledUpTo_81 hP hD hS (by decide) rfl (by first | (rw [show k.toNat = (j - 1).toNat by omega]; exact ⟨fun _ => ⟨by omega, hp⟩, fun q => by omega⟩) | (have hmm := rn_mono lt mn pt tk mr rm cx (j - 1).toNat (k.toNat - (j - 1).toNat); rw [show (j - 1).toNat + (k.toNat - (j - 1).toNat) = k.toNat by omega] at hmm; exact ⟨fun q => by omega, fun q => by omega⟩))
      ·
        refine lv_aload_n hx hb dX2_countSpilledUpTo_17 rfl (lv_at hl 1 rfl) ?_
        refine va_getN (D := D) (C := RX1) (T := TX1) (N := 10) (ci := 1) (v := .int (iI lt)) hx hb hts iw_X2_countSpilledUpTo_1 hown hK hP 12 rfl rfl 0 (by decide) (nfX2_40 hN) (fun _ h9 => h9) rfl dX2_countSpilledUpTo_18 ?_
        refine lv_aload_n hx hb dX2_countSpilledUpTo_21 rfl (lv_at hl 0 rfl) ?_
        refine va_get (D := D) (C := RX2) (T := TX2) (N := 7) (ci := 2) (v := .int (iI cn)) hx hb hts iw_X2_countSpilledUpTo_2 hown hK hP 1 rfl rfl 1 (by decide) (hts _ fl_X2_countSpilledUpTo_46) (fun _ h9 => h9) rfl dX2_countSpilledUpTo_22 ?_
        refine r_sub hx hb dX2_countSpilledUpTo_25 ?_
        refine lv_iload hx hb dX2_countSpilledUpTo_26 (lv_at hl 4 rfl) ?_
        refine r_gt hx hb 72 dX2_countSpilledUpTo_28 (by decide) ⟨by omega, by omega⟩ ⟨by omega, by omega⟩ (fun c_28 => ?_) (fun c_28 => ?_)
        ·
          refine lv_aload_n hx hb dX2_countSpilledUpTo_72 rfl (lv_at hl 1 rfl) ?_
          refine va_getN (D := D) (C := RX1) (T := TX1) (N := 10) (ci := 1) (v := .int (iI lt)) hx hb hts iw_X2_countSpilledUpTo_1 hown hK hP 12 rfl rfl 0 (by decide) (nfX2_40 hN) (fun _ h9 => h9) rfl dX2_countSpilledUpTo_73 ?_
          refine lv_aload_n hx hb dX2_countSpilledUpTo_76 rfl (lv_at hl 0 rfl) ?_
          refine va_get (D := D) (C := RX2) (T := TX2) (N := 7) (ci := 2) (v := .int (iI cn)) hx hb hts iw_X2_countSpilledUpTo_2 hown hK hP 1 rfl rfl 1 (by decide) (hts _ fl_X2_countSpilledUpTo_46) (fun _ h9 => h9) rfl dX2_countSpilledUpTo_77 ?_
          refine r_sub hx hb dX2_countSpilledUpTo_80 ?_
          have hcn2 := rn_len lt mn pt tk mr rm cx hlt0 k.toNat
          exact hret [1, 2, 3, 4, 5, 6, 7, 8, 9, 10, 11, 12, 13, 14, 15, 16, 17, 18, 19, 0] (cn, B, SA, SO, A0, A1, A2, A3, HT, LD) dX2_countSpilledUpTo_81 hP hD hS (by decide) rfl (by first | (rw [show k.toNat = (j - 1).toNat by omega]; exact ⟨fun _ => ⟨by omega, hp⟩, fun q => by omega⟩) | (have hmm := rn_mono lt mn pt tk mr rm cx (j - 1).toNat (k.toNat - (j - 1).toNat); rw [show (j - 1).toNat + (k.toNat - (j - 1).toNat) = k.toNat by omega] at hmm; exact ⟨fun q => by omega, fun q => by omega⟩))
        ·
          refine lv_aload_n hx hb dX2_countSpilledUpTo_31 rfl (lv_at hl 0 rfl) ?_
          refine lv_aload_n hx hb dX2_countSpilledUpTo_32 rfl (lv_at hl 2 rfl) ?_
          refine lv_iload hx hb dX2_countSpilledUpTo_33 (lv_at hl 5 rfl) ?_
          refine lv_aload_n hx hb dX2_countSpilledUpTo_35 rfl (lv_at hl 1 rfl) ?_
          refine va_getN (D := D) (C := RX1) (T := TX1) (N := 10) (ci := 1) (v := .int (iI mn)) hx hb hts iw_X2_countSpilledUpTo_1 hown hK hP 12 rfl rfl 6 (by decide) (nfX2_49 hN) (fun _ h9 => h9) rfl dX2_countSpilledUpTo_36 ?_
          have M_39 := k_X2_aim l D cy ps a H.size cn B SA SO A0 A1 A2 A3 HT LD cx un mn (hcx) (by omega) (⟨hmn0, hmn1⟩)
          refine kV_v (wr := [oD d lt mn vs, ai (cy 0) (d 1) 24 pt, ai (cy 0) (d 2) 24 tk, ai (cy 0) (d 3) 24 mr, ai (cy 0) (d 4) 10 od, ai (cy 0) (d 5) 10 pl, ai (cy 0) (d 6) 4 rm, ai (cy 0) (d 7) 10 cd]) (As := [.ref (a), .int (iI un), .int (iI mn)]) (rest := []) (q := (RX2, TX2, 7)) (ci := 2) ⟨hx, hb, hml, hown, hts⟩ M_39 1 rfl rfl (cwV 3 hts gX2_countSpilledUpTo_X2_aim rfl rfl rfl (by decide +kernel) ⟨Nat.le_of_ble_eq_true rfl, Nat.le_of_ble_eq_true rfl⟩) hN hK hP hD hS hA [1, 2, 3, 4, 5, 6, 7, 8, 9, 10, 11, 0] [12, 13, 14, 15, 16, 17, 18, 19] rfl rfl (by decide) (by decide) (by decide) rfl hl.1 rfl (Nat.le_of_ble_eq_true rfl) dX2_countSpilledUpTo_39 ⟨Nat.le_of_ble_eq_true rfl, Nat.le_of_ble_eq_true rfl⟩ (fun u_39 H locs hw_39 hP hD hS => ?_)
          obtain ⟨so1, rfl⟩ : ∃ z, z = u_39 := ⟨_, rfl⟩
          try dsimp only at hw_39
          replace hP : va_P D vwCl [oD d lt mn vs, ai (cy 0) (d 1) 24 pt, ai (cy 0) (d 2) 24 tk, ai (cy 0) (d 3) 24 mr, ai (cy 0) (d 4) 10 od, ai (cy 0) (d 5) 10 pl, ai (cy 0) (d 6) 4 rm, ai (cy 0) (d 7) 10 cd, oP ps cn, ai (cy 0) (ps 1) 24 B, ai (cy 0) (ps 2) 24 SA, ai (cy 0) (ps 3) 10 so1, aq (cy 3) (ps 4) 4 (fun ix => ps (5 + ix)), ai (cy 0) (ps 5) 24 A0, ai (cy 0) (ps 6) 24 A1, ai (cy 0) (ps 7) 24 A2, ai (cy 0) (ps 8) 24 A3, ai (cy 0) (ps 9) 4 HT, ai (cy 0) (ps 10) 4 LD, ai (cy 0) a 10 cx] H := hP
          replace hD : va_D A [oD d lt mn vs, ai (cy 0) (d 1) 24 pt, ai (cy 0) (d 2) 24 tk, ai (cy 0) (d 3) 24 mr, ai (cy 0) (d 4) 10 od, ai (cy 0) (d 5) 10 pl, ai (cy 0) (d 6) 4 rm, ai (cy 0) (d 7) 10 cd, oP ps cn, ai (cy 0) (ps 1) 24 B, ai (cy 0) (ps 2) 24 SA, ai (cy 0) (ps 3) 10 so1, aq (cy 3) (ps 4) 4 (fun ix => ps (5 + ix)), ai (cy 0) (ps 5) 24 A0, ai (cy 0) (ps 6) 24 A1, ai (cy 0) (ps 7) 24 A2, ai (cy 0) (ps 8) 24 A3, ai (cy 0) (ps 9) 4 HT, ai (cy 0) (ps 10) 4 LD, ai (cy 0) a 10 cx] := hD
          have hst := stk_so (cd := cx) hpt h2 hw_39
          refine lv_aload_n hx hb dX2_countSpilledUpTo_42 rfl (lv_at hl 0 rfl) ?_
          refine lv_aload_n hx hb dX2_countSpilledUpTo_43 rfl (lv_at hl 1 rfl) ?_
          refine lv_iload hx hb dX2_countSpilledUpTo_44 (lv_at hl 6 rfl) ?_
          have M_46 := k_X2_stack l D cy ps d H.size cn B SA so1 A0 A1 A2 A3 HT LD lt mn vs pt tk mr od pl rm cd j (hI) (by omega) (RnP_or hp) (fun q q1 q2 => (hw_39 q q1 q2).2)
          refine kV_v (wr := [ai (cy 0) a 10 cx]) (As := [.ref (d 0), .int (iI j)]) (rest := []) (q := (RX2, TX2, 7)) (ci := 2) ⟨hx, hb, hml, hown, hts⟩ M_46 8 rfl rfl (cwV 2 hts gX2_countSpilledUpTo_X2_stack rfl rfl rfl (by decide +kernel) ⟨Nat.le_of_ble_eq_true rfl, Nat.le_of_ble_eq_true rfl⟩) hN hK hP hD hS hA [8, 9, 10, 11, 12, 13, 14, 15, 16, 17, 18, 0, 1, 2, 3, 4, 5, 6, 7] [19] rfl rfl (by decide) (by decide) (by decide) rfl hl.1 rfl (Nat.le_of_ble_eq_true rfl) dX2_countSpilledUpTo_46 ⟨Nat.le_of_ble_eq_true rfl, Nat.le_of_ble_eq_true rfl⟩ (fun u_46 H locs hw_46 hP hD hS => ?_)
          obtain ⟨v_4, v_5, v_6, v_7, v_8, v_9, v_10⟩ := u_46
          try dsimp only at hw_46
          replace hP : va_P D vwCl [ai (cy 0) a 10 cx, oP ps cn, ai (cy 0) (ps 1) 24 B, ai (cy 0) (ps 2) 24 v_4, ai (cy 0) (ps 3) 10 so1, aq (cy 3) (ps 4) 4 (fun ix => ps (5 + ix)), ai (cy 0) (ps 5) 24 v_5, ai (cy 0) (ps 6) 24 v_6, ai (cy 0) (ps 7) 24 v_7, ai (cy 0) (ps 8) 24 v_8, ai (cy 0) (ps 9) 4 v_9, ai (cy 0) (ps 10) 4 v_10, oD d lt mn vs, ai (cy 0) (d 1) 24 pt, ai (cy 0) (d 2) 24 tk, ai (cy 0) (d 3) 24 mr, ai (cy 0) (d 4) 10 od, ai (cy 0) (d 5) 10 pl, ai (cy 0) (d 6) 4 rm, ai (cy 0) (d 7) 10 cd] H := hP
          replace hD : va_D A [ai (cy 0) a 10 cx, oP ps cn, ai (cy 0) (ps 1) 24 B, ai (cy 0) (ps 2) 24 v_4, ai (cy 0) (ps 3) 10 so1, aq (cy 3) (ps 4) 4 (fun ix => ps (5 + ix)), ai (cy 0) (ps 5) 24 v_5, ai (cy 0) (ps 6) 24 v_6, ai (cy 0) (ps 7) 24 v_7, ai (cy 0) (ps 8) 24 v_8, ai (cy 0) (ps 9) 4 v_9, ai (cy 0) (ps 10) 4 v_10, oD d lt mn vs, ai (cy 0) (d 1) 24 pt, ai (cy 0) (d 2) 24 tk, ai (cy 0) (d 3) 24 mr, ai (cy 0) (d 4) 10 od, ai (cy 0) (d 5) 10 pl, ai (cy 0) (d 6) 4 rm, ai (cy 0) (d 7) 10 cd] := hD
          refine lv_aload_n hx hb dX2_countSpilledUpTo_49 rfl (lv_at hl 0 rfl) ?_
          refine lv_aload_n hx hb dX2_countSpilledUpTo_50 rfl (lv_at hl 1 rfl) ?_
          refine va_getN (D := D) (C := RX1) (T := TX1) (N := 10) (ci := 1) (v := .int (iI mn)) hx hb hts iw_X2_countSpilledUpTo_1 hown hK hP 12 rfl rfl 6 (by decide) (nfX2_49 hN) (fun _ h9 => h9) rfl dX2_countSpilledUpTo_51 ?_
          have M_54 := k_X2_sweep l D cy ps H.size cn B v_4 so1 v_5 v_6 v_7 v_8 v_9 v_10 mn (pil (fun l => so1 (pt l)) (pas (fun l => so1 (pt l)) tk rm (lst B cn.toNat)).2.1) (hw_46.2.2.2) (StkP_h hw_46) (fun s q1 q2 => by have g1 := cat_le (fun l => so1 (pt l)) (pas (fun l => so1 (pt l)) tk rm (lst B cn.toNat)).2.1 s.toNat; have g2 := (pas_inv (fun l => so1 (pt l)) tk rm (lst B cn.toNat)).1; rw [lst_len] at g2; omega) (⟨hmn0, hmn1⟩)
          refine kV_v (wr := [ai (cy 0) a 10 cx, oD d lt mn vs, ai (cy 0) (d 1) 24 pt, ai (cy 0) (d 2) 24 tk, ai (cy 0) (d 3) 24 mr, ai (cy 0) (d 4) 10 od, ai (cy 0) (d 5) 10 pl, ai (cy 0) (d 6) 4 rm, ai (cy 0) (d 7) 10 cd]) (As := [.int (iI mn)]) (rest := []) (q := (RX2, TX2, 7)) (ci := 2) ⟨hx, hb, hml, hown, hts⟩ M_54 1 rfl rfl (cwV 1 hts gX2_countSpilledUpTo_X2_sweep rfl rfl rfl (by decide +kernel) ⟨Nat.le_of_ble_eq_true rfl, Nat.le_of_ble_eq_true rfl⟩) hN hK hP hD hS hA [1, 2, 3, 4, 5, 6, 7, 8, 9, 10, 11] [0, 12, 13, 14, 15, 16, 17, 18, 19] rfl rfl (by decide) (by decide) (by decide) rfl hl.1 rfl (Nat.le_of_ble_eq_true rfl) dX2_countSpilledUpTo_54 ⟨Nat.le_of_ble_eq_true rfl, Nat.le_of_ble_eq_true rfl⟩ (fun u_54 H locs hw_54 hP hD hS => ?_)
          obtain ⟨v_11, v_12⟩ := u_54
          try dsimp only at hw_54
          replace hP : va_P D vwCl [ai (cy 0) a 10 cx, oD d lt mn vs, ai (cy 0) (d 1) 24 pt, ai (cy 0) (d 2) 24 tk, ai (cy 0) (d 3) 24 mr, ai (cy 0) (d 4) 10 od, ai (cy 0) (d 5) 10 pl, ai (cy 0) (d 6) 4 rm, ai (cy 0) (d 7) 10 cd, oP ps v_11, ai (cy 0) (ps 1) 24 v_12, ai (cy 0) (ps 2) 24 v_4, ai (cy 0) (ps 3) 10 so1, aq (cy 3) (ps 4) 4 (fun ix => ps (5 + ix)), ai (cy 0) (ps 5) 24 v_5, ai (cy 0) (ps 6) 24 v_6, ai (cy 0) (ps 7) 24 v_7, ai (cy 0) (ps 8) 24 v_8, ai (cy 0) (ps 9) 4 v_9, ai (cy 0) (ps 10) 4 v_10] H := hP
          replace hD : va_D A [ai (cy 0) a 10 cx, oD d lt mn vs, ai (cy 0) (d 1) 24 pt, ai (cy 0) (d 2) 24 tk, ai (cy 0) (d 3) 24 mr, ai (cy 0) (d 4) 10 od, ai (cy 0) (d 5) 10 pl, ai (cy 0) (d 6) 4 rm, ai (cy 0) (d 7) 10 cd, oP ps v_11, ai (cy 0) (ps 1) 24 v_12, ai (cy 0) (ps 2) 24 v_4, ai (cy 0) (ps 3) 10 so1, aq (cy 3) (ps 4) 4 (fun ix => ps (5 + ix)), ai (cy 0) (ps 5) 24 v_5, ai (cy 0) (ps 6) 24 v_6, ai (cy 0) (ps 7) 24 v_7, ai (cy 0) (ps 8) 24 v_8, ai (cy 0) (ps 9) 4 v_9, ai (cy 0) (ps 10) 4 v_10] := hD
          refine lv_iload hx hb dX2_countSpilledUpTo_57 (lv_at hl 5 rfl) ?_
          refine lv_aload_n hx hb dX2_countSpilledUpTo_59 rfl (lv_at hl 1 rfl) ?_
          refine va_getN (D := D) (C := RX1) (T := TX1) (N := 10) (ci := 1) (v := .int (iI mn)) hx hb hts iw_X2_countSpilledUpTo_1 hown hK hP 1 rfl rfl 6 (by decide) (nfX2_49 hN) (fun _ h9 => h9) rfl dX2_countSpilledUpTo_60 ?_
          refine r_mul hx hb dX2_countSpilledUpTo_63 ?_
          refine lv_istore (lv' := [(5, .int (iI (un * mn))), (0, .ref (ps 0)), (1, .ref (d 0)), (2, .ref (a)), (3, .int (iI k)), (4, .int (iI mo)), (6, .int (iI j))]) hx hb dX2_countSpilledUpTo_64 hl (by decide) rfl (fun ls hl => ?_)
          refine r_inc (k := 6) (lv' := [(6, .int (iI (j + 1))), (5, .int (iI (un * mn))), (0, .ref (ps 0)), (1, .ref (d 0)), (2, .ref (a)), (3, .int (iI k)), (4, .int (iI mo))]) hx hb dX2_countSpilledUpTo_66 hl rfl (by decide) rfl (fun ls hl => ?_)
          refine lv_goto (tgt := 11) hx hb dX2_countSpilledUpTo_69 (by decide) ?_
          exact ih_11 (un * mn) (j + 1) v_11 v_12 v_4 so1 v_5 v_6 v_7 v_8 v_9 v_10 (by omega) (by rw [show (j + 1 - 1).toNat = (j - 1).toNat + 1 by omega, h2]; rfl) (by rw [show (j + 1 - 1).toNat = (j - 1).toNat + 1 by omega]; exact RnP_s hp hst (by omega) hw_46 hw_54) (by omega) H locs (pick_P hP (is := [0, 9, 10, 11, 12, 13, 14, 15, 16, 17, 18, 19, 1, 2, 3, 4, 5, 6, 7, 8]) rfl) (hD.sub [0, 9, 10, 11, 12, 13, 14, 15, 16, 17, 18, 19, 1, 2, 3, 4, 5, 6, 7, 8] (by decide) rfl) hS ls (lv_sub hl [2, 3, 4, 5, 6, 1, 0] rfl)
  exact lp_11 _ 1 1 v_1 v_2 v_3 so g0 g1 g2 g3 ht ld (by omega) (rfl) (⟨hw_2.1, hw_2.2.1, hw_2.2.2, fun q => absurd q (by decide)⟩) (Nat.lt_succ_self _) H locs (pick_P hP (is := [0, 1, 2, 3, 4, 5, 6, 7, 8, 9, 10, 11, 12, 13, 14, 15, 16, 17, 18, 19]) rfl) (hD.sub [0, 1, 2, 3, 4, 5, 6, 7, 8, 9, 10, 11, 12, 13, 14, 15, 16, 17, 18, 19] (by decide) rfl) hS ls (lv_sub hl [2, 3, 4, 5, 6, 1, 0] rfl)
abbrev rm_X2_countSpilledUpTo_o : Room := { frames := 2, cells := 0, slots := 0, locals := 62 }
set_option maxHeartbeats 4000000 in
set_option maxRecDepth 100000 in
theorem k_X2_countSpilledUpTo_o (l : Launch) (D : va_G) (cy : Nat → ClassId) (ps d : Nat → Nat) (z : Nat) (cm : Int) (or sa so g0 g1 g2 g3 ht ld : Int → Int) (lt mn vs : Int) (pt tk mr od pl rm cd : Int → Int) (k mo : Int) (hI : DI lt mn pt tk mr od pl rm cd) (hk : 1 ≤ k ∧ k ≤ 3) (hmo : 0 ≤ mo ∧ mo ≤ 100) : CtI l yX2_countSpilledUpTo wsX2_countSpilledUpTo rm_X2_countSpilledUpTo_o D (tyL cy) [.ref (ps 0), .ref (d 0), .ref (d 7), .int (iI k), .int (iI mo)] [oP ps cm, ai (cy 0) (ps 1) 24 or, ai (cy 0) (ps 2) 24 sa, ai (cy 0) (ps 3) 10 so, aq (cy 3) (ps 4) 4 (fun ix => ps (5 + ix)), ai (cy 0) (ps 5) 24 g0, ai (cy 0) (ps 6) 24 g1, ai (cy 0) (ps 7) 24 g2, ai (cy 0) (ps 8) 24 g3, ai (cy 0) (ps 9) 4 ht, ai (cy 0) (ps 10) 4 ld, oD d lt mn vs, ai (cy 0) (d 1) 24 pt, ai (cy 0) (d 2) 24 tk, ai (cy 0) (d 3) 24 mr, ai (cy 0) (d 4) 10 od, ai (cy 0) (d 5) 10 pl, ai (cy 0) (d 6) 4 rm, ai (cy 0) (d 7) 10 cd] z (fun (r : Int) (u : Int × (Int → Int) × (Int → Int) × (Int → Int) × (Int → Int) × (Int → Int) × (Int → Int) × (Int → Int) × (Int → Int) × (Int → Int)) => (lt - ((rnS lt mn pt tk mr rm cd k.toNat).1.length : Int) ≤ mo → r = lt - ((rnS lt mn pt tk mr rm cd k.toNat).1.length : Int) ∧ RnP lt mn pt tk mr rm cd k.toNat u.1 u.2.1 u.2.2.1 u.2.2.2.2.2.2.2.2.2) ∧ (mo < lt - ((rnS lt mn pt tk mr rm cd k.toNat).1.length : Int) → mo < r ∧ r ≤ 24)) (fun (u : Int × (Int → Int) × (Int → Int) × (Int → Int) × (Int → Int) × (Int → Int) × (Int → Int) × (Int → Int) × (Int → Int) × (Int → Int)) => [oP ps u.1, ai (cy 0) (ps 1) 24 u.2.1, ai (cy 0) (ps 2) 24 u.2.2.1, ai (cy 0) (ps 3) 10 u.2.2.2.1, aq (cy 3) (ps 4) 4 (fun ix => ps (5 + ix)), ai (cy 0) (ps 5) 24 u.2.2.2.2.1, ai (cy 0) (ps 6) 24 u.2.2.2.2.2.1, ai (cy 0) (ps 7) 24 u.2.2.2.2.2.2.1, ai (cy 0) (ps 8) 24 u.2.2.2.2.2.2.2.1, ai (cy 0) (ps 9) 4 u.2.2.2.2.2.2.2.2.1, ai (cy 0) (ps 10) 4 u.2.2.2.2.2.2.2.2.2, oD d lt mn vs, ai (cy 0) (d 1) 24 pt, ai (cy 0) (d 2) 24 tk, ai (cy 0) (d 3) 24 mr, ai (cy 0) (d 4) 10 od, ai (cy 0) (d 5) 10 pl, ai (cy 0) (d 6) 4 rm, ai (cy 0) (d 7) 10 cd]) 0 0 := by
  refine ct_i (cc := cX2_countSpilledUpTo) (maxL := 7) (by decide) rfl (Nat.le_of_ble_eq_true rfl) ?_
  intro p e s m args below meth c A Q H locs ls hx hb hml hown hin hts hK hN hP hD hS hA hl hret
  replace hl : lv_has ls 7 [(0, .ref (ps 0)), (1, .ref (d 0)), (2, .ref (d 7)), (3, .int (iI k)), (4, .int (iI mo))] := hl
  replace hown : s.vm.findClass RX2 = some m.cls := hown
  obtain ⟨⟨⟨hlt0, hlt1⟩, hmn0, hmn1⟩, ⟨hpt, htk, hmr⟩, ⟨hod, hpl, hpo, hop⟩, hrm, hcd⟩ := id hI
  refine lv_aload_n hx hb dX2_countSpilledUpTo_0 rfl (lv_at hl 0 rfl) ?_
  refine lv_aload_n hx hb dX2_countSpilledUpTo_1 rfl (lv_at hl 1 rfl) ?_
  have M_2 := k_X2_begin l D cy ps d H.size cm or sa so g0 g1 g2 g3 ht ld lt mn vs pt tk mr od pl rm cd (hI)
  refine kV_v (wr := []) (As := [.ref (d 0)]) (rest := []) (q := (RX2, TX2, 7)) (ci := 2) ⟨hx, hb, hml, hown, hts⟩ M_2 0 rfl rfl (cwV 1 hts gX2_countSpilledUpTo_X2_begin rfl rfl rfl (by decide +kernel) ⟨Nat.le_of_ble_eq_true rfl, Nat.le_of_ble_eq_true rfl⟩) hN hK hP hD hS hA [0, 1, 2, 3, 4, 5, 6, 7, 8, 9, 10, 11, 12, 13, 14, 15, 16, 17, 18] [] rfl rfl (by decide) (by decide) (by decide) rfl hl.1 rfl (Nat.le_of_ble_eq_true rfl) dX2_countSpilledUpTo_2 ⟨Nat.le_of_ble_eq_true rfl, Nat.le_of_ble_eq_true rfl⟩ (fun u_2 H locs hw_2 hP hD hS => ?_)
  obtain ⟨v_1, v_2, v_3⟩ := u_2
  try dsimp only at hw_2
  replace hP : va_P D vwCl [oP ps v_1, ai (cy 0) (ps 1) 24 v_2, ai (cy 0) (ps 2) 24 v_3, ai (cy 0) (ps 3) 10 so, aq (cy 3) (ps 4) 4 (fun ix => ps (5 + ix)), ai (cy 0) (ps 5) 24 g0, ai (cy 0) (ps 6) 24 g1, ai (cy 0) (ps 7) 24 g2, ai (cy 0) (ps 8) 24 g3, ai (cy 0) (ps 9) 4 ht, ai (cy 0) (ps 10) 4 ld, oD d lt mn vs, ai (cy 0) (d 1) 24 pt, ai (cy 0) (d 2) 24 tk, ai (cy 0) (d 3) 24 mr, ai (cy 0) (d 4) 10 od, ai (cy 0) (d 5) 10 pl, ai (cy 0) (d 6) 4 rm, ai (cy 0) (d 7) 10 cd] H := hP
  replace hD : va_D A [oP ps v_1, ai (cy 0) (ps 1) 24 v_2, ai (cy 0) (ps 2) 24 v_3, ai (cy 0) (ps 3) 10 so, aq (cy 3) (ps 4) 4 (fun ix => ps (5 + ix)), ai (cy 0) (ps 5) 24 g0, ai (cy 0) (ps 6) 24 g1, ai (cy 0) (ps 7) 24 g2, ai (cy 0) (ps 8) 24 g3, ai (cy 0) (ps 9) 4 ht, ai (cy 0) (ps 10) 4 ld, oD d lt mn vs, ai (cy 0) (d 1) 24 pt, ai (cy 0) (d 2) 24 tk, ai (cy 0) (d 3) 24 mr, ai (cy 0) (d 4) 10 od, ai (cy 0) (d 5) 10 pl, ai (cy 0) (d 6) 4 rm, ai (cy 0) (d 7) 10 cd] := hD
  refine r_const hx hb dX2_countSpilledUpTo_5 ?_
  refine lv_istore (lv' := [(5, .int (iI 1)), (0, .ref (ps 0)), (1, .ref (d 0)), (2, .ref (d 7)), (3, .int (iI k)), (4, .int (iI mo))]) hx hb dX2_countSpilledUpTo_6 hl (by decide) rfl (fun ls hl => ?_)
  refine r_const hx hb dX2_countSpilledUpTo_8 ?_
  refine lv_istore (lv' := [(6, .int (iI 1)), (5, .int (iI 1)), (0, .ref (ps 0)), (1, .ref (d 0)), (2, .ref (d 7)), (3, .int (iI k)), (4, .int (iI mo))]) hx hb dX2_countSpilledUpTo_9 hl (by decide) rfl (fun ls hl => ?_)
  have lp_11 : ∀ (fu : Nat) (un : Int) (j : Int) (cn : Int) (B : Int → Int) (SA : Int → Int) (SO : Int → Int) (A0 : Int → Int) (A1 : Int → Int) (A2 : Int → Int) (A3 : Int → Int) (HT : Int → Int) (LD : Int → Int), (1 ≤ j ∧ j ≤ k + 1) → (un = pw mn (j - 1).toNat) → (RnP lt mn pt tk mr rm cd (j - 1).toNat cn B SA LD) → (k + 1 - j).toNat < fu → ∀ (H : Heap) (locs : List Loc), va_P D vwCl [oP ps cn, ai (cy 0) (ps 1) 24 B, ai (cy 0) (ps 2) 24 SA, ai (cy 0) (ps 3) 10 SO, aq (cy 3) (ps 4) 4 (fun ix => ps (5 + ix)), ai (cy 0) (ps 5) 24 A0, ai (cy 0) (ps 6) 24 A1, ai (cy 0) (ps 7) 24 A2, ai (cy 0) (ps 8) 24 A3, ai (cy 0) (ps 9) 4 HT, ai (cy 0) (ps 10) 4 LD, oD d lt mn vs, ai (cy 0) (d 1) 24 pt, ai (cy 0) (d 2) 24 tk, ai (cy 0) (d 3) 24 mr, ai (cy 0) (d 4) 10 od, ai (cy 0) (d 5) 10 pl, ai (cy 0) (d 6) 4 rm, ai (cy 0) (d 7) 10 cd] H → va_D A [oP ps cn, ai (cy 0) (ps 1) 24 B, ai (cy 0) (ps 2) 24 SA, ai (cy 0) (ps 3) 10 SO, aq (cy 3) (ps 4) 4 (fun ix => ps (5 + ix)), ai (cy 0) (ps 5) 24 A0, ai (cy 0) (ps 6) 24 A1, ai (cy 0) (ps 7) 24 A2, ai (cy 0) (ps 8) 24 A3, ai (cy 0) (ps 9) 4 HT, ai (cy 0) (ps 10) 4 LD, oD d lt mn vs, ai (cy 0) (d 1) 24 pt, ai (cy 0) (d 2) 24 tk, ai (cy 0) (d 3) 24 mr, ai (cy 0) (d 4) 10 od, ai (cy 0) (d 5) 10 pl, ai (cy 0) (d 6) 4 rm, ai (cy 0) (d 7) 10 cd] → va_S A s.heap H locs → ∀ (ls : Array Slot), lv_has ls 7 [(0, .ref (ps 0)), (1, .ref (d 0)), (2, .ref (d 7)), (3, .int (iI k)), (4, .int (iI mo)), (5, .int (iI un)), (6, .int (iI j))] → W p l e rm_X2_countSpilledUpTo_o s m args below meth c H locs 0 0 Q (F0 m 11 ls []) := by
    intro fu
    induction fu with
    | zero =>
      intro un j cn B SA SO A0 A1 A2 A3 HT LD h1 h2 hp hm
      exact absurd hm (Nat.not_lt_zero _)
    | succ fu ih_11 =>
      intro un j cn B SA SO A0 A1 A2 A3 HT LD h1 h2 hp hm H locs hP hD hS ls hl
      have hcn := RnP_cm hp
      have hrl := rn_len lt mn pt tk mr rm cd hlt0 (j - 1).toNat
      have hub := pw_b hmn0 hmn1 (n := (j - 1).toNat) (by omega)
      refine lv_iload hx hb dX2_countSpilledUpTo_11 (lv_at hl 6 rfl) ?_
      refine lv_iload_n hx hb dX2_countSpilledUpTo_13 rfl (lv_at hl 3 rfl) ?_
      refine r_gt hx hb 72 dX2_countSpilledUpTo_14 (by decide) ⟨by omega, by omega⟩ ⟨by omega, by omega⟩ (fun c_14 => ?_) (fun c_14 => ?_)
      ·
        refine lv_aload_n hx hb dX2_countSpilledUpTo_72 rfl (lv_at hl 1 rfl) ?_
        refine va_getN (D := D) (C := RX1) (T := TX1) (N := 10) (ci := 1) (v := .int (iI lt)) hx hb hts iw_X2_countSpilledUpTo_1 hown hK hP 11 rfl rfl 0 (by decide) (nfX2_40 hN) (fun _ h9 => h9) rfl dX2_countSpilledUpTo_73 ?_
        refine lv_aload_n hx hb dX2_countSpilledUpTo_76 rfl (lv_at hl 0 rfl) ?_
        refine va_get (D := D) (C := RX2) (T := TX2) (N := 7) (ci := 2) (v := .int (iI cn)) hx hb hts iw_X2_countSpilledUpTo_2 hown hK hP 0 rfl rfl 1 (by decide) (hts _ fl_X2_countSpilledUpTo_46) (fun _ h9 => h9) rfl dX2_countSpilledUpTo_77 ?_
        refine r_sub hx hb dX2_countSpilledUpTo_80 ?_
        have hcn2 := rn_len lt mn pt tk mr rm cd hlt0 k.toNat
        exact hret [0, 1, 2, 3, 4, 5, 6, 7, 8, 9, 10, 11, 12, 13, 14, 15, 16, 17, 18] (cn, B, SA, SO, A0, A1, A2, A3, HT, LD) dX2_countSpilledUpTo_81 hP hD hS (by decide) rfl (by first | (rw [show k.toNat = (j - 1).toNat by omega]; exact ⟨fun _ => ⟨by omega, hp⟩, fun q => by omega⟩) | (have hmm := rn_mono lt mn pt tk mr rm cd (j - 1).toNat (k.toNat - (j - 1).toNat); rw [show (j - 1).toNat + (k.toNat - (j - 1).toNat) = k.toNat by omega] at hmm; exact ⟨fun q => by omega, fun q => by omega⟩))
      ·
        refine lv_aload_n hx hb dX2_countSpilledUpTo_17 rfl (lv_at hl 1 rfl) ?_
        refine va_getN (D := D) (C := RX1) (T := TX1) (N := 10) (ci := 1) (v := .int (iI lt)) hx hb hts iw_X2_countSpilledUpTo_1 hown hK hP 11 rfl rfl 0 (by decide) (nfX2_40 hN) (fun _ h9 => h9) rfl dX2_countSpilledUpTo_18 ?_
        refine lv_aload_n hx hb dX2_countSpilledUpTo_21 rfl (lv_at hl 0 rfl) ?_
        refine va_get (D := D) (C := RX2) (T := TX2) (N := 7) (ci := 2) (v := .int (iI cn)) hx hb hts iw_X2_countSpilledUpTo_2 hown hK hP 0 rfl rfl 1 (by decide) (hts _ fl_X2_countSpilledUpTo_46) (fun _ h9 => h9) rfl dX2_countSpilledUpTo_22 ?_
        refine r_sub hx hb dX2_countSpilledUpTo_25 ?_
        refine lv_iload hx hb dX2_countSpilledUpTo_26 (lv_at hl 4 rfl) ?_
        refine r_gt hx hb 72 dX2_countSpilledUpTo_28 (by decide) ⟨by omega, by omega⟩ ⟨by omega, by omega⟩ (fun c_28 => ?_) (fun c_28 => ?_)
        ·
          refine lv_aload_n hx hb dX2_countSpilledUpTo_72 rfl (lv_at hl 1 rfl) ?_
          refine va_getN (D := D) (C := RX1) (T := TX1) (N := 10) (ci := 1) (v := .int (iI lt)) hx hb hts iw_X2_countSpilledUpTo_1 hown hK hP 11 rfl rfl 0 (by decide) (nfX2_40 hN) (fun _ h9 => h9) rfl dX2_countSpilledUpTo_73 ?_
          refine lv_aload_n hx hb dX2_countSpilledUpTo_76 rfl (lv_at hl 0 rfl) ?_
          refine va_get (D := D) (C := RX2) (T := TX2) (N := 7) (ci := 2) (v := .int (iI cn)) hx hb hts iw_X2_countSpilledUpTo_2 hown hK hP 0 rfl rfl 1 (by decide) (hts _ fl_X2_countSpilledUpTo_46) (fun _ h9 => h9) rfl dX2_countSpilledUpTo_77 ?_
          refine r_sub hx hb dX2_countSpilledUpTo_80 ?_
          have hcn2 := rn_len lt mn pt tk mr rm cd hlt0 k.toNat
          exact hret [0, 1, 2, 3, 4, 5, 6, 7, 8, 9, 10, 11, 12, 13, 14, 15, 16, 17, 18] (cn, B, SA, SO, A0, A1, A2, A3, HT, LD) dX2_countSpilledUpTo_81 hP hD hS (by decide) rfl (by first | (rw [show k.toNat = (j - 1).toNat by omega]; exact ⟨fun _ => ⟨by omega, hp⟩, fun q => by omega⟩) | (have hmm := rn_mono lt mn pt tk mr rm cd (j - 1).toNat (k.toNat - (j - 1).toNat); rw [show (j - 1).toNat + (k.toNat - (j - 1).toNat) = k.toNat by omega] at hmm; exact ⟨fun q => by omega, fun q => by omega⟩))
        ·
          refine lv_aload_n hx hb dX2_countSpilledUpTo_31 rfl (lv_at hl 0 rfl) ?_
          refine lv_aload_n hx hb dX2_countSpilledUpTo_32 rfl (lv_at hl 2 rfl) ?_
          refine lv_iload hx hb dX2_countSpilledUpTo_33 (lv_at hl 5 rfl) ?_
          refine lv_aload_n hx hb dX2_countSpilledUpTo_35 rfl (lv_at hl 1 rfl) ?_
          refine va_getN (D := D) (C := RX1) (T := TX1) (N := 10) (ci := 1) (v := .int (iI mn)) hx hb hts iw_X2_countSpilledUpTo_1 hown hK hP 11 rfl rfl 6 (by decide) (nfX2_49 hN) (fun _ h9 => h9) rfl dX2_countSpilledUpTo_36 ?_
          have M_39 := k_X2_aim l D cy ps (d 7) H.size cn B SA SO A0 A1 A2 A3 HT LD cd un mn (hcd) (by omega) (⟨hmn0, hmn1⟩)
          refine kV_v (wr := [oD d lt mn vs, ai (cy 0) (d 1) 24 pt, ai (cy 0) (d 2) 24 tk, ai (cy 0) (d 3) 24 mr, ai (cy 0) (d 4) 10 od, ai (cy 0) (d 5) 10 pl, ai (cy 0) (d 6) 4 rm]) (As := [.ref (d 7), .int (iI un), .int (iI mn)]) (rest := []) (q := (RX2, TX2, 7)) (ci := 2) ⟨hx, hb, hml, hown, hts⟩ M_39 0 rfl rfl (cwV 3 hts gX2_countSpilledUpTo_X2_aim rfl rfl rfl (by decide +kernel) ⟨Nat.le_of_ble_eq_true rfl, Nat.le_of_ble_eq_true rfl⟩) hN hK hP hD hS hA [0, 1, 2, 3, 4, 5, 6, 7, 8, 9, 10, 18] [11, 12, 13, 14, 15, 16, 17] rfl rfl (by decide) (by decide) (by decide) rfl hl.1 rfl (Nat.le_of_ble_eq_true rfl) dX2_countSpilledUpTo_39 ⟨Nat.le_of_ble_eq_true rfl, Nat.le_of_ble_eq_true rfl⟩ (fun u_39 H locs hw_39 hP hD hS => ?_)
          obtain ⟨so1, rfl⟩ : ∃ z, z = u_39 := ⟨_, rfl⟩
          try dsimp only at hw_39
          replace hP : va_P D vwCl [oD d lt mn vs, ai (cy 0) (d 1) 24 pt, ai (cy 0) (d 2) 24 tk, ai (cy 0) (d 3) 24 mr, ai (cy 0) (d 4) 10 od, ai (cy 0) (d 5) 10 pl, ai (cy 0) (d 6) 4 rm, oP ps cn, ai (cy 0) (ps 1) 24 B, ai (cy 0) (ps 2) 24 SA, ai (cy 0) (ps 3) 10 so1, aq (cy 3) (ps 4) 4 (fun ix => ps (5 + ix)), ai (cy 0) (ps 5) 24 A0, ai (cy 0) (ps 6) 24 A1, ai (cy 0) (ps 7) 24 A2, ai (cy 0) (ps 8) 24 A3, ai (cy 0) (ps 9) 4 HT, ai (cy 0) (ps 10) 4 LD, ai (cy 0) (d 7) 10 cd] H := hP
          replace hD : va_D A [oD d lt mn vs, ai (cy 0) (d 1) 24 pt, ai (cy 0) (d 2) 24 tk, ai (cy 0) (d 3) 24 mr, ai (cy 0) (d 4) 10 od, ai (cy 0) (d 5) 10 pl, ai (cy 0) (d 6) 4 rm, oP ps cn, ai (cy 0) (ps 1) 24 B, ai (cy 0) (ps 2) 24 SA, ai (cy 0) (ps 3) 10 so1, aq (cy 3) (ps 4) 4 (fun ix => ps (5 + ix)), ai (cy 0) (ps 5) 24 A0, ai (cy 0) (ps 6) 24 A1, ai (cy 0) (ps 7) 24 A2, ai (cy 0) (ps 8) 24 A3, ai (cy 0) (ps 9) 4 HT, ai (cy 0) (ps 10) 4 LD, ai (cy 0) (d 7) 10 cd] := hD
          have hst := stk_so (cd := cd) hpt h2 hw_39
          refine lv_aload_n hx hb dX2_countSpilledUpTo_42 rfl (lv_at hl 0 rfl) ?_
          refine lv_aload_n hx hb dX2_countSpilledUpTo_43 rfl (lv_at hl 1 rfl) ?_
          refine lv_iload hx hb dX2_countSpilledUpTo_44 (lv_at hl 6 rfl) ?_
          have M_46 := k_X2_stack l D cy ps d H.size cn B SA so1 A0 A1 A2 A3 HT LD lt mn vs pt tk mr od pl rm cd j (hI) (by omega) (RnP_or hp) (fun q q1 q2 => (hw_39 q q1 q2).2)
          refine kV_v (wr := []) (As := [.ref (d 0), .int (iI j)]) (rest := []) (q := (RX2, TX2, 7)) (ci := 2) ⟨hx, hb, hml, hown, hts⟩ M_46 7 rfl rfl (cwV 2 hts gX2_countSpilledUpTo_X2_stack rfl rfl rfl (by decide +kernel) ⟨Nat.le_of_ble_eq_true rfl, Nat.le_of_ble_eq_true rfl⟩) hN hK hP hD hS hA [7, 8, 9, 10, 11, 12, 13, 14, 15, 16, 17, 0, 1, 2, 3, 4, 5, 6, 18] [] rfl rfl (by decide) (by decide) (by decide) rfl hl.1 rfl (Nat.le_of_ble_eq_true rfl) dX2_countSpilledUpTo_46 ⟨Nat.le_of_ble_eq_true rfl, Nat.le_of_ble_eq_true rfl⟩ (fun u_46 H locs hw_46 hP hD hS => ?_)
          obtain ⟨v_4, v_5, v_6, v_7, v_8, v_9, v_10⟩ := u_46
          try dsimp only at hw_46
          replace hP : va_P D vwCl [oP ps cn, ai (cy 0) (ps 1) 24 B, ai (cy 0) (ps 2) 24 v_4, ai (cy 0) (ps 3) 10 so1, aq (cy 3) (ps 4) 4 (fun ix => ps (5 + ix)), ai (cy 0) (ps 5) 24 v_5, ai (cy 0) (ps 6) 24 v_6, ai (cy 0) (ps 7) 24 v_7, ai (cy 0) (ps 8) 24 v_8, ai (cy 0) (ps 9) 4 v_9, ai (cy 0) (ps 10) 4 v_10, oD d lt mn vs, ai (cy 0) (d 1) 24 pt, ai (cy 0) (d 2) 24 tk, ai (cy 0) (d 3) 24 mr, ai (cy 0) (d 4) 10 od, ai (cy 0) (d 5) 10 pl, ai (cy 0) (d 6) 4 rm, ai (cy 0) (d 7) 10 cd] H := hP
          replace hD : va_D A [oP ps cn, ai (cy 0) (ps 1) 24 B, ai (cy 0) (ps 2) 24 v_4, ai (cy 0) (ps 3) 10 so1, aq (cy 3) (ps 4) 4 (fun ix => ps (5 + ix)), ai (cy 0) (ps 5) 24 v_5, ai (cy 0) (ps 6) 24 v_6, ai (cy 0) (ps 7) 24 v_7, ai (cy 0) (ps 8) 24 v_8, ai (cy 0) (ps 9) 4 v_9, ai (cy 0) (ps 10) 4 v_10, oD d lt mn vs, ai (cy 0) (d 1) 24 pt, ai (cy 0) (d 2) 24 tk, ai (cy 0) (d 3) 24 mr, ai (cy 0) (d 4) 10 od, ai (cy 0) (d 5) 10 pl, ai (cy 0) (d 6) 4 rm, ai (cy 0) (d 7) 10 cd] := hD
          refine lv_aload_n hx hb dX2_countSpilledUpTo_49 rfl (lv_at hl 0 rfl) ?_
          refine lv_aload_n hx hb dX2_countSpilledUpTo_50 rfl (lv_at hl 1 rfl) ?_
          refine va_getN (D := D) (C := RX1) (T := TX1) (N := 10) (ci := 1) (v := .int (iI mn)) hx hb hts iw_X2_countSpilledUpTo_1 hown hK hP 11 rfl rfl 6 (by decide) (nfX2_49 hN) (fun _ h9 => h9) rfl dX2_countSpilledUpTo_51 ?_
          have M_54 := k_X2_sweep l D cy ps H.size cn B v_4 so1 v_5 v_6 v_7 v_8 v_9 v_10 mn (pil (fun l => so1 (pt l)) (pas (fun l => so1 (pt l)) tk rm (lst B cn.toNat)).2.1) (hw_46.2.2.2) (StkP_h hw_46) (fun s q1 q2 => by have g1 := cat_le (fun l => so1 (pt l)) (pas (fun l => so1 (pt l)) tk rm (lst B cn.toNat)).2.1 s.toNat; have g2 := (pas_inv (fun l => so1 (pt l)) tk rm (lst B cn.toNat)).1; rw [lst_len] at g2; omega) (⟨hmn0, hmn1⟩)
          refine kV_v (wr := [oD d lt mn vs, ai (cy 0) (d 1) 24 pt, ai (cy 0) (d 2) 24 tk, ai (cy 0) (d 3) 24 mr, ai (cy 0) (d 4) 10 od, ai (cy 0) (d 5) 10 pl, ai (cy 0) (d 6) 4 rm, ai (cy 0) (d 7) 10 cd]) (As := [.int (iI mn)]) (rest := []) (q := (RX2, TX2, 7)) (ci := 2) ⟨hx, hb, hml, hown, hts⟩ M_54 0 rfl rfl (cwV 1 hts gX2_countSpilledUpTo_X2_sweep rfl rfl rfl (by decide +kernel) ⟨Nat.le_of_ble_eq_true rfl, Nat.le_of_ble_eq_true rfl⟩) hN hK hP hD hS hA [0, 1, 2, 3, 4, 5, 6, 7, 8, 9, 10] [11, 12, 13, 14, 15, 16, 17, 18] rfl rfl (by decide) (by decide) (by decide) rfl hl.1 rfl (Nat.le_of_ble_eq_true rfl) dX2_countSpilledUpTo_54 ⟨Nat.le_of_ble_eq_true rfl, Nat.le_of_ble_eq_true rfl⟩ (fun u_54 H locs hw_54 hP hD hS => ?_)
          obtain ⟨v_11, v_12⟩ := u_54
          try dsimp only at hw_54
          replace hP : va_P D vwCl [oD d lt mn vs, ai (cy 0) (d 1) 24 pt, ai (cy 0) (d 2) 24 tk, ai (cy 0) (d 3) 24 mr, ai (cy 0) (d 4) 10 od, ai (cy 0) (d 5) 10 pl, ai (cy 0) (d 6) 4 rm, ai (cy 0) (d 7) 10 cd, oP ps v_11, ai (cy 0) (ps 1) 24 v_12, ai (cy 0) (ps 2) 24 v_4, ai (cy 0) (ps 3) 10 so1, aq (cy 3) (ps 4) 4 (fun ix => ps (5 + ix)), ai (cy 0) (ps 5) 24 v_5, ai (cy 0) (ps 6) 24 v_6, ai (cy 0) (ps 7) 24 v_7, ai (cy 0) (ps 8) 24 v_8, ai (cy 0) (ps 9) 4 v_9, ai (cy 0) (ps 10) 4 v_10] H := hP
          replace hD : va_D A [oD d lt mn vs, ai (cy 0) (d 1) 24 pt, ai (cy 0) (d 2) 24 tk, ai (cy 0) (d 3) 24 mr, ai (cy 0) (d 4) 10 od, ai (cy 0) (d 5) 10 pl, ai (cy 0) (d 6) 4 rm, ai (cy 0) (d 7) 10 cd, oP ps v_11, ai (cy 0) (ps 1) 24 v_12, ai (cy 0) (ps 2) 24 v_4, ai (cy 0) (ps 3) 10 so1, aq (cy 3) (ps 4) 4 (fun ix => ps (5 + ix)), ai (cy 0) (ps 5) 24 v_5, ai (cy 0) (ps 6) 24 v_6, ai (cy 0) (ps 7) 24 v_7, ai (cy 0) (ps 8) 24 v_8, ai (cy 0) (ps 9) 4 v_9, ai (cy 0) (ps 10) 4 v_10] := hD
          refine lv_iload hx hb dX2_countSpilledUpTo_57 (lv_at hl 5 rfl) ?_
          refine lv_aload_n hx hb dX2_countSpilledUpTo_59 rfl (lv_at hl 1 rfl) ?_
          refine va_getN (D := D) (C := RX1) (T := TX1) (N := 10) (ci := 1) (v := .int (iI mn)) hx hb hts iw_X2_countSpilledUpTo_1 hown hK hP 0 rfl rfl 6 (by decide) (nfX2_49 hN) (fun _ h9 => h9) rfl dX2_countSpilledUpTo_60 ?_
          refine r_mul hx hb dX2_countSpilledUpTo_63 ?_
          refine lv_istore (lv' := [(5, .int (iI (un * mn))), (0, .ref (ps 0)), (1, .ref (d 0)), (2, .ref (d 7)), (3, .int (iI k)), (4, .int (iI mo)), (6, .int (iI j))]) hx hb dX2_countSpilledUpTo_64 hl (by decide) rfl (fun ls hl => ?_)
          refine r_inc (k := 6) (lv' := [(6, .int (iI (j + 1))), (5, .int (iI (un * mn))), (0, .ref (ps 0)), (1, .ref (d 0)), (2, .ref (d 7)), (3, .int (iI k)), (4, .int (iI mo))]) hx hb dX2_countSpilledUpTo_66 hl rfl (by decide) rfl (fun ls hl => ?_)
          refine lv_goto (tgt := 11) hx hb dX2_countSpilledUpTo_69 (by decide) ?_
          exact ih_11 (un * mn) (j + 1) v_11 v_12 v_4 so1 v_5 v_6 v_7 v_8 v_9 v_10 (by omega) (by rw [show (j + 1 - 1).toNat = (j - 1).toNat + 1 by omega, h2]; rfl) (by rw [show (j + 1 - 1).toNat = (j - 1).toNat + 1 by omega]; exact RnP_s hp hst (by omega) hw_46 hw_54) (by omega) H locs (pick_P hP (is := [8, 9, 10, 11, 12, 13, 14, 15, 16, 17, 18, 0, 1, 2, 3, 4, 5, 6, 7]) rfl) (hD.sub [8, 9, 10, 11, 12, 13, 14, 15, 16, 17, 18, 0, 1, 2, 3, 4, 5, 6, 7] (by decide) rfl) hS ls (lv_sub hl [2, 3, 4, 5, 6, 1, 0] rfl)
  exact lp_11 _ 1 1 v_1 v_2 v_3 so g0 g1 g2 g3 ht ld (by omega) (rfl) (⟨hw_2.1, hw_2.2.1, hw_2.2.2, fun q => absurd q (by decide)⟩) (Nat.lt_succ_self _) H locs (pick_P hP (is := [0, 1, 2, 3, 4, 5, 6, 7, 8, 9, 10, 11, 12, 13, 14, 15, 16, 17, 18]) rfl) (hD.sub [0, 1, 2, 3, 4, 5, 6, 7, 8, 9, 10, 11, 12, 13, 14, 15, 16, 17, 18] (by decide) rfl) hS ls (lv_sub hl [2, 3, 4, 5, 6, 1, 0] rfl)
