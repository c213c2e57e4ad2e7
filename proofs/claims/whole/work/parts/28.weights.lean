abbrev rm_X4_weigh : Room := { frames := 1, cells := 0, slots := 0, locals := 23 }
theorem fl_X4_weigh_18 : Cond.fieldLink RX4 18 "WalkPasses$Weights" "weightOf" "[I" ∈ wsX4_weigh := by decide +kernel
theorem iw_X4_weigh_1 : ∀ w ∈ u_ws RX1 TX1 10, w ∈ wsX4_weigh := by decide +kernel
theorem iw_X4_weigh_4 : ∀ w ∈ u_ws RX4 TX4 4, w ∈ wsX4_weigh := by decide +kernel
set_option maxHeartbeats 4000000 in
set_option maxRecDepth 100000 in
theorem k_X4_weigh (l : Launch) (D : va_G) (cy : Nat → ClassId) (wt fs d : Nat → Nat) (z : Nat) (wq l0 l1 l2 : Int → Int) (lt mn vs : Int) (pt tk mr od pl rm cd : Int → Int) (hI : DI lt mn pt tk mr od pl rm cd) : CtV l yX4_weigh wsX4_weigh rm_X4_weigh D (tyL cy) [.ref (wt 0), .ref (d 0)] [oW wt fs, ai (cy 0) (wt 1) 10 wq, aq (cy 3) (wt 2) 3 (fun ix => wt (3 + ix)), ai (cy 0) (wt 3) 4 l0, ai (cy 0) (wt 4) 4 l1, ai (cy 0) (wt 5) 4 l2, oD d lt mn vs, ai (cy 0) (d 1) 24 pt, ai (cy 0) (d 2) 24 tk, ai (cy 0) (d 3) 24 mr, ai (cy 0) (d 4) 10 od, ai (cy 0) (d 5) 10 pl, ai (cy 0) (d 6) 4 rm, ai (cy 0) (d 7) 10 cd] z (fun (u : Unit) => True) (fun (u : Unit) => [oW wt fs, ai (cy 0) (wt 1) 10 (wS pt tk mr lt), aq (cy 3) (wt 2) 3 (fun ix => wt (3 + ix)), ai (cy 0) (wt 3) 4 l0, ai (cy 0) (wt 4) 4 l1, ai (cy 0) (wt 5) 4 l2, oD d lt mn vs, ai (cy 0) (d 1) 24 pt, ai (cy 0) (d 2) 24 tk, ai (cy 0) (d 3) 24 mr, ai (cy 0) (d 4) 10 od, ai (cy 0) (d 5) 10 pl, ai (cy 0) (d 6) 4 rm, ai (cy 0) (d 7) 10 cd]) 0 0 := by
  refine ct_v (cc := cX4_weigh) (maxL := 3) (by decide) rfl (Nat.le_of_ble_eq_true rfl) ?_
  intro p e s m args below meth c A Q H locs ls hx hb hml hown hin hts hK hN hP hD hS hA hl hret
  replace hl : lv_has ls 3 [(0, .ref (wt 0)), (1, .ref (d 0))] := hl
  replace hown : s.vm.findClass RX4 = some m.cls := hown
  obtain ⟨⟨⟨hlt0, hlt1⟩, hmn0, hmn1⟩, ⟨hpt, htk, hmr⟩, ⟨hod, hpl, hpo, hop⟩, hrm, hcd⟩ := id hI
  refine lv_aload_n hx hb dX4_weigh_0 rfl (lv_at hl 0 rfl) ?_
  refine va_get (D := D) (C := RX4) (T := TX4) (N := 4) (ci := 4) (v := .ref (wt 1)) hx hb hts iw_X4_weigh_4 hown hK hP 0 rfl rfl 1 (by decide) (hts _ fl_X4_weigh_18) (fun _ h9 => h9) rfl dX4_weigh_1 ?_
  refine r_const hx hb dX4_weigh_4 ?_
  have M_5 := k_J7_fill_53178 l D cy (wt 1) H.size 10 wq 0 (by decide)
  refine kS_v (wr := [oW wt fs, aq (cy 3) (wt 2) 3 (fun ix => wt (3 + ix)), ai (cy 0) (wt 3) 4 l0, ai (cy 0) (wt 4) 4 l1, ai (cy 0) (wt 5) 4 l2, oD d lt mn vs, ai (cy 0) (d 1) 24 pt, ai (cy 0) (d 2) 24 tk, ai (cy 0) (d 3) 24 mr, ai (cy 0) (d 4) 10 od, ai (cy 0) (d 5) 10 pl, ai (cy 0) (d 6) 4 rm, ai (cy 0) (d 7) 10 cd]) (As := [.ref (wt 1), .int (iI 0)]) (rest := []) ⟨hx, hb, hml, hown, hts⟩ M_5 (va_cwS 2 hts gX4_weigh_J7_fill_53178 rfl rfl rfl (by decide +kernel) ⟨Nat.le_of_ble_eq_true rfl, Nat.le_of_ble_eq_true rfl⟩) hN hK hP hD hS hA [1] [0, 2, 3, 4, 5, 6, 7, 8, 9, 10, 11, 12, 13] rfl rfl (by decide) (by decide) (by decide) rfl hl.1 rfl (Nat.le_of_ble_eq_true rfl) dX4_weigh_5 ⟨Nat.le_of_ble_eq_true rfl, Nat.le_of_ble_eq_true rfl⟩ (fun u_5 H locs hw_5 hP hD hS => ?_)
  replace hP : va_P D vwCl [oW wt fs, aq (cy 3) (wt 2) 3 (fun ix => wt (3 + ix)), ai (cy 0) (wt 3) 4 l0, ai (cy 0) (wt 4) 4 l1, ai (cy 0) (wt 5) 4 l2, oD d lt mn vs, ai (cy 0) (d 1) 24 pt, ai (cy 0) (d 2) 24 tk, ai (cy 0) (d 3) 24 mr, ai (cy 0) (d 4) 10 od, ai (cy 0) (d 5) 10 pl, ai (cy 0) (d 6) 4 rm, ai (cy 0) (d 7) 10 cd, ai (cy 0) (wt 1) 10 (fun _ => 0)] H := hP
  replace hD : va_D A [oW wt fs, aq (cy 3) (wt 2) 3 (fun ix => wt (3 + ix)), ai (cy 0) (wt 3) 4 l0, ai (cy 0) (wt 4) 4 l1, ai (cy 0) (wt 5) 4 l2, oD d lt mn vs, ai (cy 0) (d 1) 24 pt, ai (cy 0) (d 2) 24 tk, ai (cy 0) (d 3) 24 mr, ai (cy 0) (d 4) 10 od, ai (cy 0) (d 5) 10 pl, ai (cy 0) (d 6) 4 rm, ai (cy 0) (d 7) 10 cd, ai (cy 0) (wt 1) 10 (fun _ => 0)] := hD
  refine r_const hx hb dX4_weigh_8 ?_
  refine lv_istore_n (lv' := [(2, .int (iI 0)), (0, .ref (wt 0)), (1, .ref (d 0))]) hx hb dX4_weigh_9 rfl hl (by decide) rfl (fun ls hl => ?_)
  have lp_10 : ∀ (fu : Nat) (i : Int) (B : Int → Int), (0 ≤ i ∧ i ≤ lt) → (B = wS pt tk mr i) → (lt - i).toNat < fu → ∀ (H : Heap) (locs : List Loc), va_P D vwCl [oW wt fs, aq (cy 3) (wt 2) 3 (fun ix => wt (3 + ix)), ai (cy 0) (wt 3) 4 l0, ai (cy 0) (wt 4) 4 l1, ai (cy 0) (wt 5) 4 l2, oD d lt mn vs, ai (cy 0) (d 1) 24 pt, ai (cy 0) (d 2) 24 tk, ai (cy 0) (d 3) 24 mr, ai (cy 0) (d 4) 10 od, ai (cy 0) (d 5) 10 pl, ai (cy 0) (d 6) 4 rm, ai (cy 0) (d 7) 10 cd, ai (cy 0) (wt 1) 10 B] H → va_D A [oW wt fs, aq (cy 3) (wt 2) 3 (fun ix => wt (3 + ix)), ai (cy 0) (wt 3) 4 l0, ai (cy 0) (wt 4) 4 l1, ai (cy 0) (wt 5) 4 l2, oD d lt mn vs, ai (cy 0) (d 1) 24 pt, ai (cy 0) (d 2) 24 tk, ai (cy 0) (d 3) 24 mr, ai (cy 0) (d 4) 10 od, ai (cy 0) (d 5) 10 pl, ai (cy 0) (d 6) 4 rm, ai (cy 0) (d 7) 10 cd, ai (cy 0) (wt 1) 10 B] → va_S A s.heap H locs → ∀ (ls : Array Slot), lv_has ls 3 [(0, .ref (wt 0)), (1, .ref (d 0)), (2, .int (iI i))] → W p l e rm_X4_weigh s m args below meth c H locs 0 0 Q (F0 m 10 ls []) := by
    intro fu
    induction fu with
    | zero =>
      intro i B h1 h2 hm
      exact absurd hm (Nat.not_lt_zero _)
    | succ fu ih_10 =>
      intro i B h1 h2 hm H locs hP hD hS ls hl
      refine lv_iload_n hx hb dX4_weigh_10 rfl (lv_at hl 2 rfl) ?_
      refine lv_aload_n hx hb dX4_weigh_11 rfl (lv_at hl 1 rfl) ?_
      refine va_getN (D := D) (C := RX1) (T := TX1) (N := 10) (ci := 1) (v := .int (iI lt)) hx hb hts iw_X4_weigh_1 hown hK hP 5 rfl rfl 0 (by decide) (nfX4_64 hN) (fun _ h9 => h9) rfl dX4_weigh_12 ?_
      refine r_ge hx hb 53 dX4_weigh_15 (by decide) ⟨by omega, by omega⟩ ⟨by omega, by omega⟩ (fun c_15 => ?_) (fun c_15 => ?_)
      ·
        obtain rfl : i = lt := by omega
        subst h2
        exact hret [0, 13, 1, 2, 3, 4, 5, 6, 7, 8, 9, 10, 11, 12] () dX4_weigh_53 hP hD hS (by decide) rfl (by trivial)
      ·
        refine lv_aload_n hx hb dX4_weigh_18 rfl (lv_at hl 1 rfl) ?_
        refine va_getN (D := D) (C := RX1) (T := TX1) (N := 10) (ci := 1) (v := .ref (d 3)) hx hb hts iw_X4_weigh_1 hown hK hP 5 rfl rfl 3 (by decide) (nfX4_67 hN) (fun _ h9 => h9) rfl dX4_weigh_19 ?_
        refine lv_iload_n hx hb dX4_weigh_22 rfl (lv_at hl 2 rfl) ?_
        refine r_ald hx hb hK hP 8 rfl rfl ⟨by omega, by omega, by omega⟩ dX4_weigh_23 ?_
        have b_23 := hmr i
        refine r_ne0 hx hb 47 dX4_weigh_24 (by decide) ⟨by omega, by omega⟩ (fun c_24 => ?_) (fun c_24 => ?_)
        ·
          refine r_inc (k := 2) (lv' := [(2, .int (iI (i + 1))), (0, .ref (wt 0)), (1, .ref (d 0))]) hx hb dX4_weigh_47 hl rfl (by decide) rfl (fun ls hl => ?_)
          refine lv_goto (tgt := 10) hx hb dX4_weigh_50 (by decide) ?_
          exact ih_10 (i + 1) B (by omega) (by first | (rw [h2, wS_y h1.1 c_24]; done) | (rw [h2, wS_n h1.1 c_24]; done)) (by omega) H locs (pick_P hP (is := [0, 1, 2, 3, 4, 5, 6, 7, 8, 9, 10, 11, 12, 13]) rfl) (hD.sub [0, 1, 2, 3, 4, 5, 6, 7, 8, 9, 10, 11, 12, 13] (by decide) rfl) hS ls (lv_sub hl [1, 2, 0] rfl)
        ·
          refine lv_aload_n hx hb dX4_weigh_27 rfl (lv_at hl 0 rfl) ?_
          refine va_get (D := D) (C := RX4) (T := TX4) (N := 4) (ci := 4) (v := .ref (wt 1)) hx hb hts iw_X4_weigh_4 hown hK hP 0 rfl rfl 1 (by decide) (hts _ fl_X4_weigh_18) (fun _ h9 => h9) rfl dX4_weigh_28 ?_
          refine lv_aload_n hx hb dX4_weigh_31 rfl (lv_at hl 1 rfl) ?_
          refine va_getN (D := D) (C := RX1) (T := TX1) (N := 10) (ci := 1) (v := .ref (d 1)) hx hb hts iw_X4_weigh_1 hown hK hP 5 rfl rfl 1 (by decide) (nfX4_70 hN) (fun _ h9 => h9) rfl dX4_weigh_32 ?_
          refine lv_iload_n hx hb dX4_weigh_35 rfl (lv_at hl 2 rfl) ?_
          refine r_ald hx hb hK hP 6 rfl rfl ⟨by omega, by omega, by omega⟩ dX4_weigh_36 ?_
          have b_36 := hpt i
          refine lv_dup2_11 hx hb dX4_weigh_37 rfl rfl ?_
          refine r_ald hx hb hK hP 13 rfl rfl ⟨by omega, by omega, by omega⟩ dX4_weigh_38 ?_
          refine lv_aload_n hx hb dX4_weigh_39 rfl (lv_at hl 1 rfl) ?_
          refine va_getN (D := D) (C := RX1) (T := TX1) (N := 10) (ci := 1) (v := .ref (d 2)) hx hb hts iw_X4_weigh_1 hown hK hP 5 rfl rfl 2 (by decide) (nfX4_73 hN) (fun _ h9 => h9) rfl dX4_weigh_40 ?_
          refine lv_iload_n hx hb dX4_weigh_43 rfl (lv_at hl 2 rfl) ?_
          refine r_ald hx hb hK hP 7 rfl rfl ⟨by omega, by omega, by omega⟩ dX4_weigh_44 ?_
          have b_44 := htk i
          refine r_add hx hb dX4_weigh_45 ?_
          refine r_ast hx hb hK hP hD hS 13 rfl rfl ⟨by omega, by omega, by omega⟩ dX4_weigh_46 (fun H locs hP hD hS => ?_)
          replace hP : va_P D vwCl [oW wt fs, aq (cy 3) (wt 2) 3 (fun ix => wt (3 + ix)), ai (cy 0) (wt 3) 4 l0, ai (cy 0) (wt 4) 4 l1, ai (cy 0) (wt 5) 4 l2, oD d lt mn vs, ai (cy 0) (d 1) 24 pt, ai (cy 0) (d 2) 24 tk, ai (cy 0) (d 3) 24 mr, ai (cy 0) (d 4) 10 od, ai (cy 0) (d 5) 10 pl, ai (cy 0) (d 6) 4 rm, ai (cy 0) (d 7) 10 cd, ai (cy 0) (wt 1) 10 (ud B (pt i) ((B (pt i)) + (tk i)))] H := hP
          replace hD : va_D A [oW wt fs, aq (cy 3) (wt 2) 3 (fun ix => wt (3 + ix)), ai (cy 0) (wt 3) 4 l0, ai (cy 0) (wt 4) 4 l1, ai (cy 0) (wt 5) 4 l2, oD d lt mn vs, ai (cy 0) (d 1) 24 pt, ai (cy 0) (d 2) 24 tk, ai (cy 0) (d 3) 24 mr, ai (cy 0) (d 4) 10 od, ai (cy 0) (d 5) 10 pl, ai (cy 0) (d 6) 4 rm, ai (cy 0) (d 7) 10 cd, ai (cy 0) (wt 1) 10 (ud B (pt i) ((B (pt i)) + (tk i)))] := hD
          refine r_inc (k := 2) (lv' := [(2, .int (iI (i + 1))), (0, .ref (wt 0)), (1, .ref (d 0))]) hx hb dX4_weigh_47 hl rfl (by decide) rfl (fun ls hl => ?_)
          refine lv_goto (tgt := 10) hx hb dX4_weigh_50 (by decide) ?_
          exact ih_10 (i + 1) (ud B (pt i) ((B (pt i)) + (tk i))) (by omega) (by first | (rw [h2, wS_y h1.1 c_24]; done) | (rw [h2, wS_n h1.1 c_24]; done)) (by omega) H locs (pick_P hP (is := [0, 1, 2, 3, 4, 5, 6, 7, 8, 9, 10, 11, 12, 13]) rfl) (hD.sub [0, 1, 2, 3, 4, 5, 6, 7, 8, 9, 10, 11, 12, 13] (by decide) rfl) hS ls (lv_sub hl [1, 2, 0] rfl)
  exact lp_10 _ 0 (fun _ => 0) (by omega) (rfl) (Nat.lt_succ_self _) H locs (pick_P hP (is := [0, 1, 2, 3, 4, 5, 6, 7, 8, 9, 10, 11, 12, 13]) rfl) (hD.sub [0, 1, 2, 3, 4, 5, 6, 7, 8, 9, 10, 11, 12, 13] (by decide) rfl) hS ls (lv_sub hl [1, 2, 0] rfl)
abbrev rm_X4_empty : Room := { frames := 1, cells := 0, slots := 0, locals := 23 }
theorem fl_X4_empty_24 : Cond.fieldLink RX4 24 "WalkPasses$Weights" "loads" "[[I" ∈ wsX4_empty := by decide +kernel
theorem iw_X4_empty_4 : ∀ w ∈ u_ws RX4 TX4 4, w ∈ wsX4_empty := by decide +kernel
set_option maxHeartbeats 4000000 in
set_option maxRecDepth 100000 in
theorem k_X4_empty (l : Launch) (D : va_G) (cy : Nat → ClassId) (wt fs : Nat → Nat) (z : Nat) (wq l0 l1 l2 : Int → Int) (k : Int) (hk : 1 ≤ k ∧ k ≤ 3) : CtV l yX4_empty wsX4_empty rm_X4_empty D (tyL cy) [.ref (wt 0), .int (iI k)] [oW wt fs, ai (cy 0) (wt 1) 10 wq, aq (cy 3) (wt 2) 3 (fun ix => wt (3 + ix)), ai (cy 0) (wt 3) 4 l0, ai (cy 0) (wt 4) 4 l1, ai (cy 0) (wt 5) 4 l2] z (fun (u : (Int → Int) × (Int → Int) × (Int → Int)) => ∀ j, 0 ≤ j → j < k → tsel u.1 u.2.1 u.2.2 j = fun _ => 0) (fun (u : (Int → Int) × (Int → Int) × (Int → Int)) => [oW wt fs, ai (cy 0) (wt 1) 10 wq, aq (cy 3) (wt 2) 3 (fun ix => wt (3 + ix)), ai (cy 0) (wt 3) 4 u.1, ai (cy 0) (wt 4) 4 u.2.1, ai (cy 0) (wt 5) 4 u.2.2]) 0 0 := by
  refine ct_v (cc := cX4_empty) (maxL := 3) (by decide) rfl (Nat.le_of_ble_eq_true rfl) ?_
  intro p e s m args below meth c A Q H locs ls hx hb hml hown hin hts hK hN hP hD hS hA hl hret
  replace hl : lv_has ls 3 [(0, .ref (wt 0)), (1, .int (iI k))] := hl
  replace hown : s.vm.findClass RX4 = some m.cls := hown
  refine r_const hx hb dX4_empty_0 ?_
  refine lv_istore_n (lv' := [(2, .int (iI 0)), (0, .ref (wt 0)), (1, .int (iI k))]) hx hb dX4_empty_1 rfl hl (by decide) rfl (fun ls hl => ?_)
  have lp_2 : ∀ (fu : Nat) (i : Int) (B0 : Int → Int) (B1 : Int → Int) (B2 : Int → Int), (0 ≤ i ∧ i ≤ k) → (∀ j, 0 ≤ j → j < i → tsel B0 B1 B2 j = fun _ => 0) → (k - i).toNat < fu → ∀ (H : Heap) (locs : List Loc), va_P D vwCl [oW wt fs, ai (cy 0) (wt 1) 10 wq, aq (cy 3) (wt 2) 3 (fun ix => wt (3 + ix)), ai (cy 0) (wt 3) 4 B0, ai (cy 0) (wt 4) 4 B1, ai (cy 0) (wt 5) 4 B2] H → va_D A [oW wt fs, ai (cy 0) (wt 1) 10 wq, aq (cy 3) (wt 2) 3 (fun ix => wt (3 + ix)), ai (cy 0) (wt 3) 4 B0, ai (cy 0) (wt 4) 4 B1, ai (cy 0) (wt 5) 4 B2] → va_S A s.heap H locs → ∀ (ls : Array Slot), lv_has ls 3 [(0, .ref (wt 0)), (1, .int (iI k)), (2, .int (iI i))] → W p l e rm_X4_empty s m args below meth c H locs 0 0 Q (F0 m 2 ls []) := by
    intro fu
    induction fu with
    | zero =>
      intro i B0 B1 B2 h1 h2 hm
      exact absurd hm (Nat.not_lt_zero _)
    | succ fu ih_2 =>
      intro i B0 B1 B2 h1 h2 hm H locs hP hD hS ls hl
      refine lv_iload_n hx hb dX4_empty_2 rfl (lv_at hl 2 rfl) ?_
      refine lv_iload_n hx hb dX4_empty_3 rfl (lv_at hl 1 rfl) ?_
      refine r_ge hx hb 23 dX4_empty_4 (by decide) ⟨by omega, by omega⟩ ⟨by omega, by omega⟩ (fun c_4 => ?_) (fun c_4 => ?_)
      ·
        exact hret [0, 1, 2, 3, 4, 5] (B0, B1, B2) dX4_empty_23 hP hD hS (by decide) rfl (fun j q1 q2 => h2 j q1 (by omega))
      ·
        refine lv_aload_n hx hb dX4_empty_7 rfl (lv_at hl 0 rfl) ?_
        refine va_get (D := D) (C := RX4) (T := TX4) (N := 4) (ci := 4) (v := .ref (wt 2)) hx hb hts iw_X4_empty_4 hown hK hP 0 rfl rfl 2 (by decide) (hts _ fl_X4_empty_24) (fun _ h9 => h9) rfl dX4_empty_8 ?_
        refine lv_iload_n hx hb dX4_empty_11 rfl (lv_at hl 2 rfl) ?_
        rcases (show i = 0 ∨ i = 1 ∨ i = 2 by omega) with rfl | rfl | rfl
        ·
          refine r_ald2 hx hb hK hP 2 rfl rfl ⟨by omega, by omega, by omega⟩ dX4_empty_12 ?_
          refine r_const hx hb dX4_empty_13 ?_
          have M_14 := k_J7_fill_53178 l D cy (wt 3) H.size 4 B0 0 (by decide)
          refine kS_v (wr := [oW wt fs, ai (cy 0) (wt 1) 10 wq, aq (cy 3) (wt 2) 3 (fun ix => wt (3 + ix)), ai (cy 0) (wt 4) 4 B1, ai (cy 0) (wt 5) 4 B2]) (As := [.ref (wt 3), .int (iI 0)]) (rest := []) ⟨hx, hb, hml, hown, hts⟩ M_14 (va_cwS 2 hts gX4_empty_J7_fill_53178 rfl rfl rfl (by decide +kernel) ⟨Nat.le_of_ble_eq_true rfl, Nat.le_of_ble_eq_true rfl⟩) hN hK hP hD hS hA [3] [0, 1, 2, 4, 5] rfl rfl (by decide) (by decide) (by decide) rfl hl.1 rfl (Nat.le_of_ble_eq_true rfl) dX4_empty_14 ⟨Nat.le_of_ble_eq_true rfl, Nat.le_of_ble_eq_true rfl⟩ (fun u_14 H locs hw_14 hP hD hS => ?_)
          replace hP : va_P D vwCl [oW wt fs, ai (cy 0) (wt 1) 10 wq, aq (cy 3) (wt 2) 3 (fun ix => wt (3 + ix)), ai (cy 0) (wt 4) 4 B1, ai (cy 0) (wt 5) 4 B2, ai (cy 0) (wt 3) 4 (fun _ => 0)] H := hP
          replace hD : va_D A [oW wt fs, ai (cy 0) (wt 1) 10 wq, aq (cy 3) (wt 2) 3 (fun ix => wt (3 + ix)), ai (cy 0) (wt 4) 4 B1, ai (cy 0) (wt 5) 4 B2, ai (cy 0) (wt 3) 4 (fun _ => 0)] := hD
          refine r_inc (k := 2) (lv' := [(2, .int (iI (0 + 1))), (0, .ref (wt 0)), (1, .int (iI k))]) hx hb dX4_empty_17 hl rfl (by decide) rfl (fun ls hl => ?_)
          refine lv_goto (tgt := 2) hx hb dX4_empty_20 (by decide) ?_
          exact ih_2 (0 + 1) (fun _ => 0) B1 B2 (by omega) (fun j q1 q2 => by rcases (show j = 0 ∨ j = 1 ∨ j = 2 by omega) with rfl | rfl | rfl <;> first | rfl | exact h2 _ (by omega) (by omega) | omega) (by omega) H locs (pick_P hP (is := [0, 1, 2, 5, 3, 4]) rfl) (hD.sub [0, 1, 2, 5, 3, 4] (by decide) rfl) hS ls (lv_sub hl [1, 2, 0] rfl)
        ·
          refine r_ald2 hx hb hK hP 2 rfl rfl ⟨by omega, by omega, by omega⟩ dX4_empty_12 ?_
          refine r_const hx hb dX4_empty_13 ?_
          have M_14 := k_J7_fill_53178 l D cy (wt 4) H.size 4 B1 0 (by decide)
          refine kS_v (wr := [oW wt fs, ai (cy 0) (wt 1) 10 wq, aq (cy 3) (wt 2) 3 (fun ix => wt (3 + ix)), ai (cy 0) (wt 3) 4 B0, ai (cy 0) (wt 5) 4 B2]) (As := [.ref (wt 4), .int (iI 0)]) (rest := []) ⟨hx, hb, hml, hown, hts⟩ M_14 (va_cwS 2 hts gX4_empty_J7_fill_53178 rfl rfl rfl (by decide +kernel) ⟨Nat.le_of_ble_eq_true rfl, Nat.le_of_ble_eq_true rfl⟩) hN hK hP hD hS hA [4] [0, 1, 2, 3, 5] rfl rfl (by decide) (by decide) (by decide) rfl hl.1 rfl (Nat.le_of_ble_eq_true rfl) dX4_empty_14 ⟨Nat.le_of_ble_eq_true rfl, Nat.le_of_ble_eq_true rfl⟩ (fun u_14 H locs hw_14 hP hD hS => ?_)
          replace hP : va_P D vwCl [oW wt fs, ai (cy 0) (wt 1) 10 wq, aq (cy 3) (wt 2) 3 (fun ix => wt (3 + ix)), ai (cy 0) (wt 3) 4 B0, ai (cy 0) (wt 5) 4 B2, ai (cy 0) (wt 4) 4 (fun _ => 0)] H := hP
          replace hD : va_D A [oW wt fs, ai (cy 0) (wt 1) 10 wq, aq (cy 3) (wt 2) 3 (fun ix => wt (3 + ix)), ai (cy 0) (wt 3) 4 B0, ai (cy 0) (wt 5) 4 B2, ai (cy 0) (wt 4) 4 (fun _ => 0)] := hD
          refine r_inc (k := 2) (lv' := [(2, .int (iI (1 + 1))), (0, .ref (wt 0)), (1, .int (iI k))]) hx hb dX4_empty_17 hl rfl (by decide) rfl (fun ls hl => ?_)
          refine lv_goto (tgt := 2) hx hb dX4_empty_20 (by decide) ?_
          exact ih_2 (1 + 1) B0 (fun _ => 0) B2 (by omega) (fun j q1 q2 => by rcases (show j = 0 ∨ j = 1 ∨ j = 2 by omega) with rfl | rfl | rfl <;> first | rfl | exact h2 _ (by omega) (by omega) | omega) (by omega) H locs (pick_P hP (is := [0, 1, 2, 3, 5, 4]) rfl) (hD.sub [0, 1, 2, 3, 5, 4] (by decide) rfl) hS ls (lv_sub hl [1, 2, 0] rfl)
        ·
          refine r_ald2 hx hb hK hP 2 rfl rfl ⟨by omega, by omega, by omega⟩ dX4_empty_12 ?_
          refine r_const hx hb dX4_empty_13 ?_
          have M_14 := k_J7_fill_53178 l D cy (wt 5) H.size 4 B2 0 (by decide)
          refine kS_v (wr := [oW wt fs, ai (cy 0) (wt 1) 10 wq, aq (cy 3) (wt 2) 3 (fun ix => wt (3 + ix)), ai (cy 0) (wt 3) 4 B0, ai (cy 0) (wt 4) 4 B1]) (As := [.ref (wt 5), .int (iI 0)]) (rest := []) ⟨hx, hb, hml, hown, hts⟩ M_14 (va_cwS 2 hts gX4_empty_J7_fill_53178 rfl rfl rfl (by decide +kernel) ⟨Nat.le_of_ble_eq_true rfl, Nat.le_of_ble_eq_true rfl⟩) hN hK hP hD hS hA [5] [0, 1, 2, 3, 4] rfl rfl (by decide) (by decide) (by decide) rfl hl.1 rfl (Nat.le_of_ble_eq_true rfl) dX4_empty_14 ⟨Nat.le_of_ble_eq_true rfl, Nat.le_of_ble_eq_true rfl⟩ (fun u_14 H locs hw_14 hP hD hS => ?_)
          replace hP : va_P D vwCl [oW wt fs, ai (cy 0) (wt 1) 10 wq, aq (cy 3) (wt 2) 3 (fun ix => wt (3 + ix)), ai (cy 0) (wt 3) 4 B0, ai (cy 0) (wt 4) 4 B1, ai (cy 0) (wt 5) 4 (fun _ => 0)] H := hP
          replace hD : va_D A [oW wt fs, ai (cy 0) (wt 1) 10 wq, aq (cy 3) (wt 2) 3 (fun ix => wt (3 + ix)), ai (cy 0) (wt 3) 4 B0, ai (cy 0) (wt 4) 4 B1, ai (cy 0) (wt 5) 4 (fun _ => 0)] := hD
          refine r_inc (k := 2) (lv' := [(2, .int (iI (2 + 1))), (0, .ref (wt 0)), (1, .int (iI k))]) hx hb dX4_empty_17 hl rfl (by decide) rfl (fun ls hl => ?_)
          refine lv_goto (tgt := 2) hx hb dX4_empty_20 (by decide) ?_
          exact ih_2 (2 + 1) B0 B1 (fun _ => 0) (by omega) (fun j q1 q2 => by rcases (show j = 0 ∨ j = 1 ∨ j = 2 by omega) with rfl | rfl | rfl <;> first | rfl | exact h2 _ (by omega) (by omega) | omega) (by omega) H locs (pick_P hP (is := [0, 1, 2, 3, 4, 5]) rfl) (hD.sub [0, 1, 2, 3, 4, 5] (by decide) rfl) hS ls (lv_sub hl [1, 2, 0] rfl)
  exact lp_2 _ 0 l0 l1 l2 (by omega) (fun j q1 q2 => by omega) (Nat.lt_succ_self _) H locs (pick_P hP (is := [0, 1, 2, 3, 4, 5]) rfl) (hD.sub [0, 1, 2, 3, 4, 5] (by decide) rfl) hS ls (lv_sub hl [1, 2, 0] rfl)
abbrev rm_X4_pointFits : Room := { frames := 1, cells := 0, slots := 0, locals := 22 }
theorem fl_X4_pointFits_12 : Cond.fieldLink RX4 12 "WalkPasses$Weights" "candidates" "LWalkPasses$Plans;" ∈ wsX4_pointFits := by decide +kernel
theorem fl_X4_pointFits_18 : Cond.fieldLink RX4 18 "WalkPasses$Weights" "weightOf" "[I" ∈ wsX4_pointFits := by decide +kernel
theorem fl_X4_pointFits_24 : Cond.fieldLink RX4 24 "WalkPasses$Weights" "loads" "[[I" ∈ wsX4_pointFits := by decide +kernel
theorem iw_X4_pointFits_3 : ∀ w ∈ u_ws RX3 TX3 4, w ∈ wsX4_pointFits := by decide +kernel
theorem iw_X4_pointFits_4 : ∀ w ∈ u_ws RX4 TX4 4, w ∈ wsX4_pointFits := by decide +kernel
set_option maxHeartbeats 4000000 in
set_option maxRecDepth 100000 in
theorem k_X4_pointFits (l : Launch) (D : va_G) (cy : Nat → ClassId) (wt fs : Nat → Nat) (a : Nat) (z : Nat) (wq l0 l1 l2 : Int → Int) (sz be : Int) (fp fc : Int → Int) (ro : Int → Int) (q mn k : Int) (hk : 1 ≤ k ∧ k ≤ 3) (hmn : 2 ≤ mn ∧ mn ≤ 4) (hq : 0 ≤ q ∧ q ≤ 9) (hfc : ∀ j, 0 ≤ fc j ∧ fc j ≤ 63) (hwq : ∀ j, 0 ≤ wq j ∧ wq j ≤ 216) (hro : ∀ j, 0 ≤ ro j ∧ ro j ≤ 99) (hll : ∀ j, 0 ≤ j → j < k → ∀ s, 0 ≤ tsel l0 l1 l2 j s ∧ tsel l0 l1 l2 j s ≤ 10000) : CtI l yX4_pointFits wsX4_pointFits rm_X4_pointFits D (tyL cy) [.ref (wt 0), .int (iI q), .ref (a), .int (iI mn), .int (iI k)] [oW wt fs, ai (cy 0) (wt 1) 10 wq, aq (cy 3) (wt 2) 3 (fun ix => wt (3 + ix)), ai (cy 0) (wt 3) 4 l0, ai (cy 0) (wt 4) 4 l1, ai (cy 0) (wt 5) 4 l2, oF fs sz be, ai (cy 0) (fs 1) 10 fp, ai (cy 0) (fs 2) 10 fc, ai (cy 0) a 4 ro] z (fun (r : Int) (u : (Int → Int) × (Int → Int) × (Int → Int)) => (r = 1 ∧ ∀ j : Int, 0 ≤ j → j < k → tsel u.1 u.2.1 u.2.2 j = ud (tsel l0 l1 l2 j) (fc q / pw mn j.toNat % mn) (tsel l0 l1 l2 j (fc q / pw mn j.toNat % mn) + wq q) ∧ tsel l0 l1 l2 j (fc q / pw mn j.toNat % mn) + wq q ≤ ro (fc q / pw mn j.toNat % mn)) ∨ (r = 0 ∧ ∃ j : Int, 0 ≤ j ∧ j < k ∧ ro (fc q / pw mn j.toNat % mn) < tsel l0 l1 l2 j (fc q / pw mn j.toNat % mn) + wq q)) (fun (u : (Int → Int) × (Int → Int) × (Int → Int)) => [oW wt fs, ai (cy 0) (wt 1) 10 wq, aq (cy 3) (wt 2) 3 (fun ix => wt (3 + ix)), ai (cy 0) (wt 3) 4 u.1, ai (cy 0) (wt 4) 4 u.2.1, ai (cy 0) (wt 5) 4 u.2.2, oF fs sz be, ai (cy 0) (fs 1) 10 fp, ai (cy 0) (fs 2) 10 fc, ai (cy 0) a 4 ro]) 0 0 := by
  refine ct_z (cc := cX4_pointFits) (maxL := 8) (by decide) rfl (Nat.le_of_ble_eq_true rfl) ?_
  intro p e s m args below meth c A Q H locs ls hx hb hml hown hin hts hK hN hP hD hS hA hl hret
  replace hl : lv_has ls 8 [(0, .ref (wt 0)), (1, .int (iI q)), (2, .ref (a)), (3, .int (iI mn)), (4, .int (iI k))] := hl
  replace hown : s.vm.findClass RX4 = some m.cls := hown
  refine r_const hx hb dX4_pointFits_0 ?_
  refine lv_istore (lv' := [(5, .int (iI 1)), (0, .ref (wt 0)), (1, .int (iI q)), (2, .ref (a)), (3, .int (iI mn)), (4, .int (iI k))]) hx hb dX4_pointFits_1 hl (by decide) rfl (fun ls hl => ?_)
  refine r_const hx hb dX4_pointFits_3 ?_
  refine lv_istore (lv' := [(6, .int (iI 0)), (5, .int (iI 1)), (0, .ref (wt 0)), (1, .int (iI q)), (2, .ref (a)), (3, .int (iI mn)), (4, .int (iI k))]) hx hb dX4_pointFits_4 hl (by decide) rfl (fun ls hl => ?_)
  have lp_6 : ∀ (fu : Nat) (un : Int) (j : Int) (B0 : Int → Int) (B1 : Int → Int) (B2 : Int → Int), (0 ≤ j ∧ j ≤ k) → (un = pw mn j.toNat) → (∀ t : Int, 0 ≤ t → t < j → tsel B0 B1 B2 t = ud (tsel l0 l1 l2 t) (fc q / pw mn t.toNat % mn) (tsel l0 l1 l2 t (fc q / pw mn t.toNat % mn) + wq q) ∧ tsel l0 l1 l2 t (fc q / pw mn t.toNat % mn) + wq q ≤ ro (fc q / pw mn t.toNat % mn)) → (∀ t, j ≤ t → t < 3 → tsel B0 B1 B2 t = tsel l0 l1 l2 t) → (k - j).toNat < fu → ∀ (H : Heap) (locs : List Loc), va_P D vwCl [oW wt fs, ai (cy 0) (wt 1) 10 wq, aq (cy 3) (wt 2) 3 (fun ix => wt (3 + ix)), ai (cy 0) (wt 3) 4 B0, ai (cy 0) (wt 4) 4 B1, ai (cy 0) (wt 5) 4 B2, oF fs sz be, ai (cy 0) (fs 1) 10 fp, ai (cy 0) (fs 2) 10 fc, ai (cy 0) a 4 ro] H → va_D A [oW wt fs, ai (cy 0) (wt 1) 10 wq, aq (cy 3) (wt 2) 3 (fun ix => wt (3 + ix)), ai (cy 0) (wt 3) 4 B0, ai (cy 0) (wt 4) 4 B1, ai (cy 0) (wt 5) 4 B2, oF fs sz be, ai (cy 0) (fs 1) 10 fp, ai (cy 0) (fs 2) 10 fc, ai (cy 0) a 4 ro] → va_S A s.heap H locs → ∀ (ls : Array Slot), lv_has ls 8 [(0, .ref (wt 0)), (1, .int (iI q)), (2, .ref (a)), (3, .int (iI mn)), (4, .int (iI k)), (5, .int (iI un)), (6, .int (iI j))] → W p l e rm_X4_pointFits s m args below meth c H locs 0 0 Q (F0 m 6 ls []) := by
    intro fu
    induction fu with
    | zero =>
      intro un j B0 B1 B2 h1 h2 h3 h4 hm
      exact absurd hm (Nat.not_lt_zero _)
    | succ fu ih_6 =>
      intro un j B0 B1 B2 h1 h2 h3 h4 hm H locs hP hD hS ls hl
      have hub := pw_b hmn.1 hmn.2 (n := j.toNat) (by omega)
      refine lv_iload hx hb dX4_pointFits_6 (lv_at hl 6 rfl) ?_
      refine lv_iload hx hb dX4_pointFits_8 (lv_at hl 4 rfl) ?_
      refine r_ge hx hb 80 dX4_pointFits_10 (by decide) ⟨by omega, by omega⟩ ⟨by omega, by omega⟩ (fun c_10 => ?_) (fun c_10 => ?_)
      ·
        refine r_const hx hb dX4_pointFits_80 ?_
        exact hret [0, 1, 2, 3, 4, 5, 6, 7, 8, 9] (B0, B1, B2) dX4_pointFits_81 hP hD hS (by decide) rfl (by omega) (Or.inl ⟨rfl, fun t q1 q2 => h3 t q1 (by omega)⟩)
      ·
        refine lv_aload_n hx hb dX4_pointFits_13 rfl (lv_at hl 0 rfl) ?_
        refine va_get (D := D) (C := RX4) (T := TX4) (N := 4) (ci := 4) (v := .ref (fs 0)) hx hb hts iw_X4_pointFits_4 hown hK hP 0 rfl rfl 0 (by decide) (hts _ fl_X4_pointFits_12) (fun _ h9 => h9) rfl dX4_pointFits_14 ?_
        refine va_getN (D := D) (C := RX3) (T := TX3) (N := 4) (ci := 3) (v := .ref (fs 2)) hx hb hts iw_X4_pointFits_3 hown hK hP 6 rfl rfl 3 (by decide) (nfX4_85 hN) (fun _ h9 => h9) rfl dX4_pointFits_17 ?_
        refine lv_iload_n hx hb dX4_pointFits_20 rfl (lv_at hl 1 rfl) ?_
        refine r_ald hx hb hK hP 8 rfl rfl ⟨by omega, by omega, by omega⟩ dX4_pointFits_21 ?_
        have b_21 := hfc q
        refine lv_iload hx hb dX4_pointFits_22 (lv_at hl 5 rfl) ?_
        refine lv_iload_n hx hb dX4_pointFits_24 rfl (lv_at hl 3 rfl) ?_
        have M_25 := k_X5_figure l D cy  H.size (fc q) un mn (⟨by omega, by omega⟩) (⟨by omega, by omega⟩) (⟨by omega, by omega⟩)
        refine kSN_i (wr := [oW wt fs, ai (cy 0) (wt 1) 10 wq, aq (cy 3) (wt 2) 3 (fun ix => wt (3 + ix)), ai (cy 0) (wt 3) 4 B0, ai (cy 0) (wt 4) 4 B1, ai (cy 0) (wt 5) 4 B2, oF fs sz be, ai (cy 0) (fs 1) 10 fp, ai (cy 0) (fs 2) 10 fc, ai (cy 0) a 4 ro]) (As := [.int (iI (fc q)), .int (iI un), .int (iI mn)]) (rest := []) ⟨hx, hb, hml, hown, hts⟩ M_25 ⟨va_cnB 3 hts gX4_pointFits_X5_figure_n88 rfl rfl rfl (nmX4_88 hN) (hts (.initialized RX5) (by decide +kernel)) (by decide +kernel) ⟨Nat.le_of_ble_eq_true rfl, Nat.le_of_ble_eq_true rfl⟩, hts (.static yX5_figure) (by decide +kernel), trivial⟩ hN hK hP hD hS hA [] [0, 1, 2, 3, 4, 5, 6, 7, 8, 9] rfl rfl (by decide) (by decide) (by decide) rfl hl.1 rfl (Nat.le_of_ble_eq_true rfl) dX4_pointFits_25 ⟨Nat.le_of_ble_eq_true rfl, Nat.le_of_ble_eq_true rfl⟩ (fun r_25 u_25 H locs hw_25 hP hD hS => ?_)
        replace hP : va_P D vwCl [oW wt fs, ai (cy 0) (wt 1) 10 wq, aq (cy 3) (wt 2) 3 (fun ix => wt (3 + ix)), ai (cy 0) (wt 3) 4 B0, ai (cy 0) (wt 4) 4 B1, ai (cy 0) (wt 5) 4 B2, oF fs sz be, ai (cy 0) (fs 1) 10 fp, ai (cy 0) (fs 2) 10 fc, ai (cy 0) a 4 ro] H := hP
        replace hD : va_D A [oW wt fs, ai (cy 0) (wt 1) 10 wq, aq (cy 3) (wt 2) 3 (fun ix => wt (3 + ix)), ai (cy 0) (wt 3) 4 B0, ai (cy 0) (wt 4) 4 B1, ai (cy 0) (wt 5) 4 B2, oF fs sz be, ai (cy 0) (fs 1) 10 fp, ai (cy 0) (fs 2) 10 fc, ai (cy 0) a 4 ro] := hD
        have hw1 := hw_25.1
        rw [h2] at hw1
        have hl5 := hll j h1.1 (by omega) r_25
        have h4e := h4 j (Int.le_refl j) (by omega)
        rw [← h4e] at hl5
        refine lv_istore (lv' := [(7, .int (iI r_25)), (0, .ref (wt 0)), (1, .int (iI q)), (2, .ref (a)), (3, .int (iI mn)), (4, .int (iI k)), (5, .int (iI un)), (6, .int (iI j))]) hx hb dX4_pointFits_28 hl (by decide) rfl (fun ls hl => ?_)
        refine lv_aload_n hx hb dX4_pointFits_30 rfl (lv_at hl 1 rfl) ?_
        refine va_get (D := D) (C := RX4) (T := TX4) (N := 4) (ci := 4) (v := .ref (wt 2)) hx hb hts iw_X4_pointFits_4 hown hK hP 0 rfl rfl 2 (by decide) (hts _ fl_X4_pointFits_24) (fun _ h9 => h9) rfl dX4_pointFits_31 ?_
        refine lv_iload hx hb dX4_pointFits_34 (lv_at hl 7 rfl) ?_
        rcases (show j = 0 ∨ j = 1 ∨ j = 2 by omega) with rfl | rfl | rfl
        ·
          refine r_ald2 hx hb hK hP 2 rfl rfl ⟨by omega, by omega, by omega⟩ dX4_pointFits_36 ?_
          simp [tsel] at hl5
          refine lv_iload hx hb dX4_pointFits_37 (lv_at hl 0 rfl) ?_
          refine lv_dup2_11 hx hb dX4_pointFits_39 rfl rfl ?_
          refine r_ald hx hb hK hP 3 rfl rfl ⟨by omega, by omega, by omega⟩ dX4_pointFits_40 ?_
          refine lv_aload_n hx hb dX4_pointFits_41 rfl (lv_at hl 1 rfl) ?_
          refine va_get (D := D) (C := RX4) (T := TX4) (N := 4) (ci := 4) (v := .ref (wt 1)) hx hb hts iw_X4_pointFits_4 hown hK hP 0 rfl rfl 1 (by decide) (hts _ fl_X4_pointFits_18) (fun _ h9 => h9) rfl dX4_pointFits_42 ?_
          refine lv_iload_n hx hb dX4_pointFits_45 rfl (lv_at hl 2 rfl) ?_
          refine r_ald hx hb hK hP 1 rfl rfl ⟨by omega, by omega, by omega⟩ dX4_pointFits_46 ?_
          have b_46 := hwq q
          refine r_add hx hb dX4_pointFits_47 ?_
          refine r_ast hx hb hK hP hD hS 3 rfl rfl ⟨by omega, by omega, by omega⟩ dX4_pointFits_48 (fun H locs hP hD hS => ?_)
          replace hP : va_P D vwCl [oW wt fs, ai (cy 0) (wt 1) 10 wq, aq (cy 3) (wt 2) 3 (fun ix => wt (3 + ix)), ai (cy 0) (wt 3) 4 (ud B0 r_25 ((B0 r_25) + (wq q))), ai (cy 0) (wt 4) 4 B1, ai (cy 0) (wt 5) 4 B2, oF fs sz be, ai (cy 0) (fs 1) 10 fp, ai (cy 0) (fs 2) 10 fc, ai (cy 0) a 4 ro] H := hP
          replace hD : va_D A [oW wt fs, ai (cy 0) (wt 1) 10 wq, aq (cy 3) (wt 2) 3 (fun ix => wt (3 + ix)), ai (cy 0) (wt 3) 4 (ud B0 r_25 ((B0 r_25) + (wq q))), ai (cy 0) (wt 4) 4 B1, ai (cy 0) (wt 5) 4 B2, oF fs sz be, ai (cy 0) (fs 1) 10 fp, ai (cy 0) (fs 2) 10 fc, ai (cy 0) a 4 ro] := hD
          refine lv_aload_n hx hb dX4_pointFits_49 rfl (lv_at hl 1 rfl) ?_
          refine va_get (D := D) (C := RX4) (T := TX4) (N := 4) (ci := 4) (v := .ref (wt 2)) hx hb hts iw_X4_pointFits_4 hown hK hP 0 rfl rfl 2 (by decide) (hts _ fl_X4_pointFits_24) (fun _ h9 => h9) rfl dX4_pointFits_50 ?_
          refine lv_iload hx hb dX4_pointFits_53 (lv_at hl 7 rfl) ?_
          refine r_ald2 hx hb hK hP 2 rfl rfl ⟨by omega, by omega, by omega⟩ dX4_pointFits_55 ?_
          refine lv_iload hx hb dX4_pointFits_56 (lv_at hl 0 rfl) ?_
          refine r_ald hx hb hK hP 3 rfl rfl ⟨by omega, by omega, by omega⟩ dX4_pointFits_58 ?_
          refine r_top ((B0 r_25) + (wq q)) (ud_at _ _ _) ?_
          refine lv_aload_n hx hb dX4_pointFits_59 rfl (lv_at hl 3 rfl) ?_
          refine lv_iload hx hb dX4_pointFits_60 (lv_at hl 0 rfl) ?_
          refine r_ald hx hb hK hP 9 rfl rfl ⟨by omega, by omega, by omega⟩ dX4_pointFits_62 ?_
          have b_62 := hro r_25
          refine r_le hx hb 68 dX4_pointFits_63 (by decide) ⟨by omega, by omega⟩ ⟨by omega, by omega⟩ (fun c_63 => ?_) (fun c_63 => ?_)
          ·
            refine lv_iload hx hb dX4_pointFits_68 (lv_at hl 6 rfl) ?_
            refine lv_iload_n hx hb dX4_pointFits_70 rfl (lv_at hl 4 rfl) ?_
            refine r_mul hx hb dX4_pointFits_71 ?_
            refine lv_istore (lv' := [(5, .int (iI (un * mn))), (7, .int (iI r_25)), (0, .ref (wt 0)), (1, .int (iI q)), (2, .ref (a)), (3, .int (iI mn)), (4, .int (iI k)), (6, .int (iI 0))]) hx hb dX4_pointFits_72 hl (by decide) rfl (fun ls hl => ?_)
            refine r_inc (k := 7) (lv' := [(6, .int (iI (0 + 1))), (5, .int (iI (un * mn))), (7, .int (iI r_25)), (0, .ref (wt 0)), (1, .int (iI q)), (2, .ref (a)), (3, .int (iI mn)), (4, .int (iI k))]) hx hb dX4_pointFits_74 hl rfl (by decide) rfl (fun ls hl => ?_)
            refine lv_goto (tgt := 6) hx hb dX4_pointFits_77 (by decide) ?_
            exact ih_6 (un * mn) (0 + 1) (ud B0 r_25 ((B0 r_25) + (wq q))) B1 B2 (by omega) (by rw [pw_s (by omega), ← h2]) (fun t q1 q2 => by rcases (show t = 0 ∨ t = 1 ∨ t = 2 by omega) with rfl | rfl | rfl <;> first | exact h3 _ (by omega) (by omega) | exact ts_new h4e hw1 c_63 | omega) (fun t q1 q2 => by rcases (show t = 0 ∨ t = 1 ∨ t = 2 by omega) with rfl | rfl | rfl <;> first | exact h4 _ (by omega) (by omega) | (have z := h4 1 (by omega) (by omega); simp [tsel] at z ⊢; exact z) | (have z := h4 2 (by omega) (by omega); simp [tsel] at z ⊢; exact z) | omega) (by omega) H locs (pick_P hP (is := [0, 1, 2, 3, 4, 5, 6, 7, 8, 9]) rfl) (hD.sub [0, 1, 2, 3, 4, 5, 6, 7, 8, 9] (by decide) rfl) hS ls (lv_sub hl [3, 4, 5, 6, 7, 1, 0] rfl)
          ·
            refine r_const hx hb dX4_pointFits_66 ?_
            exact hret [0, 1, 2, 3, 4, 5, 6, 7, 8, 9] (ud B0 r_25 ((B0 r_25) + (wq q)), B1, B2) dX4_pointFits_67 hP hD hS (by decide) rfl (by omega) (by first | exact Or.inr ⟨rfl, 0, by omega, by omega, ts_no h4e hw1 c_63⟩ | exact Or.inr ⟨rfl, 1, by omega, by omega, ts_no h4e hw1 c_63⟩ | exact Or.inr ⟨rfl, 2, by omega, by omega, ts_no h4e hw1 c_63⟩)
        ·
          refine r_ald2 hx hb hK hP 2 rfl rfl ⟨by omega, by omega, by omega⟩ dX4_pointFits_36 ?_
          simp [tsel] at hl5
          refine lv_iload hx hb dX4_pointFits_37 (lv_at hl 0 rfl) ?_
          refine lv_dup2_11 hx hb dX4_pointFits_39 rfl rfl ?_
          refine r_ald hx hb hK hP 4 rfl rfl ⟨by omega, by omega, by omega⟩ dX4_pointFits_40 ?_
          refine lv_aload_n hx hb dX4_pointFits_41 rfl (lv_at hl 1 rfl) ?_
          refine va_get (D := D) (C := RX4) (T := TX4) (N := 4) (ci := 4) (v := .ref (wt 1)) hx hb hts iw_X4_pointFits_4 hown hK hP 0 rfl rfl 1 (by decide) (hts _ fl_X4_pointFits_18) (fun _ h9 => h9) rfl dX4_pointFits_42 ?_
          refine lv_iload_n hx hb dX4_pointFits_45 rfl (lv_at hl 2 rfl) ?_
          refine r_ald hx hb hK hP 1 rfl rfl ⟨by omega, by omega, by omega⟩ dX4_pointFits_46 ?_
          have b_46 := hwq q
          refine r_add hx hb dX4_pointFits_47 ?_
          refine r_ast hx hb hK hP hD hS 4 rfl rfl ⟨by omega, by omega, by omega⟩ dX4_pointFits_48 (fun H locs hP hD hS => ?_)
          replace hP : va_P D vwCl [oW wt fs, ai (cy 0) (wt 1) 10 wq, aq (cy 3) (wt 2) 3 (fun ix => wt (3 + ix)), ai (cy 0) (wt 3) 4 B0, ai (cy 0) (wt 4) 4 (ud B1 r_25 ((B1 r_25) + (wq q))), ai (cy 0) (wt 5) 4 B2, oF fs sz be, ai (cy 0) (fs 1) 10 fp, ai (cy 0) (fs 2) 10 fc, ai (cy 0) a 4 ro] H := hP
          replace hD : va_D A [oW wt fs, ai (cy 0) (wt 1) 10 wq, aq (cy 3) (wt 2) 3 (fun ix => wt (3 + ix)), ai (cy 0) (wt 3) 4 B0, ai (cy 0) (wt 4) 4 (ud B1 r_25 ((B1 r_25) + (wq q))), ai (cy 0) (wt 5) 4 B2, oF fs sz be, ai (cy 0) (fs 1) 10 fp, ai (cy 0) (fs 2) 10 fc, ai (cy 0) a 4 ro] := hD
          refine lv_aload_n hx hb dX4_pointFits_49 rfl (lv_at hl 1 rfl) ?_
          refine va_get (D := D) (C := RX4) (T := TX4) (N := 4) (ci := 4) (v := .ref (wt 2)) hx hb hts iw_X4_pointFits_4 hown hK hP 0 rfl rfl 2 (by decide) (hts _ fl_X4_pointFits_24) (fun _ h9 => h9) rfl dX4_pointFits_50 ?_
          refine lv_iload hx hb dX4_pointFits_53 (lv_at hl 7 rfl) ?_
          refine r_ald2 hx hb hK hP 2 rfl rfl ⟨by omega, by omega, by omega⟩ dX4_pointFits_55 ?_
          refine lv_iload hx hb dX4_pointFits_56 (lv_at hl 0 rfl) ?_
          refine r_ald hx hb hK hP 4 rfl rfl ⟨by omega, by omega, by omega⟩ dX4_pointFits_58 ?_
          refine r_top ((B1 r_25) + (wq q)) (ud_at _ _ _) ?_
          refine lv_aload_n hx hb dX4_pointFits_59 rfl (lv_at hl 3 rfl) ?_
          refine lv_iload hx hb dX4_pointFits_60 (lv_at hl 0 rfl) ?_
          refine r_ald hx hb hK hP 9 rfl rfl ⟨by omega, by omega, by omega⟩ dX4_pointFits_62 ?_
          have b_62 := hro r_25
          refine r_le hx hb 68 dX4_pointFits_63 (by decide) ⟨by omega, by omega⟩ ⟨by omega, by omega⟩ (fun c_63 => ?_) (fun c_63 => ?_)
          ·
            refine lv_iload hx hb dX4_pointFits_68 (lv_at hl 6 rfl) ?_
            refine lv_iload_n hx hb dX4_pointFits_70 rfl (lv_at hl 4 rfl) ?_
            refine r_mul hx hb dX4_pointFits_71 ?_
            refine lv_istore (lv' := [(5, .int (iI (un * mn))), (7, .int (iI r_25)), (0, .ref (wt 0)), (1, .int (iI q)), (2, .ref (a)), (3, .int (iI mn)), (4, .int (iI k)), (6, .int (iI 1))]) hx hb dX4_pointFits_72 hl (by decide) rfl (fun ls hl => ?_)
            refine r_inc (k := 7) (lv' := [(6, .int (iI (1 + 1))), (5, .int (iI (un * mn))), (7, .int (iI r_25)), (0, .ref (wt 0)), (1, .int (iI q)), (2, .ref (a)), (3, .int (iI mn)), (4, .int (iI k))]) hx hb dX4_pointFits_74 hl rfl (by decide) rfl (fun ls hl => ?_)
            refine lv_goto (tgt := 6) hx hb dX4_pointFits_77 (by decide) ?_
            exact ih_6 (un * mn) (1 + 1) B0 (ud B1 r_25 ((B1 r_25) + (wq q))) B2 (by omega) (by rw [pw_s (by omega), ← h2]) (fun t q1 q2 => by rcases (show t = 0 ∨ t = 1 ∨ t = 2 by omega) with rfl | rfl | rfl <;> first | exact h3 _ (by omega) (by omega) | exact ts_new h4e hw1 c_63 | omega) (fun t q1 q2 => by rcases (show t = 0 ∨ t = 1 ∨ t = 2 by omega) with rfl | rfl | rfl <;> first | exact h4 _ (by omega) (by omega) | (have z := h4 1 (by omega) (by omega); simp [tsel] at z ⊢; exact z) | (have z := h4 2 (by omega) (by omega); simp [tsel] at z ⊢; exact z) | omega) (by omega) H locs (pick_P hP (is := [0, 1, 2, 3, 4, 5, 6, 7, 8, 9]) rfl) (hD.sub [0, 1, 2, 3, 4, 5, 6, 7, 8, 9] (by decide) rfl) hS ls (lv_sub hl [3, 4, 5, 6, 7, 1, 0] rfl)
          ·
            refine r_const hx hb dX4_pointFits_66 ?_
            exact hret [0, 1, 2, 3, 4, 5, 6, 7, 8, 9] (B0, ud B1 r_25 ((B1 r_25) + (wq q)), B2) dX4_pointFits_67 hP hD hS (by decide) rfl (by omega) (by first | exact Or.inr ⟨rfl, 0, by omega, by omega, ts_no h4e hw1 c_63⟩ | exact Or.inr ⟨rfl, 1, by omega, by omega, ts_no h4e hw1 c_63⟩ | exact Or.inr ⟨rfl, 2, by omega, by omega, ts_no h4e hw1 c_63⟩)
        ·
          refine r_ald2 hx hb hK hP 2 rfl rfl ⟨by omega, by omega, by omega⟩ dX4_pointFits_36 ?_
          simp [tsel] at hl5
          refine lv_iload hx hb dX4_pointFits_37 (lv_at hl 0 rfl) ?_
          refine lv_dup2_11 hx hb dX4_pointFits_39 rfl rfl ?_
          refine r_ald hx hb hK hP 5 rfl rfl ⟨by omega, by omega, by omega⟩ dX4_pointFits_40 ?_
          refine lv_aload_n hx hb dX4_pointFits_41 rfl (lv_at hl 1 rfl) ?_
          refine va_get (D := D) (C := RX4) (T := TX4) (N := 4) (ci := 4) (v := .ref (wt 1)) hx hb hts iw_X4_pointFits_4 hown hK hP 0 rfl rfl 1 (by decide) (hts _ fl_X4_pointFits_18) (fun _ h9 => h9) rfl dX4_pointFits_42 ?_
          refine lv_iload_n hx hb dX4_pointFits_45 rfl (lv_at hl 2 rfl) ?_
          refine r_ald hx hb hK hP 1 rfl rfl ⟨by omega, by omega, by omega⟩ dX4_pointFits_46 ?_
          have b_46 := hwq q
          refine r_add hx hb dX4_pointFits_47 ?_
          refine r_ast hx hb hK hP hD hS 5 rfl rfl ⟨by omega, by omega, by omega⟩ dX4_pointFits_48 (fun H locs hP hD hS => ?_)
          replace hP : va_P D vwCl [oW wt fs, ai (cy 0) (wt 1) 10 wq, aq (cy 3) (wt 2) 3 (fun ix => wt (3 + ix)), ai (cy 0) (wt 3) 4 B0, ai (cy 0) (wt 4) 4 B1, ai (cy 0) (wt 5) 4 (ud B2 r_25 ((B2 r_25) + (wq q))), oF fs sz be, ai (cy 0) (fs 1) 10 fp, ai (cy 0) (fs 2) 10 fc, ai (cy 0) a 4 ro] H := hP
          replace hD : va_D A [oW wt fs, ai (cy 0) (wt 1) 10 wq, aq (cy 3) (wt 2) 3 (fun ix => wt (3 + ix)), ai (cy 0) (wt 3) 4 B0, ai (cy 0) (wt 4) 4 B1, ai (cy 0) (wt 5) 4 (ud B2 r_25 ((B2 r_25) + (wq q))), oF fs sz be, ai (cy 0) (fs 1) 10 fp, ai (cy 0) (fs 2) 10 fc, ai (cy 0) a 4 ro] := hD
          refine lv_aload_n hx hb dX4_pointFits_49 rfl (lv_at hl 1 rfl) ?_
          refine va_get (D := D) (C := RX4) (T := TX4) (N := 4) (ci := 4) (v := .ref (wt 2)) hx hb hts iw_X4_pointFits_4 hown hK hP 0 rfl rfl 2 (by decide) (hts _ fl_X4_pointFits_24) (fun _ h9 => h9) rfl dX4_pointFits_50 ?_
          refine lv_iload hx hb dX4_pointFits_53 (lv_at hl 7 rfl) ?_
          refine r_ald2 hx hb hK hP 2 rfl rfl ⟨by omega, by omega, by omega⟩ dX4_pointFits_55 ?_
          refine lv_iload hx hb dX4_pointFits_56 (lv_at hl 0 rfl) ?_
          refine r_ald hx hb hK hP 5 rfl rfl ⟨by omega, by omega, by omega⟩ dX4_pointFits_58 ?_
          refine r_top ((B2 r_25) + (wq q)) (ud_at _ _ _) ?_
          refine lv_aload_n hx hb dX4_pointFits_59 rfl (lv_at hl 3 rfl) ?_
          refine lv_iload hx hb dX4_pointFits_60 (lv_at hl 0 rfl) ?_
          refine r_ald hx hb hK hP 9 rfl rfl ⟨by omega, by omega, by omega⟩ dX4_pointFits_62 ?_
          have b_62 := hro r_25
          refine r_le hx hb 68 dX4_pointFits_63 (by decide) ⟨by omega, by omega⟩ ⟨by omega, by omega⟩ (fun c_63 => ?_) (fun c_63 => ?_)
          ·
            refine lv_iload hx hb dX4_pointFits_68 (lv_at hl 6 rfl) ?_
            refine lv_iload_n hx hb dX4_pointFits_70 rfl (lv_at hl 4 rfl) ?_
            refine r_mul hx hb dX4_pointFits_71 ?_
            refine lv_istore (lv' := [(5, .int (iI (un * mn))), (7, .int (iI r_25)), (0, .ref (wt 0)), (1, .int (iI q)), (2, .ref (a)), (3, .int (iI mn)), (4, .int (iI k)), (6, .int (iI 2))]) hx hb dX4_pointFits_72 hl (by decide) rfl (fun ls hl => ?_)
            refine r_inc (k := 7) (lv' := [(6, .int (iI (2 + 1))), (5, .int (iI (un * mn))), (7, .int (iI r_25)), (0, .ref (wt 0)), (1, .int (iI q)), (2, .ref (a)), (3, .int (iI mn)), (4, .int (iI k))]) hx hb dX4_pointFits_74 hl rfl (by decide) rfl (fun ls hl => ?_)
            refine lv_goto (tgt := 6) hx hb dX4_pointFits_77 (by decide) ?_
            exact ih_6 (un * mn) (2 + 1) B0 B1 (ud B2 r_25 ((B2 r_25) + (wq q))) (by omega) (by rw [pw_s (by omega), ← h2]) (fun t q1 q2 => by rcases (show t = 0 ∨ t = 1 ∨ t = 2 by omega) with rfl | rfl | rfl <;> first | exact h3 _ (by omega) (by omega) | exact ts_new h4e hw1 c_63 | omega) (fun t q1 q2 => by rcases (show t = 0 ∨ t = 1 ∨ t = 2 by omega) with rfl | rfl | rfl <;> first | exact h4 _ (by omega) (by omega) | (have z := h4 1 (by omega) (by omega); simp [tsel] at z ⊢; exact z) | (have z := h4 2 (by omega) (by omega); simp [tsel] at z ⊢; exact z) | omega) (by omega) H locs (pick_P hP (is := [0, 1, 2, 3, 4, 5, 6, 7, 8, 9]) rfl) (hD.sub [0, 1, 2, 3, 4, 5, 6, 7, 8, 9] (by decide) rfl) hS ls (lv_sub hl [3, 4, 5, 6, 7, 1, 0] rfl)
          ·
            refine r_const hx hb dX4_pointFits_66 ?_
            exact hret [0, 1, 2, 3, 4, 5, 6, 7, 8, 9] (B0, B1, ud B2 r_25 ((B2 r_25) + (wq q))) dX4_pointFits_67 hP hD hS (by decide) rfl (by omega) (by first | exact Or.inr ⟨rfl, 0, by omega, by omega, ts_no h4e hw1 c_63⟩ | exact Or.inr ⟨rfl, 1, by omega, by omega, ts_no h4e hw1 c_63⟩ | exact Or.inr ⟨rfl, 2, by omega, by omega, ts_no h4e hw1 c_63⟩)
  exact lp_6 _ 1 0 l0 l1 l2 (by omega) (rfl) (fun t q1 q2 => by omega) (fun t _ _ => rfl) (Nat.lt_succ_self _) H locs (pick_P hP (is := [0, 1, 2, 3, 4, 5, 6, 7, 8, 9]) rfl) (hD.sub [0, 1, 2, 3, 4, 5, 6, 7, 8, 9] (by decide) rfl) hS ls (lv_sub hl [2, 3, 4, 5, 6, 1, 0] rfl)
