abbrev rm_X4_countFitting : Room := { frames := 2, cells := 0, slots := 0, locals := 49 }
theorem fl_X4_countFitting_12 : Cond.fieldLink RX4 12 "WalkPasses$Weights" "candidates" "LWalkPasses$Plans;" ∈ wsX4_countFitting := by decide +kernel
theorem iw_X4_countFitting_3 : ∀ w ∈ u_ws RX3 TX3 4, w ∈ wsX4_countFitting := by decide +kernel
theorem iw_X4_countFitting_4 : ∀ w ∈ u_ws RX4 TX4 4, w ∈ wsX4_countFitting := by decide +kernel
set_option maxHeartbeats 4000000 in
set_option maxRecDepth 100000 in
theorem k_X4_countFitting (l : Launch) (D : va_G) (cy : Nat → ClassId) (wt fs : Nat → Nat) (a : Nat) (z : Nat) (wq l0 l1 l2 : Int → Int) (sz be : Int) (fp fc : Int → Int) (ro : Int → Int) (mn k : Int) (hk : 1 ≤ k ∧ k ≤ 3) (hmn : 2 ≤ mn ∧ mn ≤ 4) (hFI : PlI sz be fp fc) (hwq : ∀ j, 0 ≤ wq j ∧ wq j ≤ 216) (hro : ∀ j, 0 ≤ ro j ∧ ro j ≤ 99) : CtI l yX4_countFitting wsX4_countFitting rm_X4_countFitting D (tyL cy) [.ref (wt 0), .ref (a), .int (iI mn), .int (iI k)] [oW wt fs, ai (cy 0) (wt 1) 10 wq, aq (cy 3) (wt 2) 3 (fun ix => wt (3 + ix)), ai (cy 0) (wt 3) 4 l0, ai (cy 0) (wt 4) 4 l1, ai (cy 0) (wt 5) 4 l2, oF fs sz be, ai (cy 0) (fs 1) 10 fp, ai (cy 0) (fs 2) 10 fc, ai (cy 0) a 4 ro] z (fun (r : Int) (u : (Int → Int) × (Int → Int) × (Int → Int)) => (0 ≤ r ∧ r ≤ sz) ∧ (∀ i, 0 ≤ i → i < r → okA (fun i => wq (fp i)) (fun i => fc (fp i)) ro mn k.toNat i) ∧ (r < sz → ¬ okA (fun i => wq (fp i)) (fun i => fc (fp i)) ro mn k.toNat r)) (fun (u : (Int → Int) × (Int → Int) × (Int → Int)) => [oW wt fs, ai (cy 0) (wt 1) 10 wq, aq (cy 3) (wt 2) 3 (fun ix => wt (3 + ix)), ai (cy 0) (wt 3) 4 u.1, ai (cy 0) (wt 4) 4 u.2.1, ai (cy 0) (wt 5) 4 u.2.2, oF fs sz be, ai (cy 0) (fs 1) 10 fp, ai (cy 0) (fs 2) 10 fc, ai (cy 0) a 4 ro]) 0 0 := by
  refine ct_i (cc := cX4_countFitting) (maxL := 5) (by decide) rfl (Nat.le_of_ble_eq_true rfl) ?_
  intro p e s m args below meth c A Q H locs ls hx hb hml hown hin hts hK hN hP hD hS hA hl hret
  replace hl : lv_has ls 5 [(0, .ref (wt 0)), (1, .ref (a)), (2, .int (iI mn)), (3, .int (iI k))] := hl
  replace hown : s.vm.findClass RX4 = some m.cls := hown
  obtain ⟨⟨⟨hs0, hs1⟩, hb0, hb1⟩, ⟨hfp, hfc⟩, hdi⟩ := id hFI
  refine lv_aload_n hx hb dX4_countFitting_0 rfl (lv_at hl 0 rfl) ?_
  refine lv_iload_n hx hb dX4_countFitting_1 rfl (lv_at hl 3 rfl) ?_
  have M_2 := k_X4_empty l D cy wt fs H.size wq l0 l1 l2 k (hk)
  refine kV_v (wr := [oF fs sz be, ai (cy 0) (fs 1) 10 fp, ai (cy 0) (fs 2) 10 fc, ai (cy 0) a 4 ro]) (As := [.int (iI k)]) (rest := []) (q := (RX4, TX4, 4)) (ci := 4) ⟨hx, hb, hml, hown, hts⟩ M_2 0 rfl rfl (cwV 1 hts gX4_countFitting_X4_empty rfl rfl rfl (by decide +kernel) ⟨Nat.le_of_ble_eq_true rfl, Nat.le_of_ble_eq_true rfl⟩) hN hK hP hD hS hA [0, 1, 2, 3, 4, 5] [6, 7, 8, 9] rfl rfl (by decide) (by decide) (by decide) rfl hl.1 rfl (Nat.le_of_ble_eq_true rfl) dX4_countFitting_2 ⟨Nat.le_of_ble_eq_true rfl, Nat.le_of_ble_eq_true rfl⟩ (fun u_2 H locs hw_2 hP hD hS => ?_)
  obtain ⟨v_1, v_2, v_3⟩ := u_2
  try dsimp only at hw_2
  replace hP : va_P D vwCl [oF fs sz be, ai (cy 0) (fs 1) 10 fp, ai (cy 0) (fs 2) 10 fc, ai (cy 0) a 4 ro, oW wt fs, ai (cy 0) (wt 1) 10 wq, aq (cy 3) (wt 2) 3 (fun ix => wt (3 + ix)), ai (cy 0) (wt 3) 4 v_1, ai (cy 0) (wt 4) 4 v_2, ai (cy 0) (wt 5) 4 v_3] H := hP
  replace hD : va_D A [oF fs sz be, ai (cy 0) (fs 1) 10 fp, ai (cy 0) (fs 2) 10 fc, ai (cy 0) a 4 ro, oW wt fs, ai (cy 0) (wt 1) 10 wq, aq (cy 3) (wt 2) 3 (fun ix => wt (3 + ix)), ai (cy 0) (wt 3) 4 v_1, ai (cy 0) (wt 4) 4 v_2, ai (cy 0) (wt 5) 4 v_3] := hD
  refine r_const hx hb dX4_countFitting_5 ?_
  refine lv_istore (lv' := [(4, .int (iI 0)), (0, .ref (wt 0)), (1, .ref (a)), (2, .int (iI mn)), (3, .int (iI k))]) hx hb dX4_countFitting_6 hl (by decide) rfl (fun ls hl => ?_)
  have lp_8 : ∀ (fu : Nat) (i : Int) (B0 : Int → Int) (B1 : Int → Int) (B2 : Int → Int), (0 ≤ i ∧ i ≤ sz) → (∀ j, 0 ≤ j → j < k → tsel B0 B1 B2 j = ldS (fun i => wq (fp i)) (fun i => fc (fp i)) mn j.toNat i.toNat) → (∀ t, 0 ≤ t → t < i → okA (fun i => wq (fp i)) (fun i => fc (fp i)) ro mn k.toNat t) → (sz - i).toNat < fu → ∀ (H : Heap) (locs : List Loc), va_P D vwCl [oF fs sz be, ai (cy 0) (fs 1) 10 fp, ai (cy 0) (fs 2) 10 fc, ai (cy 0) a 4 ro, oW wt fs, ai (cy 0) (wt 1) 10 wq, aq (cy 3) (wt 2) 3 (fun ix => wt (3 + ix)), ai (cy 0) (wt 3) 4 B0, ai (cy 0) (wt 4) 4 B1, ai (cy 0) (wt 5) 4 B2] H → va_D A [oF fs sz be, ai (cy 0) (fs 1) 10 fp, ai (cy 0) (fs 2) 10 fc, ai (cy 0) a 4 ro, oW wt fs, ai (cy 0) (wt 1) 10 wq, aq (cy 3) (wt 2) 3 (fun ix => wt (3 + ix)), ai (cy 0) (wt 3) 4 B0, ai (cy 0) (wt 4) 4 B1, ai (cy 0) (wt 5) 4 B2] → va_S A s.heap H locs → ∀ (ls : Array Slot), lv_has ls 5 [(0, .ref (wt 0)), (1, .ref (a)), (2, .int (iI mn)), (3, .int (iI k)), (4, .int (iI i))] → W p l e rm_X4_countFitting s m args below meth c H locs 0 0 Q (F0 m 8 ls []) := by
    intro fu
    induction fu with
    | zero =>
      intro i B0 B1 B2 h1 h2 h3 hm
      exact absurd hm (Nat.not_lt_zero _)
    | succ fu ih_8 =>
      intro i B0 B1 B2 h1 h2 h3 hm H locs hP hD hS ls hl
      refine lv_iload hx hb dX4_countFitting_8 (lv_at hl 4 rfl) ?_
      refine lv_aload_n hx hb dX4_countFitting_10 rfl (lv_at hl 0 rfl) ?_
      refine va_get (D := D) (C := RX4) (T := TX4) (N := 4) (ci := 4) (v := .ref (fs 0)) hx hb hts iw_X4_countFitting_4 hown hK hP 4 rfl rfl 0 (by decide) (hts _ fl_X4_countFitting_12) (fun _ h9 => h9) rfl dX4_countFitting_11 ?_
      refine va_getN (D := D) (C := RX3) (T := TX3) (N := 4) (ci := 3) (v := .int (iI sz)) hx hb hts iw_X4_countFitting_3 hown hK hP 0 rfl rfl 1 (by decide) (nfX4_51 hN) (fun _ h9 => h9) rfl dX4_countFitting_14 ?_
      refine r_ge hx hb 49 dX4_countFitting_17 (by decide) ⟨by omega, by omega⟩ ⟨by omega, by omega⟩ (fun c_17 => ?_) (fun c_17 => ?_)
      ·
        refine lv_aload_n hx hb dX4_countFitting_49 rfl (lv_at hl 0 rfl) ?_
        refine va_get (D := D) (C := RX4) (T := TX4) (N := 4) (ci := 4) (v := .ref (fs 0)) hx hb hts iw_X4_countFitting_4 hown hK hP 4 rfl rfl 0 (by decide) (hts _ fl_X4_countFitting_12) (fun _ h9 => h9) rfl dX4_countFitting_50 ?_
        refine va_getN (D := D) (C := RX3) (T := TX3) (N := 4) (ci := 3) (v := .int (iI sz)) hx hb hts iw_X4_countFitting_3 hown hK hP 0 rfl rfl 1 (by decide) (nfX4_51 hN) (fun _ h9 => h9) rfl dX4_countFitting_53 ?_
        exact hret [4, 5, 6, 7, 8, 9, 0, 1, 2, 3] (B0, B1, B2) dX4_countFitting_56 hP hD hS (by decide) rfl (⟨by omega, fun t q1 q2 => h3 t q1 (by omega), fun q => absurd q (by omega)⟩)
      ·
        refine lv_aload_n hx hb dX4_countFitting_20 rfl (lv_at hl 0 rfl) ?_
        refine lv_aload_n hx hb dX4_countFitting_21 rfl (lv_at hl 0 rfl) ?_
        refine va_get (D := D) (C := RX4) (T := TX4) (N := 4) (ci := 4) (v := .ref (fs 0)) hx hb hts iw_X4_countFitting_4 hown hK hP 4 rfl rfl 0 (by decide) (hts _ fl_X4_countFitting_12) (fun _ h9 => h9) rfl dX4_countFitting_22 ?_
        refine va_getN (D := D) (C := RX3) (T := TX3) (N := 4) (ci := 3) (v := .ref (fs 1)) hx hb hts iw_X4_countFitting_3 hown hK hP 0 rfl rfl 0 (by decide) (nfX4_80 hN) (fun _ h9 => h9) rfl dX4_countFitting_25 ?_
        refine lv_iload hx hb dX4_countFitting_28 (lv_at hl 4 rfl) ?_
        refine r_ald hx hb hK hP 1 rfl rfl ⟨by omega, by omega, by omega⟩ dX4_countFitting_30 ?_
        have b_30 := hfp i
        refine lv_aload_n hx hb dX4_countFitting_31 rfl (lv_at hl 1 rfl) ?_
        refine lv_iload_n hx hb dX4_countFitting_32 rfl (lv_at hl 2 rfl) ?_
        refine lv_iload_n hx hb dX4_countFitting_33 rfl (lv_at hl 3 rfl) ?_
        have M_34 := k_X4_pointFits l D cy wt fs a H.size wq B0 B1 B2 sz be fp fc ro (fp i) mn k (hk) (hmn) (by omega) (hfc) (hwq) (hro) (fun j q1 q2 s => by rw [h2 j q1 q2]; have := ldS_b (w := fun i => wq (fp i)) (c := fun i => fc (fp i)) (mn := mn) (j := j.toNat) (fun i => hwq (fp i)) i.toNat s; omega)
        refine kV_i (wr := []) (As := [.int (iI (fp i)), .ref (a), .int (iI mn), .int (iI k)]) (rest := []) (q := (RX4, TX4, 4)) (ci := 4) ⟨hx, hb, hml, hown, hts⟩ M_34 4 rfl rfl (cwV 4 hts gX4_countFitting_X4_pointFits rfl rfl rfl (by decide +kernel) ⟨Nat.le_of_ble_eq_true rfl, Nat.le_of_ble_eq_true rfl⟩) hN hK hP hD hS hA [4, 5, 6, 7, 8, 9, 0, 1, 2, 3] [] rfl rfl (by decide) (by decide) (by decide) rfl hl.1 rfl (Nat.le_of_ble_eq_true rfl) dX4_countFitting_34 ⟨Nat.le_of_ble_eq_true rfl, Nat.le_of_ble_eq_true rfl⟩ (fun r_34 u_34 H locs hw_34 hP hD hS => ?_)
        obtain ⟨v_4, v_5, v_6⟩ := u_34
        try dsimp only at hw_34
        replace hP : va_P D vwCl [oW wt fs, ai (cy 0) (wt 1) 10 wq, aq (cy 3) (wt 2) 3 (fun ix => wt (3 + ix)), ai (cy 0) (wt 3) 4 v_4, ai (cy 0) (wt 4) 4 v_5, ai (cy 0) (wt 5) 4 v_6, oF fs sz be, ai (cy 0) (fs 1) 10 fp, ai (cy 0) (fs 2) 10 fc, ai (cy 0) a 4 ro] H := hP
        replace hD : va_D A [oW wt fs, ai (cy 0) (wt 1) 10 wq, aq (cy 3) (wt 2) 3 (fun ix => wt (3 + ix)), ai (cy 0) (wt 3) 4 v_4, ai (cy 0) (wt 4) 4 v_5, ai (cy 0) (wt 5) 4 v_6, oF fs sz be, ai (cy 0) (fs 1) 10 fp, ai (cy 0) (fs 2) 10 fc, ai (cy 0) a 4 ro] := hD
        refine r_ne0 hx hb 43 dX4_countFitting_37 (by decide) ⟨by omega, by omega⟩ (fun c_37 => ?_) (fun c_37 => ?_)
        ·
          refine r_inc (k := 4) (lv' := [(4, .int (iI (i + 1))), (0, .ref (wt 0)), (1, .ref (a)), (2, .int (iI mn)), (3, .int (iI k))]) hx hb dX4_countFitting_43 hl rfl (by decide) rfl (fun ls hl => ?_)
          refine lv_goto (tgt := 8) hx hb dX4_countFitting_46 (by decide) ?_
          have hy := cf_yes (w := fun i => wq (fp i)) (c := fun i => fc (fp i)) (ro := ro) h1.1 h2 (by rcases hw_34 with ⟨-, q⟩ | ⟨q, -⟩; (exact q); (exact absurd q c_37))
          exact ih_8 (i + 1) v_4 v_5 v_6 (by omega) (hy.1) (fun t q1 q2 => by by_cases e : t = i; (subst e; exact hy.2); (exact h3 t q1 (by omega))) (by omega) H locs (pick_P hP (is := [6, 7, 8, 9, 0, 1, 2, 3, 4, 5]) rfl) (hD.sub [6, 7, 8, 9, 0, 1, 2, 3, 4, 5] (by decide) rfl) hS ls (lv_sub hl [1, 2, 3, 4, 0] rfl)
        ·
          refine lv_iload hx hb dX4_countFitting_40 (lv_at hl 4 rfl) ?_
          exact hret [0, 1, 2, 3, 4, 5, 6, 7, 8, 9] (v_4, v_5, v_6) dX4_countFitting_42 hP hD hS (by decide) rfl (⟨by omega, h3, fun _ => cf_no h1.1 h2 (by rcases hw_34 with ⟨q, -⟩ | ⟨-, q⟩; (exact absurd q (by omega)); (exact q))⟩)
  exact lp_8 _ 0 v_1 v_2 v_3 (by omega) (hw_2) (fun t q1 q2 => by omega) (Nat.lt_succ_self _) H locs (pick_P hP (is := [0, 1, 2, 3, 4, 5, 6, 7, 8, 9]) rfl) (hD.sub [0, 1, 2, 3, 4, 5, 6, 7, 8, 9] (by decide) rfl) hS ls (lv_sub hl [1, 2, 3, 4, 0] rfl)
abbrev rm_X4_somePlanFits : Room := { frames := 3, cells := 0, slots := 0, locals := 73 }
theorem fl_X4_somePlanFits_12 : Cond.fieldLink RX4 12 "WalkPasses$Weights" "candidates" "LWalkPasses$Plans;" ∈ wsX4_somePlanFits := by decide +kernel
theorem iw_X4_somePlanFits_1 : ∀ w ∈ u_ws RX1 TX1 10, w ∈ wsX4_somePlanFits := by decide +kernel
theorem iw_X4_somePlanFits_3 : ∀ w ∈ u_ws RX3 TX3 4, w ∈ wsX4_somePlanFits := by decide +kernel
theorem iw_X4_somePlanFits_4 : ∀ w ∈ u_ws RX4 TX4 4, w ∈ wsX4_somePlanFits := by decide +kernel
set_option maxHeartbeats 4000000 in
set_option maxRecDepth 100000 in
theorem k_X4_somePlanFits (l : Launch) (D : va_G) (cy : Nat → ClassId) (wt fs d : Nat → Nat) (z : Nat) (wq l0 l1 l2 : Int → Int) (sz be : Int) (fp fc : Int → Int) (lt mn vs : Int) (pt tk mr od pl rm cd : Int → Int) (k : Int) (hI : DI lt mn pt tk mr od pl rm cd) (hk : 1 ≤ k ∧ k ≤ 3) (hpw : pw mn k.toNat ≤ 16) (hfp : ∀ j, 0 ≤ fp j ∧ fp j ≤ 9) (hfc : ∀ j, 0 ≤ fc j ∧ fc j ≤ 63) : CtI l yX4_somePlanFits wsX4_somePlanFits rm_X4_somePlanFits D (tyL cy) [.ref (wt 0), .ref (d 0), .int (iI k)] [oW wt fs, ai (cy 0) (wt 1) 10 wq, aq (cy 3) (wt 2) 3 (fun ix => wt (3 + ix)), ai (cy 0) (wt 3) 4 l0, ai (cy 0) (wt 4) 4 l1, ai (cy 0) (wt 5) 4 l2, oF fs sz be, ai (cy 0) (fs 1) 10 fp, ai (cy 0) (fs 2) 10 fc, oD d lt mn vs, ai (cy 0) (d 1) 24 pt, ai (cy 0) (d 2) 24 tk, ai (cy 0) (d 3) 24 mr, ai (cy 0) (d 4) 10 od, ai (cy 0) (d 5) 10 pl, ai (cy 0) (d 6) 4 rm, ai (cy 0) (d 7) 10 cd] z (fun (r : Int) (u : Int × (Int → Int) × (Int → Int) × (Int → Int) × (Int → Int) × (Int → Int)) => ((∀ j, 0 ≤ u.2.1 j ∧ u.2.1 j ≤ 9) ∧ (∀ j, 0 ≤ u.2.2.1 j ∧ u.2.2.1 j ≤ 63)) ∧ ((r = 1 ∧ ∃ Y ∈ (plsA mn k (usd (hasI pt lt) od 10).length), FitL (fun i => wS pt tk mr lt (lg (usd (hasI pt lt) od 10) i)) rm mn k.toNat Y) ∨ (r = 0 ∧ ∀ Y ∈ (plsA mn k (usd (hasI pt lt) od 10).length), ¬ FitL (fun i => wS pt tk mr lt (lg (usd (hasI pt lt) od 10) i)) rm mn k.toNat Y))) (fun (u : Int × (Int → Int) × (Int → Int) × (Int → Int) × (Int → Int) × (Int → Int)) => [oW wt fs, ai (cy 0) (wt 1) 10 (wS pt tk mr lt), aq (cy 3) (wt 2) 3 (fun ix => wt (3 + ix)), ai (cy 0) (wt 3) 4 u.2.2.2.1, ai (cy 0) (wt 4) 4 u.2.2.2.2.1, ai (cy 0) (wt 5) 4 u.2.2.2.2.2, oF fs u.1 (pw mn k.toNat), ai (cy 0) (fs 1) 10 u.2.1, ai (cy 0) (fs 2) 10 u.2.2.1, oD d lt mn vs, ai (cy 0) (d 1) 24 pt, ai (cy 0) (d 2) 24 tk, ai (cy 0) (d 3) 24 mr, ai (cy 0) (d 4) 10 od, ai (cy 0) (d 5) 10 pl, ai (cy 0) (d 6) 4 rm, ai (cy 0) (d 7) 10 cd]) 0 0 := by
  refine ct_z (cc := cX4_somePlanFits) (maxL := 6) (by decide) rfl (Nat.le_of_ble_eq_true rfl) ?_
  intro p e s m args below meth c A Q H locs ls hx hb hml hown hin hts hK hN hP hD hS hA hl hret
  replace hl : lv_has ls 6 [(0, .ref (wt 0)), (1, .ref (d 0)), (2, .int (iI k))] := hl
  replace hown : s.vm.findClass RX4 = some m.cls := hown
  obtain ⟨⟨⟨hlt0, hlt1⟩, hmn0, hmn1⟩, ⟨hpt, htk, hmr⟩, ⟨hod, hpl, hpo, hop⟩, hrm, hcd⟩ := id hI
  have hpb := pw_b hmn0 hmn1 (n := k.toNat) (by omega)
  refine lv_aload_n hx hb dX4_somePlanFits_0 rfl (lv_at hl 0 rfl) ?_
  refine lv_aload_n hx hb dX4_somePlanFits_1 rfl (lv_at hl 1 rfl) ?_
  have M_2 := k_X4_weigh l D cy wt fs d H.size wq l0 l1 l2 lt mn vs pt tk mr od pl rm cd (hI)
  refine kV_v (wr := [oF fs sz be, ai (cy 0) (fs 1) 10 fp, ai (cy 0) (fs 2) 10 fc]) (As := [.ref (d 0)]) (rest := []) (q := (RX4, TX4, 4)) (ci := 4) ⟨hx, hb, hml, hown, hts⟩ M_2 0 rfl rfl (cwV 1 hts gX4_somePlanFits_X4_weigh rfl rfl rfl (by decide +kernel) ⟨Nat.le_of_ble_eq_true rfl, Nat.le_of_ble_eq_true rfl⟩) hN hK hP hD hS hA [0, 1, 2, 3, 4, 5, 9, 10, 11, 12, 13, 14, 15, 16] [6, 7, 8] rfl rfl (by decide) (by decide) (by decide) rfl hl.1 rfl (Nat.le_of_ble_eq_true rfl) dX4_somePlanFits_2 ⟨Nat.le_of_ble_eq_true rfl, Nat.le_of_ble_eq_true rfl⟩ (fun u_2 H locs hw_2 hP hD hS => ?_)
  replace hP : va_P D vwCl [oF fs sz be, ai (cy 0) (fs 1) 10 fp, ai (cy 0) (fs 2) 10 fc, oW wt fs, ai (cy 0) (wt 1) 10 (wS pt tk mr lt), aq (cy 3) (wt 2) 3 (fun ix => wt (3 + ix)), ai (cy 0) (wt 3) 4 l0, ai (cy 0) (wt 4) 4 l1, ai (cy 0) (wt 5) 4 l2, oD d lt mn vs, ai (cy 0) (d 1) 24 pt, ai (cy 0) (d 2) 24 tk, ai (cy 0) (d 3) 24 mr, ai (cy 0) (d 4) 10 od, ai (cy 0) (d 5) 10 pl, ai (cy 0) (d 6) 4 rm, ai (cy 0) (d 7) 10 cd] H := hP
  replace hD : va_D A [oF fs sz be, ai (cy 0) (fs 1) 10 fp, ai (cy 0) (fs 2) 10 fc, oW wt fs, ai (cy 0) (wt 1) 10 (wS pt tk mr lt), aq (cy 3) (wt 2) 3 (fun ix => wt (3 + ix)), ai (cy 0) (wt 3) 4 l0, ai (cy 0) (wt 4) 4 l1, ai (cy 0) (wt 5) 4 l2, oD d lt mn vs, ai (cy 0) (d 1) 24 pt, ai (cy 0) (d 2) 24 tk, ai (cy 0) (d 3) 24 mr, ai (cy 0) (d 4) 10 od, ai (cy 0) (d 5) 10 pl, ai (cy 0) (d 6) 4 rm, ai (cy 0) (d 7) 10 cd] := hD
  refine lv_aload_n hx hb dX4_somePlanFits_5 rfl (lv_at hl 0 rfl) ?_
  refine va_get (D := D) (C := RX4) (T := TX4) (N := 4) (ci := 4) (v := .ref (fs 0)) hx hb hts iw_X4_somePlanFits_4 hown hK hP 3 rfl rfl 0 (by decide) (hts _ fl_X4_somePlanFits_12) (fun _ h9 => h9) rfl dX4_somePlanFits_6 ?_
  refine lv_aload_n hx hb dX4_somePlanFits_9 rfl (lv_at hl 1 rfl) ?_
  refine lv_iload_n hx hb dX4_somePlanFits_10 rfl (lv_at hl 2 rfl) ?_
  have M_11 := k_X3_begin l D cy fs d H.size sz be fp fc lt mn vs pt tk mr od pl rm cd k (hI) (hk) (hfp) (hfc)
  refine kV_i (wr := [oW wt fs, ai (cy 0) (wt 1) 10 (wS pt tk mr lt), aq (cy 3) (wt 2) 3 (fun ix => wt (3 + ix)), ai (cy 0) (wt 3) 4 l0, ai (cy 0) (wt 4) 4 l1, ai (cy 0) (wt 5) 4 l2]) (As := [.ref (d 0), .int (iI k)]) (rest := []) (q := (RX3, TX3, 4)) (ci := 3) ⟨hx, hb, hml, hown, hts⟩ M_11 0 rfl rfl (cwV 2 hts gX4_somePlanFits_X3_begin rfl rfl rfl (by decide +kernel) ⟨Nat.le_of_ble_eq_true rfl, Nat.le_of_ble_eq_true rfl⟩) hN hK hP hD hS hA [0, 1, 2, 9, 10, 11, 12, 13, 14, 15, 16] [3, 4, 5, 6, 7, 8] rfl rfl (by decide) (by decide) (by decide) rfl hl.1 rfl (Nat.le_of_ble_eq_true rfl) dX4_somePlanFits_11 ⟨Nat.le_of_ble_eq_true rfl, Nat.le_of_ble_eq_true rfl⟩ (fun r_11 u_11 H locs hw_11 hP hD hS => ?_)
  obtain ⟨n, fp1, fc1⟩ := u_11
  try dsimp only at hw_11
  obtain ⟨hI1, hU, hcs, hr1⟩ := hw_11
  replace hP : va_P D vwCl [oW wt fs, ai (cy 0) (wt 1) 10 (wS pt tk mr lt), aq (cy 3) (wt 2) 3 (fun ix => wt (3 + ix)), ai (cy 0) (wt 3) 4 l0, ai (cy 0) (wt 4) 4 l1, ai (cy 0) (wt 5) 4 l2, oF fs n (pw mn k.toNat), ai (cy 0) (fs 1) 10 fp1, ai (cy 0) (fs 2) 10 fc1, oD d lt mn vs, ai (cy 0) (d 1) 24 pt, ai (cy 0) (d 2) 24 tk, ai (cy 0) (d 3) 24 mr, ai (cy 0) (d 4) 10 od, ai (cy 0) (d 5) 10 pl, ai (cy 0) (d 6) 4 rm, ai (cy 0) (d 7) 10 cd] H := hP
  replace hD : va_D A [oW wt fs, ai (cy 0) (wt 1) 10 (wS pt tk mr lt), aq (cy 3) (wt 2) 3 (fun ix => wt (3 + ix)), ai (cy 0) (wt 3) 4 l0, ai (cy 0) (wt 4) 4 l1, ai (cy 0) (wt 5) 4 l2, oF fs n (pw mn k.toNat), ai (cy 0) (fs 1) 10 fp1, ai (cy 0) (fs 2) 10 fc1, oD d lt mn vs, ai (cy 0) (d 1) 24 pt, ai (cy 0) (d 2) 24 tk, ai (cy 0) (d 3) 24 mr, ai (cy 0) (d 4) 10 od, ai (cy 0) (d 5) 10 pl, ai (cy 0) (d 6) 4 rm, ai (cy 0) (d 7) 10 cd] := hD
  have hlen1 := lst_n hU hI1.1.1.1
  have hAl := plsA_len hpw (usd_len (hasI pt lt) od 10)
  refine lv_istore_n (lv' := [(3, .int (iI r_11)), (0, .ref (wt 0)), (1, .ref (d 0)), (2, .int (iI k))]) hx hb dX4_somePlanFits_14 rfl hl (by decide) rfl (fun ls hl => ?_)
  refine r_const hx hb dX4_somePlanFits_15 ?_
  refine lv_istore (lv' := [(4, .int (iI 0)), (3, .int (iI r_11)), (0, .ref (wt 0)), (1, .ref (d 0)), (2, .int (iI k))]) hx hb dX4_somePlanFits_16 hl (by decide) rfl (fun ls hl => ?_)
  have lp_18 : ∀ (fu : Nat) (mo : Int) (n0 : Int) (FC : Int → Int) (B0 : Int → Int) (B1 : Int → Int) (B2 : Int → Int) (PR : List (List Int)), (SrI (pw mn k.toNat) (plsA mn k (usd (hasI pt lt) od 10).length) PR mo (cds fp1 FC n)) → (mo = 0 ∨ mo = 1) → (0 ≤ n0 ∧ n0 ≤ (PR.length : Int)) → (∀ Y ∈ PR, ¬ FitL (fun i => wS pt tk mr lt (lg (usd (hasI pt lt) od 10) i)) rm mn k.toNat Y) → (PlI n (pw mn k.toNat) fp1 FC) → (n0 ≤ 12870) → (12870 - n0).toNat < fu → ∀ (H : Heap) (locs : List Loc), va_P D vwCl [oW wt fs, ai (cy 0) (wt 1) 10 (wS pt tk mr lt), aq (cy 3) (wt 2) 3 (fun ix => wt (3 + ix)), ai (cy 0) (wt 3) 4 B0, ai (cy 0) (wt 4) 4 B1, ai (cy 0) (wt 5) 4 B2, oF fs n (pw mn k.toNat), ai (cy 0) (fs 1) 10 fp1, ai (cy 0) (fs 2) 10 FC, oD d lt mn vs, ai (cy 0) (d 1) 24 pt, ai (cy 0) (d 2) 24 tk, ai (cy 0) (d 3) 24 mr, ai (cy 0) (d 4) 10 od, ai (cy 0) (d 5) 10 pl, ai (cy 0) (d 6) 4 rm, ai (cy 0) (d 7) 10 cd] H → va_D A [oW wt fs, ai (cy 0) (wt 1) 10 (wS pt tk mr lt), aq (cy 3) (wt 2) 3 (fun ix => wt (3 + ix)), ai (cy 0) (wt 3) 4 B0, ai (cy 0) (wt 4) 4 B1, ai (cy 0) (wt 5) 4 B2, oF fs n (pw mn k.toNat), ai (cy 0) (fs 1) 10 fp1, ai (cy 0) (fs 2) 10 FC, oD d lt mn vs, ai (cy 0) (d 1) 24 pt, ai (cy 0) (d 2) 24 tk, ai (cy 0) (d 3) 24 mr, ai (cy 0) (d 4) 10 od, ai (cy 0) (d 5) 10 pl, ai (cy 0) (d 6) 4 rm, ai (cy 0) (d 7) 10 cd] → va_S A s.heap H locs → ∀ (ls : Array Slot), lv_has ls 6 [(0, .ref (wt 0)), (1, .ref (d 0)), (2, .int (iI k)), (3, .int (iI mo)), (4, .int (iI n0))] → W p l e rm_X4_somePlanFits s m args below meth c H locs 0 0 Q (F0 m 18 ls []) := by
    intro fu
    induction fu with
    | zero =>
      intro mo n0 FC B0 B1 B2 PR hs hmo1 hn hnf hFI hn2 hm
      exact absurd hm (Nat.not_lt_zero _)
    | succ fu ih_18 =>
      intro mo n0 FC B0 B1 B2 PR hs hmo1 hn hnf hFI hn2 hm H locs hP hD hS ls hl
      have hn10 := hFI.1.1
      refine lv_iload hx hb dX4_somePlanFits_18 (lv_at hl 4 rfl) ?_
      refine r_sip hx hb (12870) dX4_somePlanFits_20 (by decide) ?_
      refine r_ge hx hb 77 dX4_somePlanFits_23 (by decide) ⟨by omega, by omega⟩ ⟨by omega, by omega⟩ (fun c_23 => ?_) (fun c_23 => ?_)
      ·
        refine r_const hx hb dX4_somePlanFits_77 ?_
        have hPA : PR = (plsA mn k (usd (hasI pt lt) od 10).length) := SrI_end hs rfl hAl (by omega)
        exact hret [0, 1, 2, 3, 4, 5, 6, 7, 8, 9, 10, 11, 12, 13, 14, 15, 16] (n, fp1, FC, B0, B1, B2) dX4_somePlanFits_78 hP hD hS (by decide) rfl (by omega) (⟨⟨hFI.2.1.1, hFI.2.1.2⟩, Or.inr ⟨rfl, by rw [← hPA]; exact hnf⟩⟩)
      ·
        refine lv_iload_n hx hb dX4_somePlanFits_26 rfl (lv_at hl 3 rfl) ?_
        refine r_eq0 hx hb 77 dX4_somePlanFits_27 (by decide) ⟨by omega, by omega⟩ (fun c_27 => ?_) (fun c_27 => ?_)
        ·
          refine r_const hx hb dX4_somePlanFits_77 ?_
          have hPA : PR = (plsA mn k (usd (hasI pt lt) od 10).length) := SrI_end hs rfl hAl (by omega)
          exact hret [0, 1, 2, 3, 4, 5, 6, 7, 8, 9, 10, 11, 12, 13, 14, 15, 16] (n, fp1, FC, B0, B1, B2) dX4_somePlanFits_78 hP hD hS (by decide) rfl (by omega) (⟨⟨hFI.2.1.1, hFI.2.1.2⟩, Or.inr ⟨rfl, by rw [← hPA]; exact hnf⟩⟩)
        ·
          refine lv_aload_n hx hb dX4_somePlanFits_30 rfl (lv_at hl 0 rfl) ?_
          refine lv_aload_n hx hb dX4_somePlanFits_31 rfl (lv_at hl 1 rfl) ?_
          refine va_getN (D := D) (C := RX1) (T := TX1) (N := 10) (ci := 1) (v := .ref (d 6)) hx hb hts iw_X4_somePlanFits_1 hown hK hP 9 rfl rfl 7 (by decide) (nfX4_38 hN) (fun _ h9 => h9) rfl dX4_somePlanFits_32 ?_
          refine lv_aload_n hx hb dX4_somePlanFits_35 rfl (lv_at hl 1 rfl) ?_
          refine va_getN (D := D) (C := RX1) (T := TX1) (N := 10) (ci := 1) (v := .int (iI mn)) hx hb hts iw_X4_somePlanFits_1 hown hK hP 9 rfl rfl 6 (by decide) (nfX4_43 hN) (fun _ h9 => h9) rfl dX4_somePlanFits_36 ?_
          refine lv_iload_n hx hb dX4_somePlanFits_39 rfl (lv_at hl 2 rfl) ?_
          have M_40 := k_X4_countFitting l D cy wt fs (d 6) H.size (wS pt tk mr lt) B0 B1 B2 n (pw mn k.toNat) fp1 FC rm mn k (hk) (⟨hmn0, hmn1⟩) (hFI) (fun j => wS_b ⟨hlt0, hlt1⟩ htk j) (hrm)
          refine kV_i (wr := [oD d lt mn vs, ai (cy 0) (d 1) 24 pt, ai (cy 0) (d 2) 24 tk, ai (cy 0) (d 3) 24 mr, ai (cy 0) (d 4) 10 od, ai (cy 0) (d 5) 10 pl, ai (cy 0) (d 7) 10 cd]) (As := [.ref (d 6), .int (iI mn), .int (iI k)]) (rest := []) (q := (RX4, TX4, 4)) (ci := 4) ⟨hx, hb, hml, hown, hts⟩ M_40 0 rfl rfl (cwV 3 hts gX4_somePlanFits_X4_countFitting rfl rfl rfl (by decide +kernel) ⟨Nat.le_of_ble_eq_true rfl, Nat.le_of_ble_eq_true rfl⟩) hN hK hP hD hS hA [0, 1, 2, 3, 4, 5, 6, 7, 8, 15] [9, 10, 11, 12, 13, 14, 16] rfl rfl (by decide) (by decide) (by decide) rfl hl.1 rfl (Nat.le_of_ble_eq_true rfl) dX4_somePlanFits_40 ⟨Nat.le_of_ble_eq_true rfl, Nat.le_of_ble_eq_true rfl⟩ (fun r_40 u_40 H locs hw_40 hP hD hS => ?_)
          obtain ⟨v_1, v_2, v_3⟩ := u_40
          try dsimp only at hw_40
          replace hP : va_P D vwCl [oD d lt mn vs, ai (cy 0) (d 1) 24 pt, ai (cy 0) (d 2) 24 tk, ai (cy 0) (d 3) 24 mr, ai (cy 0) (d 4) 10 od, ai (cy 0) (d 5) 10 pl, ai (cy 0) (d 7) 10 cd, oW wt fs, ai (cy 0) (wt 1) 10 (wS pt tk mr lt), aq (cy 3) (wt 2) 3 (fun ix => wt (3 + ix)), ai (cy 0) (wt 3) 4 v_1, ai (cy 0) (wt 4) 4 v_2, ai (cy 0) (wt 5) 4 v_3, oF fs n (pw mn k.toNat), ai (cy 0) (fs 1) 10 fp1, ai (cy 0) (fs 2) 10 FC, ai (cy 0) (d 6) 4 rm] H := hP
          replace hD : va_D A [oD d lt mn vs, ai (cy 0) (d 1) 24 pt, ai (cy 0) (d 2) 24 tk, ai (cy 0) (d 3) 24 mr, ai (cy 0) (d 4) 10 od, ai (cy 0) (d 5) 10 pl, ai (cy 0) (d 7) 10 cd, oW wt fs, ai (cy 0) (wt 1) 10 (wS pt tk mr lt), aq (cy 3) (wt 2) 3 (fun ix => wt (3 + ix)), ai (cy 0) (wt 3) 4 v_1, ai (cy 0) (wt 4) 4 v_2, ai (cy 0) (wt 5) 4 v_3, oF fs n (pw mn k.toNat), ai (cy 0) (fs 1) 10 fp1, ai (cy 0) (fs 2) 10 FC, ai (cy 0) (d 6) 4 rm] := hD
          refine lv_istore (lv' := [(5, .int (iI r_40)), (0, .ref (wt 0)), (1, .ref (d 0)), (2, .int (iI k)), (3, .int (iI mo)), (4, .int (iI n0))]) hx hb dX4_somePlanFits_43 hl (by decide) rfl (fun ls hl => ?_)
          refine lv_iload hx hb dX4_somePlanFits_45 (lv_at hl 0 rfl) ?_
          refine lv_aload_n hx hb dX4_somePlanFits_47 rfl (lv_at hl 1 rfl) ?_
          refine va_get (D := D) (C := RX4) (T := TX4) (N := 4) (ci := 4) (v := .ref (fs 0)) hx hb hts iw_X4_somePlanFits_4 hown hK hP 7 rfl rfl 0 (by decide) (hts _ fl_X4_somePlanFits_12) (fun _ h9 => h9) rfl dX4_somePlanFits_48 ?_
          refine va_getN (D := D) (C := RX3) (T := TX3) (N := 4) (ci := 3) (v := .int (iI n)) hx hb hts iw_X4_somePlanFits_3 hown hK hP 13 rfl rfl 1 (by decide) (nfX4_51 hN) (fun _ h9 => h9) rfl dX4_somePlanFits_51 ?_
          refine r_ne hx hb 59 dX4_somePlanFits_54 (by decide) ⟨by omega, by omega⟩ ⟨by omega, by omega⟩ (fun c_54 => ?_) (fun c_54 => ?_)
          ·
            refine lv_aload_n hx hb dX4_somePlanFits_59 rfl (lv_at hl 1 rfl) ?_
            refine va_get (D := D) (C := RX4) (T := TX4) (N := 4) (ci := 4) (v := .ref (fs 0)) hx hb hts iw_X4_somePlanFits_4 hown hK hP 7 rfl rfl 0 (by decide) (hts _ fl_X4_somePlanFits_12) (fun _ h9 => h9) rfl dX4_somePlanFits_60 ?_
            refine lv_iload hx hb dX4_somePlanFits_63 (lv_at hl 0 rfl) ?_
            refine r_const hx hb dX4_somePlanFits_65 ?_
            refine r_add hx hb dX4_somePlanFits_66 ?_
            have M_67 := k_X3_advance l D cy fs H.size n (pw mn k.toNat) fp1 FC (r_40 + 1) (hFI) (by have := hFI.1.1.2; omega)
            refine kV_i (wr := [oD d lt mn vs, ai (cy 0) (d 1) 24 pt, ai (cy 0) (d 2) 24 tk, ai (cy 0) (d 3) 24 mr, ai (cy 0) (d 4) 10 od, ai (cy 0) (d 5) 10 pl, ai (cy 0) (d 7) 10 cd, oW wt fs, ai (cy 0) (wt 1) 10 (wS pt tk mr lt), aq (cy 3) (wt 2) 3 (fun ix => wt (3 + ix)), ai (cy 0) (wt 3) 4 v_1, ai (cy 0) (wt 4) 4 v_2, ai (cy 0) (wt 5) 4 v_3, ai (cy 0) (d 6) 4 rm]) (As := [.int (iI (r_40 + 1))]) (rest := []) (q := (RX3, TX3, 4)) (ci := 3) ⟨hx, hb, hml, hown, hts⟩ M_67 13 rfl rfl (cwV 1 hts gX4_somePlanFits_X3_advance rfl rfl rfl (by decide +kernel) ⟨Nat.le_of_ble_eq_true rfl, Nat.le_of_ble_eq_true rfl⟩) hN hK hP hD hS hA [13, 14, 15] [0, 1, 2, 3, 4, 5, 6, 7, 8, 9, 10, 11, 12, 16] rfl rfl (by decide) (by decide) (by decide) rfl hl.1 rfl (Nat.le_of_ble_eq_true rfl) dX4_somePlanFits_67 ⟨Nat.le_of_ble_eq_true rfl, Nat.le_of_ble_eq_true rfl⟩ (fun r_67 u_67 H locs hw_67 hP hD hS => ?_)
            obtain ⟨v_4, rfl⟩ : ∃ z, z = u_67 := ⟨_, rfl⟩
            try dsimp only at hw_67
            replace hP : va_P D vwCl [oD d lt mn vs, ai (cy 0) (d 1) 24 pt, ai (cy 0) (d 2) 24 tk, ai (cy 0) (d 3) 24 mr, ai (cy 0) (d 4) 10 od, ai (cy 0) (d 5) 10 pl, ai (cy 0) (d 7) 10 cd, oW wt fs, ai (cy 0) (wt 1) 10 (wS pt tk mr lt), aq (cy 3) (wt 2) 3 (fun ix => wt (3 + ix)), ai (cy 0) (wt 3) 4 v_1, ai (cy 0) (wt 4) 4 v_2, ai (cy 0) (wt 5) 4 v_3, ai (cy 0) (d 6) 4 rm, oF fs n (pw mn k.toNat), ai (cy 0) (fs 1) 10 fp1, ai (cy 0) (fs 2) 10 v_4] H := hP
            replace hD : va_D A [oD d lt mn vs, ai (cy 0) (d 1) 24 pt, ai (cy 0) (d 2) 24 tk, ai (cy 0) (d 3) 24 mr, ai (cy 0) (d 4) 10 od, ai (cy 0) (d 5) 10 pl, ai (cy 0) (d 7) 10 cd, oW wt fs, ai (cy 0) (wt 1) 10 (wS pt tk mr lt), aq (cy 3) (wt 2) 3 (fun ix => wt (3 + ix)), ai (cy 0) (wt 3) 4 v_1, ai (cy 0) (wt 4) 4 v_2, ai (cy 0) (wt 5) 4 v_3, ai (cy 0) (d 6) 4 rm, oF fs n (pw mn k.toNat), ai (cy 0) (fs 1) 10 fp1, ai (cy 0) (fs 2) 10 v_4] := hD
            refine lv_istore_n (lv' := [(3, .int (iI r_67)), (5, .int (iI r_40)), (0, .ref (wt 0)), (1, .ref (d 0)), (2, .int (iI k)), (4, .int (iI n0))]) hx hb dX4_somePlanFits_70 rfl hl (by decide) rfl (fun ls hl => ?_)
            refine r_inc (k := 5) (lv' := [(4, .int (iI (n0 + 1))), (3, .int (iI r_67)), (5, .int (iI r_40)), (0, .ref (wt 0)), (1, .ref (d 0)), (2, .int (iI k))]) hx hb dX4_somePlanFits_71 hl rfl (by decide) rfl (fun ls hl => ?_)
            refine lv_goto (tgt := 18) hx hb dX4_somePlanFits_74 (by decide) ?_
            have hs1 : SrI (pw mn k.toNat) (plsA mn k (usd (hasI pt lt) od 10).length) PR 1 (cds fp1 FC n) := by rcases hmo1 with q | q; (exact absurd q (by omega)); (rw [← q]; exact hs)
            obtain ⟨X, hX0, hX1, hX2⟩ := SrI_f (r := r_67) (f := (r_40 + 1).toNat) hs1 (by rcases hw_67.2 with ⟨q1, q2⟩ | ⟨q1, q2, -⟩; (exact Or.inl ⟨q1, q2⟩); (exact Or.inr ⟨q1, q2⟩))
            have hX3 := len_pos hX0
            have hno := hw_40.2.2 (by omega)
            rw [fit_cv hU hw_40.1.1 (by omega)] at hno
            exact ih_18 r_67 (n0 + 1) v_4 v_1 v_2 v_3 (PR ++ X) (hX2) (by omega) (by rw [List.length_append]; omega) (fun Y hY => by rcases List.mem_append.mp hY with q | q; (exact hnf Y q); (exact Fit_no hw_40.1.1 (by rw [cds_len]; omega) (hX1 Y q).2 hno (hX1 Y q).1)) (hw_67.1) (by omega) (by omega) H locs (pick_P hP (is := [7, 8, 9, 10, 11, 12, 14, 15, 16, 0, 1, 2, 3, 4, 5, 13, 6]) rfl) (hD.sub [7, 8, 9, 10, 11, 12, 14, 15, 16, 0, 1, 2, 3, 4, 5, 13, 6] (by decide) rfl) hS ls (lv_sub hl [3, 4, 5, 1, 0] rfl)
          ·
            refine r_const hx hb dX4_somePlanFits_57 ?_
            have hs1 : SrI (pw mn k.toNat) (plsA mn k (usd (hasI pt lt) od 10).length) PR 1 (cds fp1 FC n) := by rcases hmo1 with q | q; (exact absurd q (by omega)); (rw [← q]; exact hs)
            exact hret [7, 8, 9, 10, 11, 12, 13, 14, 15, 0, 1, 2, 3, 4, 5, 16, 6] (n, fp1, FC, v_1, v_2, v_3) dX4_somePlanFits_58 hP hD hS (by decide) rfl (by omega) (⟨⟨hFI.2.1.1, hFI.2.1.2⟩, Or.inl ⟨rfl, _, SrI_mem hs1, fun i q1 q2 => by rw [cds_len] at q2; exact (fit_cv hU q1 (by omega)).mp (hw_40.2.1 i q1 (by omega))⟩⟩)
  exact lp_18 _ r_11 0 fc1 l0 l1 l2 ([]) (by have e := SrI_0 (k := k) (mn := mn) hcs hI1.1.1.1 (by omega) hr1; rw [show n.toNat = (usd (hasI pt lt) od 10).length by omega] at e; exact e) (by omega) (⟨by omega, by simp⟩) (fun Y hY => absurd hY List.not_mem_nil) (hI1) (by omega) (Nat.lt_succ_self _) H locs (pick_P hP (is := [0, 1, 2, 3, 4, 5, 6, 7, 8, 9, 10, 11, 12, 13, 14, 15, 16]) rfl) (hD.sub [0, 1, 2, 3, 4, 5, 6, 7, 8, 9, 10, 11, 12, 13, 14, 15, 16] (by decide) rfl) hS ls (lv_sub hl [2, 3, 4, 1, 0] rfl)
abbrev rm_X4_leastRoom : Room := { frames := 3, cells := 0, slots := 0, locals := 73 }
theorem fl_X4_leastRoom_12 : Cond.fieldLink RX4 12 "WalkPasses$Weights" "candidates" "LWalkPasses$Plans;" ∈ wsX4_leastRoom := by decide +kernel
theorem fl_X4_leastRoom_27 : Cond.fieldLink RX4 27 "WalkPasses$Weights" "limits" "[I" ∈ wsX4_leastRoom := by decide +kernel
theorem iw_X4_leastRoom_1 : ∀ w ∈ u_ws RX1 TX1 10, w ∈ wsX4_leastRoom := by decide +kernel
theorem iw_X4_leastRoom_3 : ∀ w ∈ u_ws RX3 TX3 4, w ∈ wsX4_leastRoom := by decide +kernel
theorem iw_X4_leastRoom_4 : ∀ w ∈ u_ws RX4 TX4 4, w ∈ wsX4_leastRoom := by decide +kernel
set_option maxHeartbeats 4000000 in
set_option maxRecDepth 100000 in
theorem k_X4_leastRoom (l : Launch) (D : va_G) (cy : Nat → ClassId) (wt fs d : Nat → Nat) (z : Nat) (wq l0 l1 l2 : Int → Int) (li : Int → Int) (sz be : Int) (fp fc : Int → Int) (lt mn vs : Int) (pt tk mr od pl rm cd : Int → Int) (k : Int) (hI : DI lt mn pt tk mr od pl rm cd) (hk : 1 ≤ k ∧ k ≤ 3) (hpw : pw mn k.toNat ≤ 16) (hfp : ∀ j, 0 ≤ fp j ∧ fp j ≤ 9) (hfc : ∀ j, 0 ≤ fc j ∧ fc j ≤ 63) : CtI l yX4_leastRoom wsX4_leastRoom rm_X4_leastRoom D (tyL cy) [.ref (wt 0), .ref (d 0), .int (iI k)] [oW wt fs, ai (cy 0) (wt 1) 10 wq, aq (cy 3) (wt 2) 3 (fun ix => wt (3 + ix)), ai (cy 0) (wt 3) 4 l0, ai (cy 0) (wt 4) 4 l1, ai (cy 0) (wt 5) 4 l2, ai (cy 0) (wt 6) 4 li, oF fs sz be, ai (cy 0) (fs 1) 10 fp, ai (cy 0) (fs 2) 10 fc, oD d lt mn vs, ai (cy 0) (d 1) 24 pt, ai (cy 0) (d 2) 24 tk, ai (cy 0) (d 3) 24 mr, ai (cy 0) (d 4) 10 od, ai (cy 0) (d 5) 10 pl, ai (cy 0) (d 6) 4 rm, ai (cy 0) (d 7) 10 cd] z (fun (r : Int) (u : Int × (Int → Int) × (Int → Int) × (Int → Int) × (Int → Int) × (Int → Int) × (Int → Int)) => ((∀ j, 0 ≤ u.2.1 j ∧ u.2.1 j ≤ 9) ∧ (∀ j, 0 ≤ u.2.2.1 j ∧ u.2.2.1 j ≤ 63)) ∧ (1 ≤ r ∧ r ≤ 100) ∧ (r ≤ 99 → ∃ Y ∈ (plsA mn k (usd (hasI pt lt) od 10).length), FitL (fun i => wS pt tk mr lt (lg (usd (hasI pt lt) od 10) i)) (fun _ => r) mn k.toNat Y) ∧ (∀ v, 1 ≤ v → v < r → ∀ Y ∈ (plsA mn k (usd (hasI pt lt) od 10).length), ¬ FitL (fun i => wS pt tk mr lt (lg (usd (hasI pt lt) od 10) i)) (fun _ => v) mn k.toNat Y)) (fun (u : Int × (Int → Int) × (Int → Int) × (Int → Int) × (Int → Int) × (Int → Int) × (Int → Int)) => [oW wt fs, ai (cy 0) (wt 1) 10 (wS pt tk mr lt), aq (cy 3) (wt 2) 3 (fun ix => wt (3 + ix)), ai (cy 0) (wt 3) 4 u.2.2.2.1, ai (cy 0) (wt 4) 4 u.2.2.2.2.1, ai (cy 0) (wt 5) 4 u.2.2.2.2.2.1, ai (cy 0) (wt 6) 4 u.2.2.2.2.2.2, oF fs u.1 (pw mn k.toNat), ai (cy 0) (fs 1) 10 u.2.1, ai (cy 0) (fs 2) 10 u.2.2.1, oD d lt mn vs, ai (cy 0) (d 1) 24 pt, ai (cy 0) (d 2) 24 tk, ai (cy 0) (d 3) 24 mr, ai (cy 0) (d 4) 10 od, ai (cy 0) (d 5) 10 pl, ai (cy 0) (d 6) 4 rm, ai (cy 0) (d 7) 10 cd]) 0 0 := by
  refine ct_i (cc := cX4_leastRoom) (maxL := 7) (by decide) rfl (Nat.le_of_ble_eq_true rfl) ?_
  intro p e s m args below meth c A Q H locs ls hx hb hml hown hin hts hK hN hP hD hS hA hl hret
  replace hl : lv_has ls 7 [(0, .ref (wt 0)), (1, .ref (d 0)), (2, .int (iI k))] := hl
  replace hown : s.vm.findClass RX4 = some m.cls := hown
  obtain ⟨⟨⟨hlt0, hlt1⟩, hmn0, hmn1⟩, ⟨hpt, htk, hmr⟩, ⟨hod, hpl, hpo, hop⟩, hrm, hcd⟩ := id hI
  have hpb := pw_b hmn0 hmn1 (n := k.toNat) (by omega)
  refine lv_aload_n hx hb dX4_leastRoom_0 rfl (lv_at hl 0 rfl) ?_
  refine lv_aload_n hx hb dX4_leastRoom_1 rfl (lv_at hl 1 rfl) ?_
  have M_2 := k_X4_weigh l D cy wt fs d H.size wq l0 l1 l2 lt mn vs pt tk mr od pl rm cd (hI)
  refine kV_v (wr := [ai (cy 0) (wt 6) 4 li, oF fs sz be, ai (cy 0) (fs 1) 10 fp, ai (cy 0) (fs 2) 10 fc]) (As := [.ref (d 0)]) (rest := []) (q := (RX4, TX4, 4)) (ci := 4) ⟨hx, hb, hml, hown, hts⟩ M_2 0 rfl rfl (cwV 1 hts gX4_leastRoom_X4_weigh rfl rfl rfl (by decide +kernel) ⟨Nat.le_of_ble_eq_true rfl, Nat.le_of_ble_eq_true rfl⟩) hN hK hP hD hS hA [0, 1, 2, 3, 4, 5, 10, 11, 12, 13, 14, 15, 16, 17] [6, 7, 8, 9] rfl rfl (by decide) (by decide) (by decide) rfl hl.1 rfl (Nat.le_of_ble_eq_true rfl) dX4_leastRoom_2 ⟨Nat.le_of_ble_eq_true rfl, Nat.le_of_ble_eq_true rfl⟩ (fun u_2 H locs hw_2 hP hD hS => ?_)
  replace hP : va_P D vwCl [ai (cy 0) (wt 6) 4 li, oF fs sz be, ai (cy 0) (fs 1) 10 fp, ai (cy 0) (fs 2) 10 fc, oW wt fs, ai (cy 0) (wt 1) 10 (wS pt tk mr lt), aq (cy 3) (wt 2) 3 (fun ix => wt (3 + ix)), ai (cy 0) (wt 3) 4 l0, ai (cy 0) (wt 4) 4 l1, ai (cy 0) (wt 5) 4 l2, oD d lt mn vs, ai (cy 0) (d 1) 24 pt, ai (cy 0) (d 2) 24 tk, ai (cy 0) (d 3) 24 mr, ai (cy 0) (d 4) 10 od, ai (cy 0) (d 5) 10 pl, ai (cy 0) (d 6) 4 rm, ai (cy 0) (d 7) 10 cd] H := hP
  replace hD : va_D A [ai (cy 0) (wt 6) 4 li, oF fs sz be, ai (cy 0) (fs 1) 10 fp, ai (cy 0) (fs 2) 10 fc, oW wt fs, ai (cy 0) (wt 1) 10 (wS pt tk mr lt), aq (cy 3) (wt 2) 3 (fun ix => wt (3 + ix)), ai (cy 0) (wt 3) 4 l0, ai (cy 0) (wt 4) 4 l1, ai (cy 0) (wt 5) 4 l2, oD d lt mn vs, ai (cy 0) (d 1) 24 pt, ai (cy 0) (d 2) 24 tk, ai (cy 0) (d 3) 24 mr, ai (cy 0) (d 4) 10 od, ai (cy 0) (d 5) 10 pl, ai (cy 0) (d 6) 4 rm, ai (cy 0) (d 7) 10 cd] := hD
  refine r_bip hx hb (100) dX4_leastRoom_5 (by decide) ?_
  refine lv_istore_n (lv' := [(3, .int (iI 100)), (0, .ref (wt 0)), (1, .ref (d 0)), (2, .int (iI k))]) hx hb dX4_leastRoom_7 rfl hl (by decide) rfl (fun ls hl => ?_)
  refine lv_aload_n hx hb dX4_leastRoom_8 rfl (lv_at hl 1 rfl) ?_
  refine va_get (D := D) (C := RX4) (T := TX4) (N := 4) (ci := 4) (v := .ref (fs 0)) hx hb hts iw_X4_leastRoom_4 hown hK hP 4 rfl rfl 0 (by decide) (hts _ fl_X4_leastRoom_12) (fun _ h9 => h9) rfl dX4_leastRoom_9 ?_
  refine lv_aload_n hx hb dX4_leastRoom_12 rfl (lv_at hl 2 rfl) ?_
  refine lv_iload_n hx hb dX4_leastRoom_13 rfl (lv_at hl 3 rfl) ?_
  have M_14 := k_X3_begin l D cy fs d H.size sz be fp fc lt mn vs pt tk mr od pl rm cd k (hI) (hk) (hfp) (hfc)
  refine kV_i (wr := [ai (cy 0) (wt 6) 4 li, oW wt fs, ai (cy 0) (wt 1) 10 (wS pt tk mr lt), aq (cy 3) (wt 2) 3 (fun ix => wt (3 + ix)), ai (cy 0) (wt 3) 4 l0, ai (cy 0) (wt 4) 4 l1, ai (cy 0) (wt 5) 4 l2]) (As := [.ref (d 0), .int (iI k)]) (rest := []) (q := (RX3, TX3, 4)) (ci := 3) ⟨hx, hb, hml, hown, hts⟩ M_14 1 rfl rfl (cwV 2 hts gX4_leastRoom_X3_begin rfl rfl rfl (by decide +kernel) ⟨Nat.le_of_ble_eq_true rfl, Nat.le_of_ble_eq_true rfl⟩) hN hK hP hD hS hA [1, 2, 3, 10, 11, 12, 13, 14, 15, 16, 17] [0, 4, 5, 6, 7, 8, 9] rfl rfl (by decide) (by decide) (by decide) rfl hl.1 rfl (Nat.le_of_ble_eq_true rfl) dX4_leastRoom_14 ⟨Nat.le_of_ble_eq_true rfl, Nat.le_of_ble_eq_true rfl⟩ (fun r_14 u_14 H locs hw_14 hP hD hS => ?_)
  obtain ⟨n, fp1, fc1⟩ := u_14
  try dsimp only at hw_14
  obtain ⟨hI1, hU, hcs, hr1⟩ := hw_14
  replace hP : va_P D vwCl [ai (cy 0) (wt 6) 4 li, oW wt fs, ai (cy 0) (wt 1) 10 (wS pt tk mr lt), aq (cy 3) (wt 2) 3 (fun ix => wt (3 + ix)), ai (cy 0) (wt 3) 4 l0, ai (cy 0) (wt 4) 4 l1, ai (cy 0) (wt 5) 4 l2, oF fs n (pw mn k.toNat), ai (cy 0) (fs 1) 10 fp1, ai (cy 0) (fs 2) 10 fc1, oD d lt mn vs, ai (cy 0) (d 1) 24 pt, ai (cy 0) (d 2) 24 tk, ai (cy 0) (d 3) 24 mr, ai (cy 0) (d 4) 10 od, ai (cy 0) (d 5) 10 pl, ai (cy 0) (d 6) 4 rm, ai (cy 0) (d 7) 10 cd] H := hP
  replace hD : va_D A [ai (cy 0) (wt 6) 4 li, oW wt fs, ai (cy 0) (wt 1) 10 (wS pt tk mr lt), aq (cy 3) (wt 2) 3 (fun ix => wt (3 + ix)), ai (cy 0) (wt 3) 4 l0, ai (cy 0) (wt 4) 4 l1, ai (cy 0) (wt 5) 4 l2, oF fs n (pw mn k.toNat), ai (cy 0) (fs 1) 10 fp1, ai (cy 0) (fs 2) 10 fc1, oD d lt mn vs, ai (cy 0) (d 1) 24 pt, ai (cy 0) (d 2) 24 tk, ai (cy 0) (d 3) 24 mr, ai (cy 0) (d 4) 10 od, ai (cy 0) (d 5) 10 pl, ai (cy 0) (d 6) 4 rm, ai (cy 0) (d 7) 10 cd] := hD
  have hlen1 := lst_n hU hI1.1.1.1
  have hAl := plsA_len hpw (usd_len (hasI pt lt) od 10)
  refine lv_istore (lv' := [(4, .int (iI r_14)), (3, .int (iI 100)), (0, .ref (wt 0)), (1, .ref (d 0)), (2, .int (iI k))]) hx hb dX4_leastRoom_17 hl (by decide) rfl (fun ls hl => ?_)
  refine r_const hx hb dX4_leastRoom_19 ?_
  refine lv_istore (lv' := [(5, .int (iI 0)), (4, .int (iI r_14)), (3, .int (iI 100)), (0, .ref (wt 0)), (1, .ref (d 0)), (2, .int (iI k))]) hx hb dX4_leastRoom_20 hl (by decide) rfl (fun ls hl => ?_)
  have lp_22 : ∀ (fu : Nat) (le : Int) (mo : Int) (n0 : Int) (FC : Int → Int) (B0 : Int → Int) (B1 : Int → Int) (B2 : Int → Int) (LI : Int → Int) (PR : List (List Int)), (SrI (pw mn k.toNat) (plsA mn k (usd (hasI pt lt) od 10).length) PR mo (cds fp1 FC n)) → (mo = 0 ∨ mo = 1) → (1 ≤ le ∧ le ≤ 100) → (0 ≤ n0 ∧ n0 ≤ (PR.length : Int) + (100 - le)) → (∀ Y ∈ PR, ¬ FitL (fun i => wS pt tk mr lt (lg (usd (hasI pt lt) od 10) i)) (fun _ => le - 1) mn k.toNat Y) → (le ≤ 99 → ∃ Y ∈ (plsA mn k (usd (hasI pt lt) od 10).length), FitL (fun i => wS pt tk mr lt (lg (usd (hasI pt lt) od 10) i)) (fun _ => le) mn k.toNat Y) → (PlI n (pw mn k.toNat) fp1 FC) → (n0 ≤ 12969) → (12969 - n0).toNat < fu → ∀ (H : Heap) (locs : List Loc), va_P D vwCl [ai (cy 0) (wt 6) 4 LI, oW wt fs, ai (cy 0) (wt 1) 10 (wS pt tk mr lt), aq (cy 3) (wt 2) 3 (fun ix => wt (3 + ix)), ai (cy 0) (wt 3) 4 B0, ai (cy 0) (wt 4) 4 B1, ai (cy 0) (wt 5) 4 B2, oF fs n (pw mn k.toNat), ai (cy 0) (fs 1) 10 fp1, ai (cy 0) (fs 2) 10 FC, oD d lt mn vs, ai (cy 0) (d 1) 24 pt, ai (cy 0) (d 2) 24 tk, ai (cy 0) (d 3) 24 mr, ai (cy 0) (d 4) 10 od, ai (cy 0) (d 5) 10 pl, ai (cy 0) (d 6) 4 rm, ai (cy 0) (d 7) 10 cd] H → va_D A [ai (cy 0) (wt 6) 4 LI, oW wt fs, ai (cy 0) (wt 1) 10 (wS pt tk mr lt), aq (cy 3) (wt 2) 3 (fun ix => wt (3 + ix)), ai (cy 0) (wt 3) 4 B0, ai (cy 0) (wt 4) 4 B1, ai (cy 0) (wt 5) 4 B2, oF fs n (pw mn k.toNat), ai (cy 0) (fs 1) 10 fp1, ai (cy 0) (fs 2) 10 FC, oD d lt mn vs, ai (cy 0) (d 1) 24 pt, ai (cy 0) (d 2) 24 tk, ai (cy 0) (d 3) 24 mr, ai (cy 0) (d 4) 10 od, ai (cy 0) (d 5) 10 pl, ai (cy 0) (d 6) 4 rm, ai (cy 0) (d 7) 10 cd] → va_S A s.heap H locs → ∀ (ls : Array Slot), lv_has ls 7 [(0, .ref (wt 0)), (1, .ref (d 0)), (2, .int (iI k)), (3, .int (iI le)), (4, .int (iI mo)), (5, .int (iI n0))] → W p l e rm_X4_leastRoom s m args below meth c H locs 0 0 Q (F0 m 22 ls []) := by
    intro fu
    induction fu with
    | zero =>
      intro le mo n0 FC B0 B1 B2 LI PR hs hmo1 hle hn hnf hyf hFI hn2 hm
      exact absurd hm (Nat.not_lt_zero _)
    | succ fu ih_22 =>
      intro le mo n0 FC B0 B1 B2 LI PR hs hmo1 hle hn hnf hyf hFI hn2 hm H locs hP hD hS ls hl
      have hn10 := hFI.1.1
      refine lv_iload hx hb dX4_leastRoom_22 (lv_at hl 5 rfl) ?_
      refine r_sip hx hb (12969) dX4_leastRoom_24 (by decide) ?_
      refine r_ge hx hb 102 dX4_leastRoom_27 (by decide) ⟨by omega, by omega⟩ ⟨by omega, by omega⟩ (fun c_27 => ?_) (fun c_27 => ?_)
      ·
        refine lv_iload_n hx hb dX4_leastRoom_102 rfl (lv_at hl 3 rfl) ?_
        have hPA := lr_end hs hAl hle.1 hn.2 (by omega)
        exact hret [1, 2, 3, 4, 5, 6, 0, 7, 8, 9, 10, 11, 12, 13, 14, 15, 16, 17] (n, fp1, FC, B0, B1, B2, LI) dX4_leastRoom_103 hP hD hS (by decide) rfl (⟨⟨hFI.2.1.1, hFI.2.1.2⟩, hle, hyf, fun v q1 q2 Y hY => by rcases hPA with q | q; (subst q; exact fun z => hnf Y hY (Fit_mono (fun _ => by omega) z)); (omega)⟩)
      ·
        refine lv_iload hx hb dX4_leastRoom_30 (lv_at hl 4 rfl) ?_
        refine r_eq0 hx hb 102 dX4_leastRoom_32 (by decide) ⟨by omega, by omega⟩ (fun c_32 => ?_) (fun c_32 => ?_)
        ·
          refine lv_iload_n hx hb dX4_leastRoom_102 rfl (lv_at hl 3 rfl) ?_
          have hPA := lr_end hs hAl hle.1 hn.2 (by omega)
          exact hret [1, 2, 3, 4, 5, 6, 0, 7, 8, 9, 10, 11, 12, 13, 14, 15, 16, 17] (n, fp1, FC, B0, B1, B2, LI) dX4_leastRoom_103 hP hD hS (by decide) rfl (⟨⟨hFI.2.1.1, hFI.2.1.2⟩, hle, hyf, fun v q1 q2 Y hY => by rcases hPA with q | q; (subst q; exact fun z => hnf Y hY (Fit_mono (fun _ => by omega) z)); (omega)⟩)
        ·
          refine lv_iload_n hx hb dX4_leastRoom_35 rfl (lv_at hl 3 rfl) ?_
          refine r_const hx hb dX4_leastRoom_36 ?_
          refine r_le hx hb 102 dX4_leastRoom_37 (by decide) ⟨by omega, by omega⟩ ⟨by omega, by omega⟩ (fun c_37 => ?_) (fun c_37 => ?_)
          ·
            refine lv_iload_n hx hb dX4_leastRoom_102 rfl (lv_at hl 3 rfl) ?_
            have hPA := lr_end hs hAl hle.1 hn.2 (by omega)
            exact hret [1, 2, 3, 4, 5, 6, 0, 7, 8, 9, 10, 11, 12, 13, 14, 15, 16, 17] (n, fp1, FC, B0, B1, B2, LI) dX4_leastRoom_103 hP hD hS (by decide) rfl (⟨⟨hFI.2.1.1, hFI.2.1.2⟩, hle, hyf, fun v q1 q2 Y hY => by rcases hPA with q | q; (subst q; exact fun z => hnf Y hY (Fit_mono (fun _ => by omega) z)); (omega)⟩)
          ·
            refine lv_aload_n hx hb dX4_leastRoom_40 rfl (lv_at hl 0 rfl) ?_
            refine va_get (D := D) (C := RX4) (T := TX4) (N := 4) (ci := 4) (v := .ref (wt 6)) hx hb hts iw_X4_leastRoom_4 hown hK hP 1 rfl rfl 3 (by decide) (hts _ fl_X4_leastRoom_27) (fun _ h9 => h9) rfl dX4_leastRoom_41 ?_
            refine lv_iload_n hx hb dX4_leastRoom_44 rfl (lv_at hl 3 rfl) ?_
            refine r_const hx hb dX4_leastRoom_45 ?_
            refine r_sub hx hb dX4_leastRoom_46 ?_
            have M_47 := k_J7_fill_53178 l D cy (wt 6) H.size 4 LI (le - 1) (by decide)
            refine kS_v (wr := [oW wt fs, ai (cy 0) (wt 1) 10 (wS pt tk mr lt), aq (cy 3) (wt 2) 3 (fun ix => wt (3 + ix)), ai (cy 0) (wt 3) 4 B0, ai (cy 0) (wt 4) 4 B1, ai (cy 0) (wt 5) 4 B2, oF fs n (pw mn k.toNat), ai (cy 0) (fs 1) 10 fp1, ai (cy 0) (fs 2) 10 FC, oD d lt mn vs, ai (cy 0) (d 1) 24 pt, ai (cy 0) (d 2) 24 tk, ai (cy 0) (d 3) 24 mr, ai (cy 0) (d 4) 10 od, ai (cy 0) (d 5) 10 pl, ai (cy 0) (d 6) 4 rm, ai (cy 0) (d 7) 10 cd]) (As := [.ref (wt 6), .int (iI (le - 1))]) (rest := []) ⟨hx, hb, hml, hown, hts⟩ M_47 (va_cwS 2 hts gX4_leastRoom_J7_fill_53178 rfl rfl rfl (by decide +kernel) ⟨Nat.le_of_ble_eq_true rfl, Nat.le_of_ble_eq_true rfl⟩) hN hK hP hD hS hA [0] [1, 2, 3, 4, 5, 6, 7, 8, 9, 10, 11, 12, 13, 14, 15, 16, 17] rfl rfl (by decide) (by decide) (by decide) rfl hl.1 rfl (Nat.le_of_ble_eq_true rfl) dX4_leastRoom_47 ⟨Nat.le_of_ble_eq_true rfl, Nat.le_of_ble_eq_true rfl⟩ (fun u_47 H locs hw_47 hP hD hS => ?_)
            replace hP : va_P D vwCl [oW wt fs, ai (cy 0) (wt 1) 10 (wS pt tk mr lt), aq (cy 3) (wt 2) 3 (fun ix => wt (3 + ix)), ai (cy 0) (wt 3) 4 B0, ai (cy 0) (wt 4) 4 B1, ai (cy 0) (wt 5) 4 B2, oF fs n (pw mn k.toNat), ai (cy 0) (fs 1) 10 fp1, ai (cy 0) (fs 2) 10 FC, oD d lt mn vs, ai (cy 0) (d 1) 24 pt, ai (cy 0) (d 2) 24 tk, ai (cy 0) (d 3) 24 mr, ai (cy 0) (d 4) 10 od, ai (cy 0) (d 5) 10 pl, ai (cy 0) (d 6) 4 rm, ai (cy 0) (d 7) 10 cd, ai (cy 0) (wt 6) 4 (fun _ => (le - 1))] H := hP
            replace hD : va_D A [oW wt fs, ai (cy 0) (wt 1) 10 (wS pt tk mr lt), aq (cy 3) (wt 2) 3 (fun ix => wt (3 + ix)), ai (cy 0) (wt 3) 4 B0, ai (cy 0) (wt 4) 4 B1, ai (cy 0) (wt 5) 4 B2, oF fs n (pw mn k.toNat), ai (cy 0) (fs 1) 10 fp1, ai (cy 0) (fs 2) 10 FC, oD d lt mn vs, ai (cy 0) (d 1) 24 pt, ai (cy 0) (d 2) 24 tk, ai (cy 0) (d 3) 24 mr, ai (cy 0) (d 4) 10 od, ai (cy 0) (d 5) 10 pl, ai (cy 0) (d 6) 4 rm, ai (cy 0) (d 7) 10 cd, ai (cy 0) (wt 6) 4 (fun _ => (le - 1))] := hD
            refine lv_aload_n hx hb dX4_leastRoom_50 rfl (lv_at hl 0 rfl) ?_
            refine lv_aload_n hx hb dX4_leastRoom_51 rfl (lv_at hl 0 rfl) ?_
            refine va_get (D := D) (C := RX4) (T := TX4) (N := 4) (ci := 4) (v := .ref (wt 6)) hx hb hts iw_X4_leastRoom_4 hown hK hP 0 rfl rfl 3 (by decide) (hts _ fl_X4_leastRoom_27) (fun _ h9 => h9) rfl dX4_leastRoom_52 ?_
            refine lv_aload_n hx hb dX4_leastRoom_55 rfl (lv_at hl 1 rfl) ?_
            refine va_getN (D := D) (C := RX1) (T := TX1) (N := 10) (ci := 1) (v := .int (iI mn)) hx hb hts iw_X4_leastRoom_1 hown hK hP 9 rfl rfl 6 (by decide) (nfX4_43 hN) (fun _ h9 => h9) rfl dX4_leastRoom_56 ?_
            refine lv_iload_n hx hb dX4_leastRoom_59 rfl (lv_at hl 2 rfl) ?_
            have M_60 := k_X4_countFitting l D cy wt fs (wt 6) H.size (wS pt tk mr lt) B0 B1 B2 n (pw mn k.toNat) fp1 FC (fun _ => (le - 1)) mn k (hk) (⟨hmn0, hmn1⟩) (hFI) (fun j => wS_b ⟨hlt0, hlt1⟩ htk j) (fun j => ⟨by show 0 ≤ le - 1; omega, by show le - 1 ≤ 99; omega⟩)
            refine kV_i (wr := [oD d lt mn vs, ai (cy 0) (d 1) 24 pt, ai (cy 0) (d 2) 24 tk, ai (cy 0) (d 3) 24 mr, ai (cy 0) (d 4) 10 od, ai (cy 0) (d 5) 10 pl, ai (cy 0) (d 6) 4 rm, ai (cy 0) (d 7) 10 cd]) (As := [.ref (wt 6), .int (iI mn), .int (iI k)]) (rest := []) (q := (RX4, TX4, 4)) (ci := 4) ⟨hx, hb, hml, hown, hts⟩ M_60 0 rfl rfl (cwV 3 hts gX4_leastRoom_X4_countFitting rfl rfl rfl (by decide +kernel) ⟨Nat.le_of_ble_eq_true rfl, Nat.le_of_ble_eq_true rfl⟩) hN hK hP hD hS hA [0, 1, 2, 3, 4, 5, 6, 7, 8, 17] [9, 10, 11, 12, 13, 14, 15, 16] rfl rfl (by decide) (by decide) (by decide) rfl hl.1 rfl (Nat.le_of_ble_eq_true rfl) dX4_leastRoom_60 ⟨Nat.le_of_ble_eq_true rfl, Nat.le_of_ble_eq_true rfl⟩ (fun r_60 u_60 H locs hw_60 hP hD hS => ?_)
            obtain ⟨v_1, v_2, v_3⟩ := u_60
            try dsimp only at hw_60
            replace hP : va_P D vwCl [oD d lt mn vs, ai (cy 0) (d 1) 24 pt, ai (cy 0) (d 2) 24 tk, ai (cy 0) (d 3) 24 mr, ai (cy 0) (d 4) 10 od, ai (cy 0) (d 5) 10 pl, ai (cy 0) (d 6) 4 rm, ai (cy 0) (d 7) 10 cd, oW wt fs, ai (cy 0) (wt 1) 10 (wS pt tk mr lt), aq (cy 3) (wt 2) 3 (fun ix => wt (3 + ix)), ai (cy 0) (wt 3) 4 v_1, ai (cy 0) (wt 4) 4 v_2, ai (cy 0) (wt 5) 4 v_3, oF fs n (pw mn k.toNat), ai (cy 0) (fs 1) 10 fp1, ai (cy 0) (fs 2) 10 FC, ai (cy 0) (wt 6) 4 (fun _ => (le - 1))] H := hP
            replace hD : va_D A [oD d lt mn vs, ai (cy 0) (d 1) 24 pt, ai (cy 0) (d 2) 24 tk, ai (cy 0) (d 3) 24 mr, ai (cy 0) (d 4) 10 od, ai (cy 0) (d 5) 10 pl, ai (cy 0) (d 6) 4 rm, ai (cy 0) (d 7) 10 cd, oW wt fs, ai (cy 0) (wt 1) 10 (wS pt tk mr lt), aq (cy 3) (wt 2) 3 (fun ix => wt (3 + ix)), ai (cy 0) (wt 3) 4 v_1, ai (cy 0) (wt 4) 4 v_2, ai (cy 0) (wt 5) 4 v_3, oF fs n (pw mn k.toNat), ai (cy 0) (fs 1) 10 fp1, ai (cy 0) (fs 2) 10 FC, ai (cy 0) (wt 6) 4 (fun _ => (le - 1))] := hD
            refine lv_istore (lv' := [(6, .int (iI r_60)), (0, .ref (wt 0)), (1, .ref (d 0)), (2, .int (iI k)), (3, .int (iI le)), (4, .int (iI mo)), (5, .int (iI n0))]) hx hb dX4_leastRoom_63 hl (by decide) rfl (fun ls hl => ?_)
            refine lv_iload hx hb dX4_leastRoom_65 (lv_at hl 0 rfl) ?_
            refine lv_aload_n hx hb dX4_leastRoom_67 rfl (lv_at hl 1 rfl) ?_
            refine va_get (D := D) (C := RX4) (T := TX4) (N := 4) (ci := 4) (v := .ref (fs 0)) hx hb hts iw_X4_leastRoom_4 hown hK hP 8 rfl rfl 0 (by decide) (hts _ fl_X4_leastRoom_12) (fun _ h9 => h9) rfl dX4_leastRoom_68 ?_
            refine va_getN (D := D) (C := RX3) (T := TX3) (N := 4) (ci := 3) (v := .int (iI n)) hx hb hts iw_X4_leastRoom_3 hown hK hP 14 rfl rfl 1 (by decide) (nfX4_51 hN) (fun _ h9 => h9) rfl dX4_leastRoom_71 ?_
            refine r_ne hx hb 83 dX4_leastRoom_74 (by decide) ⟨by omega, by omega⟩ ⟨by omega, by omega⟩ (fun c_74 => ?_) (fun c_74 => ?_)
            ·
              refine lv_aload_n hx hb dX4_leastRoom_83 rfl (lv_at hl 1 rfl) ?_
              refine va_get (D := D) (C := RX4) (T := TX4) (N := 4) (ci := 4) (v := .ref (fs 0)) hx hb hts iw_X4_leastRoom_4 hown hK hP 8 rfl rfl 0 (by decide) (hts _ fl_X4_leastRoom_12) (fun _ h9 => h9) rfl dX4_leastRoom_84 ?_
              refine lv_iload hx hb dX4_leastRoom_87 (lv_at hl 0 rfl) ?_
              refine r_const hx hb dX4_leastRoom_89 ?_
              refine r_add hx hb dX4_leastRoom_90 ?_
              have M_91 := k_X3_advance l D cy fs H.size n (pw mn k.toNat) fp1 FC (r_60 + 1) (hFI) (by have := hFI.1.1.2; omega)
              refine kV_i (wr := [oD d lt mn vs, ai (cy 0) (d 1) 24 pt, ai (cy 0) (d 2) 24 tk, ai (cy 0) (d 3) 24 mr, ai (cy 0) (d 4) 10 od, ai (cy 0) (d 5) 10 pl, ai (cy 0) (d 6) 4 rm, ai (cy 0) (d 7) 10 cd, oW wt fs, ai (cy 0) (wt 1) 10 (wS pt tk mr lt), aq (cy 3) (wt 2) 3 (fun ix => wt (3 + ix)), ai (cy 0) (wt 3) 4 v_1, ai (cy 0) (wt 4) 4 v_2, ai (cy 0) (wt 5) 4 v_3, ai (cy 0) (wt 6) 4 (fun _ => (le - 1))]) (As := [.int (iI (r_60 + 1))]) (rest := []) (q := (RX3, TX3, 4)) (ci := 3) ⟨hx, hb, hml, hown, hts⟩ M_91 14 rfl rfl (cwV 1 hts gX4_leastRoom_X3_advance rfl rfl rfl (by decide +kernel) ⟨Nat.le_of_ble_eq_true rfl, Nat.le_of_ble_eq_true rfl⟩) hN hK hP hD hS hA [14, 15, 16] [0, 1, 2, 3, 4, 5, 6, 7, 8, 9, 10, 11, 12, 13, 17] rfl rfl (by decide) (by decide) (by decide) rfl hl.1 rfl (Nat.le_of_ble_eq_true rfl) dX4_leastRoom_91 ⟨Nat.le_of_ble_eq_true rfl, Nat.le_of_ble_eq_true rfl⟩ (fun r_91 u_91 H locs hw_91 hP hD hS => ?_)
              obtain ⟨v_4, rfl⟩ : ∃ z, z = u_91 := ⟨_, rfl⟩
              try dsimp only at hw_91
              replace hP : va_P D vwCl [oD d lt mn vs, ai (cy 0) (d 1) 24 pt, ai (cy 0) (d 2) 24 tk, ai (cy 0) (d 3) 24 mr, ai (cy 0) (d 4) 10 od, ai (cy 0) (d 5) 10 pl, ai (cy 0) (d 6) 4 rm, ai (cy 0) (d 7) 10 cd, oW wt fs, ai (cy 0) (wt 1) 10 (wS pt tk mr lt), aq (cy 3) (wt 2) 3 (fun ix => wt (3 + ix)), ai (cy 0) (wt 3) 4 v_1, ai (cy 0) (wt 4) 4 v_2, ai (cy 0) (wt 5) 4 v_3, ai (cy 0) (wt 6) 4 (fun _ => (le - 1)), oF fs n (pw mn k.toNat), ai (cy 0) (fs 1) 10 fp1, ai (cy 0) (fs 2) 10 v_4] H := hP
              replace hD : va_D A [oD d lt mn vs, ai (cy 0) (d 1) 24 pt, ai (cy 0) (d 2) 24 tk, ai (cy 0) (d 3) 24 mr, ai (cy 0) (d 4) 10 od, ai (cy 0) (d 5) 10 pl, ai (cy 0) (d 6) 4 rm, ai (cy 0) (d 7) 10 cd, oW wt fs, ai (cy 0) (wt 1) 10 (wS pt tk mr lt), aq (cy 3) (wt 2) 3 (fun ix => wt (3 + ix)), ai (cy 0) (wt 3) 4 v_1, ai (cy 0) (wt 4) 4 v_2, ai (cy 0) (wt 5) 4 v_3, ai (cy 0) (wt 6) 4 (fun _ => (le - 1)), oF fs n (pw mn k.toNat), ai (cy 0) (fs 1) 10 fp1, ai (cy 0) (fs 2) 10 v_4] := hD
              refine lv_istore (lv' := [(4, .int (iI r_91)), (6, .int (iI r_60)), (0, .ref (wt 0)), (1, .ref (d 0)), (2, .int (iI k)), (3, .int (iI le)), (5, .int (iI n0))]) hx hb dX4_leastRoom_94 hl (by decide) rfl (fun ls hl => ?_)
              refine r_inc (k := 6) (lv' := [(5, .int (iI (n0 + 1))), (4, .int (iI r_91)), (6, .int (iI r_60)), (0, .ref (wt 0)), (1, .ref (d 0)), (2, .int (iI k)), (3, .int (iI le))]) hx hb dX4_leastRoom_96 hl rfl (by decide) rfl (fun ls hl => ?_)
              refine lv_goto (tgt := 22) hx hb dX4_leastRoom_99 (by decide) ?_
              have hs1 : SrI (pw mn k.toNat) (plsA mn k (usd (hasI pt lt) od 10).length) PR 1 (cds fp1 FC n) := by rcases hmo1 with q | q; (exact absurd q (by omega)); (rw [← q]; exact hs)
              obtain ⟨X, hX0, hX1, hX2⟩ := SrI_f (r := r_91) (f := (r_60 + 1).toNat) hs1 (by rcases hw_91.2 with ⟨q1, q2⟩ | ⟨q1, q2, -⟩; (exact Or.inl ⟨q1, q2⟩); (exact Or.inr ⟨q1, q2⟩))
              have hX3 := len_pos hX0
              have hno := hw_60.2.2 (by omega)
              rw [fit_cv hU hw_60.1.1 (by omega)] at hno
              exact ih_22 le r_91 (n0 + 1) v_4 v_1 v_2 v_3 (fun _ => (le - 1)) (PR ++ X) (hX2) (by omega) (by omega) (by rw [List.length_append]; omega) (fun Y hY => by rcases List.mem_append.mp hY with q | q; (exact hnf Y q); (exact Fit_no hw_60.1.1 (by rw [cds_len]; omega) (hX1 Y q).2 hno (hX1 Y q).1)) (hyf) (hw_91.1) (by omega) (by omega) H locs (pick_P hP (is := [14, 8, 9, 10, 11, 12, 13, 15, 16, 17, 0, 1, 2, 3, 4, 5, 6, 7]) rfl) (hD.sub [14, 8, 9, 10, 11, 12, 13, 15, 16, 17, 0, 1, 2, 3, 4, 5, 6, 7] (by decide) rfl) hS ls (lv_sub hl [3, 4, 5, 6, 1, 0] rfl)
            ·
              refine r_inc (k := 4) (lv' := [(3, .int (iI (le + -1))), (6, .int (iI r_60)), (0, .ref (wt 0)), (1, .ref (d 0)), (2, .int (iI k)), (4, .int (iI mo)), (5, .int (iI n0))]) hx hb dX4_leastRoom_77 hl rfl (by decide) rfl (fun ls hl => ?_)
              refine lv_goto (tgt := 96) hx hb dX4_leastRoom_80 (by decide) ?_
              refine r_inc (k := 6) (lv' := [(5, .int (iI (n0 + 1))), (3, .int (iI (le + -1))), (6, .int (iI r_60)), (0, .ref (wt 0)), (1, .ref (d 0)), (2, .int (iI k)), (4, .int (iI mo))]) hx hb dX4_leastRoom_96 hl rfl (by decide) rfl (fun ls hl => ?_)
              refine lv_goto (tgt := 22) hx hb dX4_leastRoom_99 (by decide) ?_
              have hs1 : SrI (pw mn k.toNat) (plsA mn k (usd (hasI pt lt) od 10).length) PR 1 (cds fp1 FC n) := by rcases hmo1 with q | q; (exact absurd q (by omega)); (rw [← q]; exact hs)
              exact ih_22 (le + -1) mo (n0 + 1) FC v_1 v_2 v_3 (fun _ => (le - 1)) PR (hs) (by omega) (by omega) (by omega) (fun Y hY z => hnf Y hY (Fit_mono (fun _ => by omega) z)) (fun _ => ⟨_, SrI_mem hs1, fun i q1 q2 => by rw [cds_len] at q2; exact (fit_cv (ro := fun _ => le - 1) hU q1 (by omega)).mp (hw_60.2.1 i q1 (by omega))⟩) (hFI) (by omega) (by omega) H locs (pick_P hP (is := [17, 8, 9, 10, 11, 12, 13, 14, 15, 16, 0, 1, 2, 3, 4, 5, 6, 7]) rfl) (hD.sub [17, 8, 9, 10, 11, 12, 13, 14, 15, 16, 0, 1, 2, 3, 4, 5, 6, 7] (by decide) rfl) hS ls (lv_sub hl [3, 4, 5, 1, 6, 0] rfl)
  exact lp_22 _ 100 r_14 0 fc1 l0 l1 l2 li ([]) (by have e := SrI_0 (k := k) (mn := mn) hcs hI1.1.1.1 (by omega) hr1; rw [show n.toNat = (usd (hasI pt lt) od 10).length by omega] at e; exact e) (by omega) (by omega) (⟨by omega, by simp⟩) (fun Y hY => absurd hY List.not_mem_nil) (fun q => by omega) (hI1) (by omega) (Nat.lt_succ_self _) H locs (pick_P hP (is := [0, 1, 2, 3, 4, 5, 6, 7, 8, 9, 10, 11, 12, 13, 14, 15, 16, 17]) rfl) (hD.sub [0, 1, 2, 3, 4, 5, 6, 7, 8, 9, 10, 11, 12, 13, 14, 15, 16, 17] (by decide) rfl) hS ls (lv_sub hl [3, 4, 5, 2, 1, 0] rfl)
