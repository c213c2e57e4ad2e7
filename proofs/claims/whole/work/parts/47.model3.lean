abbrev rm_X6_size : Room := { frames := 0, cells := 0, slots := 0, locals := 0 }
set_option maxHeartbeats 4000000 in
set_option maxRecDepth 100000 in
theorem k_X6_size (l : Launch) (D : va_G) (cy : Nat → ClassId) (z : Nat) (v : Int) (hv : 0 ≤ v ∧ v < 65536) : CtI l yX6_size wsX6_size rm_X6_size D (tyL cy) [.int (iI v)] [] z (fun (r : Int) (u : Unit) => r = ((bl v).length : Int)) (fun (u : Unit) => []) 0 0 := by
  refine ct_i (cc := cX6_size) (maxL := 3) (by decide) rfl (Nat.le_of_ble_eq_true rfl) ?_
  intro p e s m args below meth c A Q H locs ls hx hb hml hown hin hts hK hN hP hD hS hA hl hret
  replace hl : lv_has ls 3 [(0, .int (iI v))] := hl
  replace hown : s.vm.findClass RX6 = some m.cls := hown
  refine r_const hx hb dX6_size_0 ?_
  refine lv_istore_n (lv' := [(1, .int (iI 0)), (0, .int (iI v))]) hx hb dX6_size_1 rfl hl (by decide) rfl (fun ls hl => ?_)
  refine r_const hx hb dX6_size_2 ?_
  refine lv_istore_n (lv' := [(2, .int (iI 0)), (1, .int (iI 0)), (0, .int (iI v))]) hx hb dX6_size_3 rfl hl (by decide) rfl (fun ls hl => ?_)
  have lp_4 : ∀ (fu : Nat) (g : Int) (i : Int), (0 ≤ i ∧ i ≤ 16) → (g = ((blr v i.toNat 0).length : Int)) → (16 - i).toNat < fu → ∀ (H : Heap) (locs : List Loc), va_P D vwCl [] H → va_D A [] → va_S A s.heap H locs → ∀ (ls : Array Slot), lv_has ls 3 [(0, .int (iI v)), (1, .int (iI g)), (2, .int (iI i))] → W p l e rm_X6_size s m args below meth c H locs 0 0 Q (F0 m 4 ls []) := by
    intro fu
    induction fu with
    | zero =>
      intro g i h1 h2 hm
      exact absurd hm (Nat.not_lt_zero _)
    | succ fu ih_4 =>
      intro g i h1 h2 hm H locs hP hD hS ls hl
      refine lv_iload_n hx hb dX6_size_4 rfl (lv_at hl 2 rfl) ?_
      refine r_bip hx hb (16) dX6_size_5 (by decide) ?_
      refine r_ge hx hb 24 dX6_size_7 (by decide) ⟨by omega, by omega⟩ ⟨by omega, by omega⟩ (fun c_7 => ?_) (fun c_7 => ?_)
      ·
        refine lv_iload_n hx hb dX6_size_24 rfl (lv_at hl 1 rfl) ?_
        exact hret [] () dX6_size_25 hP hD hS (by decide) rfl (by rw [h2, show i = 16 by omega]; rfl)
      ·
        refine lv_iload_n hx hb dX6_size_10 rfl (lv_at hl 1 rfl) ?_
        refine lv_iload_n hx hb dX6_size_11 rfl (lv_at hl 0 rfl) ?_
        refine lv_iload_n hx hb dX6_size_12 rfl (lv_at hl 2 rfl) ?_
        refine r_shr hx hb dX6_size_13 ?_
        refine r_const hx hb dX6_size_14 ?_
        refine r_and hx hb dX6_size_15 ?_
        refine r_top (if v.toNat.testBit i.toNat = true then 1 else 0) (bit_at (by omega) (by omega) (by omega) (by omega)) ?_
        refine r_add hx hb dX6_size_16 ?_
        refine lv_istore_n (lv' := [(1, .int (iI (g + (if v.toNat.testBit i.toNat = true then 1 else 0)))), (0, .int (iI v)), (2, .int (iI i))]) hx hb dX6_size_17 rfl hl (by decide) rfl (fun ls hl => ?_)
        refine r_inc (k := 2) (lv' := [(2, .int (iI (i + 1))), (1, .int (iI (g + (if v.toNat.testBit i.toNat = true then 1 else 0)))), (0, .int (iI v))]) hx hb dX6_size_18 hl rfl (by decide) rfl (fun ls hl => ?_)
        refine lv_goto (tgt := 4) hx hb dX6_size_21 (by decide) ?_
        exact ih_4 (g + (if v.toNat.testBit i.toNat = true then 1 else 0)) (i + 1) (by omega) (by rw [toNat_s h1.1, blr_split v i.toNat 1 0, List.length_append, h2]; by_cases z : v.toNat.testBit i.toNat = true; (rw [if_pos z, show (0 : Int) + (i.toNat : Int) = i by omega, blr_yes z]; show _ = (((blr v i.toNat 0).length + 1 : Nat) : Int); omega); (rw [if_neg z, show (0 : Int) + (i.toNat : Int) = i by omega, blr_no z]; show _ = (((blr v i.toNat 0).length + 0 : Nat) : Int); omega)) (by omega) H locs (pick_P hP (is := []) rfl) (hD.sub [] (by decide) rfl) hS ls (lv_sub hl [2, 1, 0] rfl)
  exact lp_4 _ 0 0 (by omega) (rfl) (Nat.lt_succ_self _) H locs (pick_P hP (is := []) rfl) (hD.sub [] (by decide) rfl) hS ls (lv_sub hl [2, 1, 0] rfl)
abbrev rm_X6_isAhead : Room := { frames := 0, cells := 0, slots := 0, locals := 0 }
set_option maxHeartbeats 4000000 in
set_option maxRecDepth 100000 in
theorem k_X6_isAhead (l : Launch) (D : va_G) (cy : Nat → ClassId) (z : Nat) (a b : Int) (ha : 0 ≤ a ∧ a < 65536) (hb9 : 0 ≤ b ∧ b < 65536) : CtI l yX6_isAhead wsX6_isAhead rm_X6_isAhead D (tyL cy) [.int (iI a), .int (iI b)] [] z (fun (r : Int) (u : Unit) => (r = 1 ∧ zand (zand a (zxor a b)) (-zxor a b) ≠ 0) ∨ (r = 0 ∧ zand (zand a (zxor a b)) (-zxor a b) = 0)) (fun (u : Unit) => []) 0 0 := by
  refine ct_z (cc := cX6_isAhead) (maxL := 3) (by decide) rfl (Nat.le_of_ble_eq_true rfl) ?_
  intro p e s m args below meth c A Q H locs ls hx hb hml hown hin hts hK hN hP hD hS hA hl hret
  replace hl : lv_has ls 3 [(0, .int (iI a)), (1, .int (iI b))] := hl
  replace hown : s.vm.findClass RX6 = some m.cls := hown
  refine lv_iload_n hx hb dX6_isAhead_0 rfl (lv_at hl 0 rfl) ?_
  refine lv_iload_n hx hb dX6_isAhead_1 rfl (lv_at hl 1 rfl) ?_
  refine r_xor hx hb dX6_isAhead_2 ?_
  refine lv_istore_n (lv' := [(2, .int (iI (zxor a b))), (0, .int (iI a)), (1, .int (iI b))]) hx hb dX6_isAhead_3 rfl hl (by decide) rfl (fun ls hl => ?_)
  refine lv_iload_n hx hb dX6_isAhead_4 rfl (lv_at hl 1 rfl) ?_
  refine lv_iload_n hx hb dX6_isAhead_5 rfl (lv_at hl 0 rfl) ?_
  refine r_and hx hb dX6_isAhead_6 ?_
  refine lv_iload_n hx hb dX6_isAhead_7 rfl (lv_at hl 0 rfl) ?_
  refine r_neg hx hb dX6_isAhead_8 ?_
  refine r_and hx hb dX6_isAhead_9 ?_
  refine r_eq0 hx hb 17 dX6_isAhead_10 (by decide) (inR_of _) (fun c_10 => ?_) (fun c_10 => ?_)
  ·
    refine r_const hx hb dX6_isAhead_17 ?_
    exact hret [] () dX6_isAhead_18 hP hD hS (by decide) rfl (by omega) (by first | exact Or.inl ⟨rfl, c_10⟩ | exact Or.inr ⟨rfl, c_10⟩)
  ·
    refine r_const hx hb dX6_isAhead_13 ?_
    refine lv_goto (tgt := 18) hx hb dX6_isAhead_14 (by decide) ?_
    exact hret [] () dX6_isAhead_18 hP hD hS (by decide) rfl (by omega) (by first | exact Or.inl ⟨rfl, c_10⟩ | exact Or.inr ⟨rfl, c_10⟩)
abbrev rm_X6_takeCodes : Room := { frames := 1, cells := 0, slots := 0, locals := 23 }
theorem fl_X6_takeCodes_7 : Cond.fieldLink RX6 7 "WalkPassesModel" "state" "[I" ∈ wsX6_takeCodes := by decide +kernel
theorem iw_X6_takeCodes_6 : ∀ w ∈ u_ws RX6 TX6 16, w ∈ wsX6_takeCodes := by decide +kernel
set_option maxHeartbeats 4000000 in
set_option maxRecDepth 100000 in
theorem k_X6_takeCodes (l : Launch) (D : va_G) (cy : Nat → ClassId) (mo : Nat → Nat) (z : Nat) (rn sn co bp ag pn : Int) (lt mn : Int) (pt tk mr od pl rm cd : Int → Int) (mk : Int) (hI : DI lt mn pt tk mr od pl rm cd) (hm : 0 ≤ mk ∧ mk < 65536) (hmb : (bl mk).length = (usd (hasI pt lt) od 10).length) : CtV l yX6_takeCodes wsX6_takeCodes rm_X6_takeCodes D (tyL cy) [.ref (mo 0), .int (iI mk)] [oM mo rn sn co bp ag pn, ai (cy 0) (mo 1) 98 (stF lt mn pt tk mr od rm cd)] z (fun (u : Unit) => True) (fun (u : Unit) => [oM mo rn sn co bp ag pn, ai (cy 0) (mo 1) 98 (stF lt mn pt tk mr od rm (tkC (hasI pt lt) (asg (usd (hasI pt lt) od 10) (bl mk)) cd 10))]) 0 0 := by
  refine ct_v (cc := cX6_takeCodes) (maxL := 4) (by decide) rfl (Nat.le_of_ble_eq_true rfl) ?_
  intro p e s m args below meth c A Q H locs ls hx hb hml hown hin hts hK hN hP hD hS hA hl hret
  replace hl : lv_has ls 4 [(0, .ref (mo 0)), (1, .int (iI mk))] := hl
  replace hown : s.vm.findClass RX6 = some m.cls := hown
  obtain ⟨⟨⟨hlt0, hlt1⟩, hmn0, hmn1⟩, ⟨hpt, htk, hmr⟩, ⟨hod, hpl, hpo, hop⟩, hrm, hcd⟩ := id hI
  have hUn : (usd (hasI pt lt) od 10).Nodup := (usd_nd (hs := hasI pt lt) hpo 10 (Nat.le_refl _)).filter _
  refine r_const hx hb dX6_takeCodes_0 ?_
  refine lv_istore_n (lv' := [(2, .int (iI 0)), (0, .ref (mo 0)), (1, .int (iI mk))]) hx hb dX6_takeCodes_1 rfl hl (by decide) rfl (fun ls hl => ?_)
  refine r_const hx hb dX6_takeCodes_2 ?_
  refine lv_istore_n (lv' := [(3, .int (iI 0)), (2, .int (iI 0)), (0, .ref (mo 0)), (1, .int (iI mk))]) hx hb dX6_takeCodes_3 rfl hl (by decide) rfl (fun ls hl => ?_)
  have lp_4 : ∀ (fu : Nat) (c1 : Int) (i : Int) (B : Int → Int), (0 ≤ i ∧ i ≤ 10) → (0 ≤ c1 ∧ c1 ≤ 16) → ((bl mk).drop (usd (hasI pt lt) od i.toNat).length = blr mk (16 - c1).toNat c1) → (B = tkU (usd (hasI pt lt) od i.toNat) (asg (usd (hasI pt lt) od 10) (bl mk)) cd) → (10 - i).toNat < fu → ∀ (H : Heap) (locs : List Loc), va_P D vwCl [oM mo rn sn co bp ag pn, ai (cy 0) (mo 1) 98 (stF lt mn pt tk mr od rm B)] H → va_D A [oM mo rn sn co bp ag pn, ai (cy 0) (mo 1) 98 (stF lt mn pt tk mr od rm B)] → va_S A s.heap H locs → ∀ (ls : Array Slot), lv_has ls 4 [(0, .ref (mo 0)), (1, .int (iI mk)), (2, .int (iI c1)), (3, .int (iI i))] → W p l e rm_X6_takeCodes s m args below meth c H locs 0 0 Q (F0 m 4 ls []) := by
    intro fu
    induction fu with
    | zero =>
      intro c1 i B h1 h2 h3 h4 hm
      exact absurd hm (Nat.not_lt_zero _)
    | succ fu ih_4 =>
      intro c1 i B h1 h2 h3 h4 hm H locs hP hD hS ls hl
      refine lv_iload_n hx hb dX6_takeCodes_4 rfl (lv_at hl 3 rfl) ?_
      refine r_bip hx hb (10) dX6_takeCodes_5 (by decide) ?_
      refine r_ge hx hb 65 dX6_takeCodes_7 (by decide) ⟨by omega, by omega⟩ ⟨by omega, by omega⟩ (fun c_7 => ?_) (fun c_7 => ?_)
      ·
        obtain rfl : i = 10 := by omega
        have h5 : B = tkC (hasI pt lt) (asg (usd (hasI pt lt) od 10) (bl mk)) cd 10 := by rw [h4]; exact tkU_end hod hpl hop
        subst h5
        exact hret [0, 1] () dX6_takeCodes_65 hP hD hS (by decide) rfl (by trivial)
      ·
        refine lv_aload_n hx hb dX6_takeCodes_10 rfl (lv_at hl 0 rfl) ?_
        refine lv_aload_n hx hb dX6_takeCodes_11 rfl (lv_at hl 0 rfl) ?_
        refine va_get (D := D) (C := RX6) (T := TX6) (N := 16) (ci := 6) (v := .ref (mo 1)) hx hb hts iw_X6_takeCodes_6 hown hK hP 0 rfl rfl 0 (by decide) (hts _ fl_X6_takeCodes_7) (fun _ h9 => h9) rfl dX6_takeCodes_12 ?_
        refine r_const hx hb dX6_takeCodes_15 ?_
        refine lv_iload_n hx hb dX6_takeCodes_16 rfl (lv_at hl 3 rfl) ?_
        refine r_add hx hb dX6_takeCodes_17 ?_
        refine r_ald hx hb hK hP 1 rfl rfl ⟨by omega, by omega, by omega⟩ dX6_takeCodes_18 ?_
        refine r_top (od i) (stF_od (by omega) (by omega) (by omega)) ?_
        have b_18 := hod i
        have M_19 := k_X6_isUsed l D cy mo H.size rn sn co bp ag pn lt mn pt tk mr od pl rm B (od i) (⟨⟨hlt0, hlt1⟩, hpt⟩) (⟨by omega, by omega⟩)
        refine kV_i (wr := []) (As := [.int (iI (od i))]) (rest := []) (q := (RX6, TX6, 16)) (ci := 6) ⟨hx, hb, hml, hown, hts⟩ M_19 0 rfl rfl (cwV 1 hts gX6_takeCodes_X6_isUsed rfl rfl rfl (by decide +kernel) ⟨Nat.le_of_ble_eq_true rfl, Nat.le_of_ble_eq_true rfl⟩) hN hK hP hD hS hA [0, 1] [] rfl rfl (by decide) (by decide) (by decide) rfl hl.1 rfl (Nat.le_of_ble_eq_true rfl) dX6_takeCodes_19 ⟨Nat.le_of_ble_eq_true rfl, Nat.le_of_ble_eq_true rfl⟩ (fun r_19 u_19 H locs hw_19 hP hD hS => ?_)
        replace hP : va_P D vwCl [oM mo rn sn co bp ag pn, ai (cy 0) (mo 1) 98 (stF lt mn pt tk mr od rm B)] H := hP
        replace hD : va_D A [oM mo rn sn co bp ag pn, ai (cy 0) (mo 1) 98 (stF lt mn pt tk mr od rm B)] := hD
        have hb0 := hasI_b pt lt (od i)
        refine r_eq0 hx hb 59 dX6_takeCodes_22 (by decide) ⟨by omega, by omega⟩ (fun c_22 => ?_) (fun c_22 => ?_)
        ·
          refine r_inc (k := 3) (lv' := [(3, .int (iI (i + 1))), (0, .ref (mo 0)), (1, .int (iI mk)), (2, .int (iI c1))]) hx hb dX6_takeCodes_59 hl rfl (by decide) rfl (fun ls hl => ?_)
          refine lv_goto (tgt := 4) hx hb dX6_takeCodes_62 (by decide) ?_
          exact ih_4 c1 (i + 1) B (by omega) (by omega) (by rw [usd_s h1.1, if_neg (by omega)]; exact h3) (by rw [usd_s h1.1, if_neg (by omega)]; exact h4) (by omega) H locs (pick_P hP (is := [0, 1]) rfl) (hD.sub [0, 1] (by decide) rfl) hS ls (lv_sub hl [1, 2, 3, 0] rfl)
        ·
          have hu1 : hasI pt lt (od i) = 1 := by omega
          obtain ⟨rest, hre⟩ := usd_pre (hasI pt lt) od h1.1 (by omega) hu1
          have hlen := congrArg List.length hre
          rw [List.length_append, List.length_cons] at hlen
          have lp_25 : ∀ (fu : Nat) (c2 : Int), (0 ≤ c2 ∧ c2 ≤ 16) → ((bl mk).drop (usd (hasI pt lt) od i.toNat).length = blr mk (16 - c2).toNat c2) → (16 - c2).toNat < fu → ∀ (H : Heap) (locs : List Loc), va_P D vwCl [oM mo rn sn co bp ag pn, ai (cy 0) (mo 1) 98 (stF lt mn pt tk mr od rm B)] H → va_D A [oM mo rn sn co bp ag pn, ai (cy 0) (mo 1) 98 (stF lt mn pt tk mr od rm B)] → va_S A s.heap H locs → ∀ (ls : Array Slot), lv_has ls 4 [(0, .ref (mo 0)), (1, .int (iI mk)), (2, .int (iI c2)), (3, .int (iI i))] → W p l e rm_X6_takeCodes s m args below meth c H locs 0 0 Q (F0 m 25 ls []) := by
            intro fu
            induction fu with
            | zero =>
              intro c2 k1 k2 hm
              exact absurd hm (Nat.not_lt_zero _)
            | succ fu ih_25 =>
              intro c2 k1 k2 hm H locs hP hD hS ls hl
              have hc16 : c2 < 16 := by rcases Int.lt_or_le c2 16 with z | z; (exact z); (exfalso; rw [show (16 - c2).toNat = 0 by omega] at k2; have z2 := congrArg List.length k2; rw [List.length_drop] at z2; have z3 : (blr mk 0 c2).length = 0 := rfl; omega)
              refine lv_iload_n hx hb dX6_takeCodes_25 rfl (lv_at hl 1 rfl) ?_
              refine lv_iload_n hx hb dX6_takeCodes_26 rfl (lv_at hl 2 rfl) ?_
              refine r_shr hx hb dX6_takeCodes_27 ?_
              refine r_const hx hb dX6_takeCodes_28 ?_
              refine r_and hx hb dX6_takeCodes_29 ?_
              refine r_top (if mk.toNat.testBit c2.toNat = true then 1 else 0) (bit_at (by omega) (by omega) (by omega) (by omega)) ?_
              refine r_ne0 hx hb 39 dX6_takeCodes_30 (by decide) ⟨by split <;> omega, by split <;> omega⟩ (fun c_30 => ?_) (fun c_30 => ?_)
              ·
                have hbt : mk.toNat.testBit c2.toNat = true := by by_cases z : mk.toNat.testBit c2.toNat = true; (exact z); (rw [if_neg z] at c_30; exact absurd rfl c_30)
                refine lv_aload_n hx hb dX6_takeCodes_39 rfl (lv_at hl 0 rfl) ?_
                refine va_get (D := D) (C := RX6) (T := TX6) (N := 16) (ci := 6) (v := .ref (mo 1)) hx hb hts iw_X6_takeCodes_6 hown hK hP 0 rfl rfl 0 (by decide) (hts _ fl_X6_takeCodes_7) (fun _ h9 => h9) rfl dX6_takeCodes_40 ?_
                refine r_bip hx hb (10) dX6_takeCodes_43 (by decide) ?_
                refine lv_aload_n hx hb dX6_takeCodes_45 rfl (lv_at hl 0 rfl) ?_
                refine va_get (D := D) (C := RX6) (T := TX6) (N := 16) (ci := 6) (v := .ref (mo 1)) hx hb hts iw_X6_takeCodes_6 hown hK hP 0 rfl rfl 0 (by decide) (hts _ fl_X6_takeCodes_7) (fun _ h9 => h9) rfl dX6_takeCodes_46 ?_
                refine r_const hx hb dX6_takeCodes_49 ?_
                refine lv_iload_n hx hb dX6_takeCodes_50 rfl (lv_at hl 3 rfl) ?_
                refine r_add hx hb dX6_takeCodes_51 ?_
                refine r_ald hx hb hK hP 1 rfl rfl ⟨by omega, by omega, by omega⟩ dX6_takeCodes_52 ?_
                refine r_top (od i) (stF_od (by omega) (by omega) (by omega)) ?_
                have b_52 := hod i
                refine r_add hx hb dX6_takeCodes_53 ?_
                refine lv_iload_n hx hb dX6_takeCodes_54 rfl (lv_at hl 2 rfl) ?_
                refine r_ast hx hb hK hP hD hS 1 rfl rfl ⟨by omega, by omega, by omega⟩ dX6_takeCodes_55 (fun H locs hP hD hS => ?_)
                rw [show ud (stF lt mn pt tk mr od rm B) (10 + (od i)) c2 = stF lt mn pt tk mr od rm (ud B (od i) c2) from stU_cd (by omega) (by omega) (by omega)] at hP hD
                replace hP : va_P D vwCl [oM mo rn sn co bp ag pn, ai (cy 0) (mo 1) 98 (stF lt mn pt tk mr od rm (ud B (od i) c2))] H := hP
                replace hD : va_D A [oM mo rn sn co bp ag pn, ai (cy 0) (mo 1) 98 (stF lt mn pt tk mr od rm (ud B (od i) c2))] := hD
                refine r_inc (k := 2) (lv' := [(2, .int (iI (c2 + 1))), (0, .ref (mo 0)), (1, .int (iI mk)), (3, .int (iI i))]) hx hb dX6_takeCodes_56 hl rfl (by decide) rfl (fun ls hl => ?_)
                refine r_inc (k := 3) (lv' := [(3, .int (iI (i + 1))), (2, .int (iI (c2 + 1))), (0, .ref (mo 0)), (1, .int (iI mk))]) hx hb dX6_takeCodes_59 hl rfl (by decide) rfl (fun ls hl => ?_)
                refine lv_goto (tgt := 4) hx hb dX6_takeCodes_62 (by decide) ?_
                have hdc := drop_cons (by rw [k2, show (16 - c2).toNat = (16 - (c2 + 1)).toNat + 1 by omega, blr_yes hbt])
                have hag := asg_get (usd (hasI pt lt) od 10) (bl mk) (usd (hasI pt lt) od i.toNat).length (od i) c2 hUn (by rw [hre]; simp) hdc.1
                exact ih_4 (c2 + 1) (i + 1) (ud B (od i) c2) (by omega) (by omega) (by rw [usd_s h1.1, if_pos hu1, List.length_append]; exact hdc.2) (by rw [h4, tkU_y hag, usd_s h1.1, if_pos hu1]) (by omega) H locs (pick_P hP (is := [0, 1]) rfl) (hD.sub [0, 1] (by decide) rfl) hS ls (lv_sub hl [2, 3, 1, 0] rfl)
              ·
                have hbt : mk.toNat.testBit c2.toNat ≠ true := fun z => by rw [if_pos z] at c_30; exact absurd c_30 (by decide)
                refine r_inc (k := 2) (lv' := [(2, .int (iI (c2 + 1))), (0, .ref (mo 0)), (1, .int (iI mk)), (3, .int (iI i))]) hx hb dX6_takeCodes_33 hl rfl (by decide) rfl (fun ls hl => ?_)
                refine lv_goto (tgt := 25) hx hb dX6_takeCodes_36 (by decide) ?_
                exact ih_25 (c2 + 1) (by omega) (by rw [k2, show (16 - c2).toNat = (16 - (c2 + 1)).toNat + 1 by omega, blr_no hbt]) (by omega) H locs (pick_P hP (is := [0, 1]) rfl) (hD.sub [0, 1] (by decide) rfl) hS ls (lv_sub hl [1, 2, 0, 3] rfl)
          exact lp_25 _ c1 (h2) (h3) (Nat.lt_succ_self _) H locs (pick_P hP (is := [0, 1]) rfl) (hD.sub [0, 1] (by decide) rfl) hS ls (lv_sub hl [0, 1, 2, 3] rfl)
  exact lp_4 _ 0 0 cd (by omega) (by omega) (rfl) (funext fun q => (if_neg List.not_mem_nil).symm) (Nat.lt_succ_self _) H locs (pick_P hP (is := [0, 1]) rfl) (hD.sub [0, 1] (by decide) rfl) hS ls (lv_sub hl [2, 3, 1, 0] rfl)
