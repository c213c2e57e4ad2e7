abbrev rm_X5_isWithin : Room := { frames := 0, cells := 0, slots := 0, locals := 0 }
set_option maxHeartbeats 4000000 in
set_option maxRecDepth 100000 in
theorem k_X5_isWithin (l : Launch) (D : va_G) (cy : Nat → ClassId) (z : Nat) (v lo hi : Int) (hv : inR v) (hlo : inR lo) (hhi : inR hi) : CtI l yX5_isWithin wsX5_isWithin rm_X5_isWithin D (tyL cy) [.int (iI v), .int (iI lo), .int (iI hi)] [] z (fun (r : Int) (u : Unit) => (r = 1 ∧ lo ≤ v ∧ v ≤ hi) ∨ (r = 0 ∧ (v < lo ∨ hi < v))) (fun (u : Unit) => []) 0 0 := by
  refine ct_z (cc := cX5_isWithin) (maxL := 3) (by decide) rfl (Nat.le_of_ble_eq_true rfl) ?_
  intro p e s m args below meth c A Q H locs ls hx hb hml hown hin hts hK hN hP hD hS hA hl hret
  replace hl : lv_has ls 3 [(0, .int (iI v)), (1, .int (iI lo)), (2, .int (iI hi))] := hl
  replace hown : s.vm.findClass RX5 = some m.cls := hown
  refine lv_iload_n hx hb dX5_isWithin_0 rfl (lv_at hl 0 rfl) ?_
  refine lv_iload_n hx hb dX5_isWithin_1 rfl (lv_at hl 1 rfl) ?_
  refine r_lt hx hb 14 dX5_isWithin_2 (by decide) ⟨by omega, by omega⟩ ⟨by omega, by omega⟩ (fun c_2 => ?_) (fun c_2 => ?_)
  ·
    refine r_const hx hb dX5_isWithin_14 ?_
    exact hret [] () dX5_isWithin_15 hP hD hS (by decide) rfl (by omega) (by omega)
  ·
    refine lv_iload_n hx hb dX5_isWithin_5 rfl (lv_at hl 0 rfl) ?_
    refine lv_iload_n hx hb dX5_isWithin_6 rfl (lv_at hl 2 rfl) ?_
    refine r_gt hx hb 14 dX5_isWithin_7 (by decide) ⟨by omega, by omega⟩ ⟨by omega, by omega⟩ (fun c_7 => ?_) (fun c_7 => ?_)
    ·
      refine r_const hx hb dX5_isWithin_14 ?_
      exact hret [] () dX5_isWithin_15 hP hD hS (by decide) rfl (by omega) (by omega)
    ·
      refine r_const hx hb dX5_isWithin_10 ?_
      refine lv_goto (tgt := 15) hx hb dX5_isWithin_11 (by decide) ?_
      exact hret [] () dX5_isWithin_15 hP hD hS (by decide) rfl (by omega) (by omega)
abbrev rm_X5_isPoint : Room := { frames := 1, cells := 0, slots := 0, locals := 22 }
set_option maxHeartbeats 4000000 in
set_option maxRecDepth 100000 in
theorem k_X5_isPoint (l : Launch) (D : va_G) (cy : Nat → ClassId) (z : Nat) (v : Int) (hv : inR v) : CtI l yX5_isPoint wsX5_isPoint rm_X5_isPoint D (tyL cy) [.int (iI v)] [] z (fun (r : Int) (u : Unit) => (r = 1 ∧ 0 ≤ v ∧ v ≤ 9) ∨ (r = 0 ∧ (v < 0 ∨ 9 < v))) (fun (u : Unit) => []) 0 0 := by
  refine ct_z (cc := cX5_isPoint) (maxL := 1) (by decide) rfl (Nat.le_of_ble_eq_true rfl) ?_
  intro p e s m args below meth c A Q H locs ls hx hb hml hown hin hts hK hN hP hD hS hA hl hret
  replace hl : lv_has ls 1 [(0, .int (iI v))] := hl
  replace hown : s.vm.findClass RX5 = some m.cls := hown
  refine lv_iload_n hx hb dX5_isPoint_0 rfl (lv_at hl 0 rfl) ?_
  refine r_const hx hb dX5_isPoint_1 ?_
  refine r_bip hx hb (9) dX5_isPoint_2 (by decide) ?_
  have M_4 := k_X5_isWithin l D cy  H.size v 0 9 (hv) (⟨by omega, by omega⟩) (⟨by omega, by omega⟩)
  refine kS_i (wr := []) (As := [.int (iI v), .int (iI 0), .int (iI 9)]) (rest := []) ⟨hx, hb, hml, hown, hts⟩ M_4 (va_cwS 3 hts gX5_isPoint_X5_isWithin rfl rfl rfl (by decide +kernel) ⟨Nat.le_of_ble_eq_true rfl, Nat.le_of_ble_eq_true rfl⟩) hN hK hP hD hS hA [] [] rfl rfl (by decide) (by decide) (by decide) rfl hl.1 rfl (Nat.le_of_ble_eq_true rfl) dX5_isPoint_4 ⟨Nat.le_of_ble_eq_true rfl, Nat.le_of_ble_eq_true rfl⟩ (fun r_4 u_4 H locs hw_4 hP hD hS => ?_)
  replace hP : va_P D vwCl [] H := hP
  replace hD : va_D A [] := hD
  exact hret [] () dX5_isPoint_7 hP hD hS (by decide) rfl (by omega) (by omega)
abbrev rm_X5_isPasses : Room := { frames := 1, cells := 0, slots := 0, locals := 22 }
set_option maxHeartbeats 4000000 in
set_option maxRecDepth 100000 in
theorem k_X5_isPasses (l : Launch) (D : va_G) (cy : Nat → ClassId) (z : Nat) (v : Int) (hv : inR v) : CtI l yX5_isPasses wsX5_isPasses rm_X5_isPasses D (tyL cy) [.int (iI v)] [] z (fun (r : Int) (u : Unit) => (r = 1 ∧ 1 ≤ v ∧ v ≤ 3) ∨ (r = 0 ∧ (v < 1 ∨ 3 < v))) (fun (u : Unit) => []) 0 0 := by
  refine ct_z (cc := cX5_isPasses) (maxL := 1) (by decide) rfl (Nat.le_of_ble_eq_true rfl) ?_
  intro p e s m args below meth c A Q H locs ls hx hb hml hown hin hts hK hN hP hD hS hA hl hret
  replace hl : lv_has ls 1 [(0, .int (iI v))] := hl
  replace hown : s.vm.findClass RX5 = some m.cls := hown
  refine lv_iload_n hx hb dX5_isPasses_0 rfl (lv_at hl 0 rfl) ?_
  refine r_const hx hb dX5_isPasses_1 ?_
  refine r_const hx hb dX5_isPasses_2 ?_
  have M_3 := k_X5_isWithin l D cy  H.size v 1 3 (hv) (⟨by omega, by omega⟩) (⟨by omega, by omega⟩)
  refine kS_i (wr := []) (As := [.int (iI v), .int (iI 1), .int (iI 3)]) (rest := []) ⟨hx, hb, hml, hown, hts⟩ M_3 (va_cwS 3 hts gX5_isPasses_X5_isWithin rfl rfl rfl (by decide +kernel) ⟨Nat.le_of_ble_eq_true rfl, Nat.le_of_ble_eq_true rfl⟩) hN hK hP hD hS hA [] [] rfl rfl (by decide) (by decide) (by decide) rfl hl.1 rfl (Nat.le_of_ble_eq_true rfl) dX5_isPasses_3 ⟨Nat.le_of_ble_eq_true rfl, Nat.le_of_ble_eq_true rfl⟩ (fun r_3 u_3 H locs hw_3 hP hD hS => ?_)
  replace hP : va_P D vwCl [] H := hP
  replace hD : va_D A [] := hD
  exact hret [] () dX5_isPasses_6 hP hD hS (by decide) rfl (by omega) (by omega)
abbrev rm_X5_isImage : Room := { frames := 1, cells := 0, slots := 0, locals := 22 }
set_option maxHeartbeats 4000000 in
set_option maxRecDepth 100000 in
theorem k_X5_isImage (l : Launch) (D : va_G) (cy : Nat → ClassId) (z : Nat) (v : Int) (hv : inR v) : CtI l yX5_isImage wsX5_isImage rm_X5_isImage D (tyL cy) [.int (iI v)] [] z (fun (r : Int) (u : Unit) => (r = 1 ∧ 0 ≤ v ∧ v ≤ 1) ∨ (r = 0 ∧ (v < 0 ∨ 1 < v))) (fun (u : Unit) => []) 0 0 := by
  refine ct_z (cc := cX5_isImage) (maxL := 1) (by decide) rfl (Nat.le_of_ble_eq_true rfl) ?_
  intro p e s m args below meth c A Q H locs ls hx hb hml hown hin hts hK hN hP hD hS hA hl hret
  replace hl : lv_has ls 1 [(0, .int (iI v))] := hl
  replace hown : s.vm.findClass RX5 = some m.cls := hown
  refine lv_iload_n hx hb dX5_isImage_0 rfl (lv_at hl 0 rfl) ?_
  refine r_const hx hb dX5_isImage_1 ?_
  refine r_const hx hb dX5_isImage_2 ?_
  have M_3 := k_X5_isWithin l D cy  H.size v 0 1 (hv) (⟨by omega, by omega⟩) (⟨by omega, by omega⟩)
  refine kS_i (wr := []) (As := [.int (iI v), .int (iI 0), .int (iI 1)]) (rest := []) ⟨hx, hb, hml, hown, hts⟩ M_3 (va_cwS 3 hts gX5_isImage_X5_isWithin rfl rfl rfl (by decide +kernel) ⟨Nat.le_of_ble_eq_true rfl, Nat.le_of_ble_eq_true rfl⟩) hN hK hP hD hS hA [] [] rfl rfl (by decide) (by decide) (by decide) rfl hl.1 rfl (Nat.le_of_ble_eq_true rfl) dX5_isImage_3 ⟨Nat.le_of_ble_eq_true rfl, Nat.le_of_ble_eq_true rfl⟩ (fun r_3 u_3 H locs hw_3 hP hD hS => ?_)
  replace hP : va_P D vwCl [] H := hP
  replace hD : va_D A [] := hD
  exact hret [] () dX5_isImage_6 hP hD hS (by decide) rfl (by omega) (by omega)
abbrev rm_X5_asksCode : Room := { frames := 1, cells := 0, slots := 0, locals := 22 }
set_option maxHeartbeats 4000000 in
set_option maxRecDepth 100000 in
theorem k_X5_asksCode (l : Launch) (D : va_G) (cy : Nat → ClassId) (z : Nat) (v : Int) (hv : inR v) : CtI l yX5_asksCode wsX5_asksCode rm_X5_asksCode D (tyL cy) [.int (iI v)] [] z (fun (r : Int) (u : Unit) => (r = 1 ∧ 10 ≤ v ∧ v ≤ 19) ∨ (r = 0 ∧ (v < 10 ∨ 19 < v))) (fun (u : Unit) => []) 0 0 := by
  refine ct_z (cc := cX5_asksCode) (maxL := 1) (by decide) rfl (Nat.le_of_ble_eq_true rfl) ?_
  intro p e s m args below meth c A Q H locs ls hx hb hml hown hin hts hK hN hP hD hS hA hl hret
  replace hl : lv_has ls 1 [(0, .int (iI v))] := hl
  replace hown : s.vm.findClass RX5 = some m.cls := hown
  refine lv_iload_n hx hb dX5_asksCode_0 rfl (lv_at hl 0 rfl) ?_
  refine r_bip hx hb (10) dX5_asksCode_1 (by decide) ?_
  refine r_bip hx hb (19) dX5_asksCode_3 (by decide) ?_
  have M_5 := k_X5_isWithin l D cy  H.size v 10 19 (hv) (⟨by omega, by omega⟩) (⟨by omega, by omega⟩)
  refine kS_i (wr := []) (As := [.int (iI v), .int (iI 10), .int (iI 19)]) (rest := []) ⟨hx, hb, hml, hown, hts⟩ M_5 (va_cwS 3 hts gX5_asksCode_X5_isWithin rfl rfl rfl (by decide +kernel) ⟨Nat.le_of_ble_eq_true rfl, Nat.le_of_ble_eq_true rfl⟩) hN hK hP hD hS hA [] [] rfl rfl (by decide) (by decide) (by decide) rfl hl.1 rfl (Nat.le_of_ble_eq_true rfl) dX5_asksCode_5 ⟨Nat.le_of_ble_eq_true rfl, Nat.le_of_ble_eq_true rfl⟩ (fun r_5 u_5 H locs hw_5 hP hD hS => ?_)
  replace hP : va_P D vwCl [] H := hP
  replace hD : va_D A [] := hD
  exact hret [] () dX5_asksCode_8 hP hD hS (by decide) rfl (by omega) (by omega)
abbrev rm_X5_power : Room := { frames := 0, cells := 0, slots := 0, locals := 0 }
set_option maxHeartbeats 4000000 in
set_option maxRecDepth 100000 in
theorem k_X5_power (l : Launch) (D : va_G) (cy : Nat → ClassId) (z : Nat) (b k : Int) (hk : 0 ≤ k ∧ k ≤ 3) : CtI l yX5_power wsX5_power rm_X5_power D (tyL cy) [.int (iI b), .int (iI k)] [] z (fun (r : Int) (u : Unit) => r = pw b k.toNat) (fun (u : Unit) => []) 0 0 := by
  refine ct_i (cc := cX5_power) (maxL := 4) (by decide) rfl (Nat.le_of_ble_eq_true rfl) ?_
  intro p e s m args below meth c A Q H locs ls hx hb hml hown hin hts hK hN hP hD hS hA hl hret
  replace hl : lv_has ls 4 [(0, .int (iI b)), (1, .int (iI k))] := hl
  replace hown : s.vm.findClass RX5 = some m.cls := hown
  refine r_const hx hb dX5_power_0 ?_
  refine lv_istore_n (lv' := [(2, .int (iI 1)), (0, .int (iI b)), (1, .int (iI k))]) hx hb dX5_power_1 rfl hl (by decide) rfl (fun ls hl => ?_)
  refine r_const hx hb dX5_power_2 ?_
  refine lv_istore_n (lv' := [(3, .int (iI 0)), (2, .int (iI 1)), (0, .int (iI b)), (1, .int (iI k))]) hx hb dX5_power_3 rfl hl (by decide) rfl (fun ls hl => ?_)
  have lp_4 : ∀ (fu : Nat) (g : Int) (i : Int), (0 ≤ i ∧ i ≤ k) → (g = pw b i.toNat) → (k - i).toNat < fu → ∀ (H : Heap) (locs : List Loc), va_P D vwCl [] H → va_D A [] → va_S A s.heap H locs → ∀ (ls : Array Slot), lv_has ls 4 [(0, .int (iI b)), (1, .int (iI k)), (2, .int (iI g)), (3, .int (iI i))] → W p l e rm_X5_power s m args below meth c H locs 0 0 Q (F0 m 4 ls []) := by
    intro fu
    induction fu with
    | zero =>
      intro g i h1 h2 hm
      exact absurd hm (Nat.not_lt_zero _)
    | succ fu ih_4 =>
      intro g i h1 h2 hm H locs hP hD hS ls hl
      refine lv_iload_n hx hb dX5_power_4 rfl (lv_at hl 3 rfl) ?_
      refine lv_iload_n hx hb dX5_power_5 rfl (lv_at hl 1 rfl) ?_
      refine r_ge hx hb 19 dX5_power_6 (by decide) ⟨by omega, by omega⟩ ⟨by omega, by omega⟩ (fun c_6 => ?_) (fun c_6 => ?_)
      ·
        refine lv_iload_n hx hb dX5_power_19 rfl (lv_at hl 2 rfl) ?_
        exact hret [] () dX5_power_20 hP hD hS (by decide) rfl (by rw [h2, show i = k by omega])
      ·
        refine lv_iload_n hx hb dX5_power_9 rfl (lv_at hl 2 rfl) ?_
        refine lv_iload_n hx hb dX5_power_10 rfl (lv_at hl 0 rfl) ?_
        refine r_mul hx hb dX5_power_11 ?_
        refine lv_istore_n (lv' := [(2, .int (iI (g * b))), (0, .int (iI b)), (1, .int (iI k)), (3, .int (iI i))]) hx hb dX5_power_12 rfl hl (by decide) rfl (fun ls hl => ?_)
        refine r_inc (k := 3) (lv' := [(3, .int (iI (i + 1))), (2, .int (iI (g * b))), (0, .int (iI b)), (1, .int (iI k))]) hx hb dX5_power_13 hl rfl (by decide) rfl (fun ls hl => ?_)
        refine lv_goto (tgt := 4) hx hb dX5_power_16 (by decide) ?_
        exact ih_4 (g * b) (i + 1) (by omega) (by rw [pw_s h1.1, h2]) (by omega) H locs (pick_P hP (is := []) rfl) (hD.sub [] (by decide) rfl) hS ls (lv_sub hl [2, 3, 1, 0] rfl)
  exact lp_4 _ 1 0 (by omega) (rfl) (Nat.lt_succ_self _) H locs (pick_P hP (is := []) rfl) (hD.sub [] (by decide) rfl) hS ls (lv_sub hl [2, 3, 1, 0] rfl)
abbrev rm_X5_figure : Room := { frames := 0, cells := 0, slots := 0, locals := 0 }
set_option maxHeartbeats 4000000 in
set_option maxRecDepth 100000 in
theorem k_X5_figure (l : Launch) (D : va_G) (cy : Nat → ClassId) (z : Nat) (cc un mm : Int) (h1 : 0 ≤ cc ∧ cc ≤ 2147483647) (h2 : 1 ≤ un ∧ un ≤ 2147483647) (h3 : 1 ≤ mm ∧ mm ≤ 2147483647) : CtI l yX5_figure wsX5_figure rm_X5_figure D (tyL cy) [.int (iI cc), .int (iI un), .int (iI mm)] [] z (fun (r : Int) (u : Unit) => r = cc / un % mm ∧ 0 ≤ r ∧ r < mm) (fun (u : Unit) => []) 0 0 := by
  refine ct_i (cc := cX5_figure) (maxL := 3) (by decide) rfl (Nat.le_of_ble_eq_true rfl) ?_
  intro p e s m args below meth c A Q H locs ls hx hb hml hown hin hts hK hN hP hD hS hA hl hret
  replace hl : lv_has ls 3 [(0, .int (iI cc)), (1, .int (iI un)), (2, .int (iI mm))] := hl
  replace hown : s.vm.findClass RX5 = some m.cls := hown
  refine lv_iload_n hx hb dX5_figure_0 rfl (lv_at hl 1 rfl) ?_
  refine r_const hx hb dX5_figure_1 ?_
  refine r_lt hx hb 10 dX5_figure_2 (by decide) ⟨by omega, by omega⟩ ⟨by omega, by omega⟩ (fun c_2 => ?_) (fun c_2 => ?_)
  ·
    refine r_const hx hb dX5_figure_10 ?_
    exact hret [] () dX5_figure_11 hP hD hS (by decide) rfl (by first | omega | exact ⟨rfl, Int.emod_nonneg _ (by omega), Int.emod_lt_of_pos _ (by omega)⟩)
  ·
    refine lv_iload_n hx hb dX5_figure_5 rfl (lv_at hl 2 rfl) ?_
    refine r_const hx hb dX5_figure_6 ?_
    refine r_ge hx hb 12 dX5_figure_7 (by decide) ⟨by omega, by omega⟩ ⟨by omega, by omega⟩ (fun c_7 => ?_) (fun c_7 => ?_)
    ·
      refine lv_iload_n hx hb dX5_figure_12 rfl (lv_at hl 0 rfl) ?_
      refine lv_iload_n hx hb dX5_figure_13 rfl (lv_at hl 1 rfl) ?_
      refine r_div hx hb dX5_figure_14 ⟨⟨by omega, by omega⟩, by omega, by omega⟩ ?_
      refine lv_iload_n hx hb dX5_figure_15 rfl (lv_at hl 2 rfl) ?_
      have hq1 : 0 ≤ cc / un := Int.ediv_nonneg h1.1 (by omega)
      have hq2 : cc / un ≤ cc := Int.ediv_le_self _ h1.1
      refine r_rem hx hb dX5_figure_16 ⟨⟨by omega, by omega⟩, by omega, by omega⟩ ?_
      exact hret [] () dX5_figure_17 hP hD hS (by decide) rfl (by first | omega | exact ⟨rfl, Int.emod_nonneg _ (by omega), Int.emod_lt_of_pos _ (by omega)⟩)
    ·
      refine r_const hx hb dX5_figure_10 ?_
      exact hret [] () dX5_figure_11 hP hD hS (by decide) rfl (by first | omega | exact ⟨rfl, Int.emod_nonneg _ (by omega), Int.emod_lt_of_pos _ (by omega)⟩)
abbrev rm_J7_fill_53178 : Room := { frames := 0, cells := 0, slots := 0, locals := 0 }
set_option maxHeartbeats 4000000 in
set_option maxRecDepth 100000 in
theorem k_J7_fill_53178 (l : Launch) (D : va_G) (cy : Nat → ClassId) (a : Nat) (z : Nat) (n : Nat) (F : Int → Int) (v : Int) (hn : n ≤ 1000) : CtV l yJ7_fill_53178 wsJ7_fill_53178 rm_J7_fill_53178 D (tyL cy) [.ref (a), .int (iI v)] [ai (cy 0) a n F] z (fun (u : Unit) => True) (fun (u : Unit) => [ai (cy 0) a n (fun _ => v)]) 0 0 := by
  refine ct_v (cc := cJ7_fill_53178) (maxL := 4) (by decide) rfl (Nat.le_of_ble_eq_true rfl) ?_
  intro p e s m args below meth c A Q H locs ls hx hb hml hown hin hts hK hN hP hD hS hA hl hret
  replace hl : lv_has ls 4 [(0, .ref (a)), (1, .int (iI v))] := hl
  replace hown : s.vm.findClass RJ7 = some m.cls := hown
  refine r_const hx hb dJ7_fill_53178_0 ?_
  refine lv_istore_n (lv' := [(2, .int (iI 0)), (0, .ref (a)), (1, .int (iI v))]) hx hb dJ7_fill_53178_1 rfl hl (by decide) rfl (fun ls hl => ?_)
  refine lv_aload_n hx hb dJ7_fill_53178_2 rfl (lv_at hl 1 rfl) ?_
  refine r_len hx hb hK hP 0 0 rfl rfl dJ7_fill_53178_3 ?_
  refine lv_istore_n (lv' := [(3, .int (iI (n : Int))), (2, .int (iI 0)), (0, .ref (a)), (1, .int (iI v))]) hx hb dJ7_fill_53178_4 rfl hl (by decide) rfl (fun ls hl => ?_)
  have lp_5 : ∀ (fu : Nat) (i : Int) (B : Int → Int), (0 ≤ i ∧ i ≤ n) → (∀ j, 0 ≤ j → j < i → B j = v) → (n - i).toNat < fu → ∀ (H : Heap) (locs : List Loc), va_P D vwCl [ai (cy 0) a n B] H → va_D A [ai (cy 0) a n B] → va_S A s.heap H locs → ∀ (ls : Array Slot), lv_has ls 4 [(0, .ref (a)), (1, .int (iI v)), (2, .int (iI i)), (3, .int (iI (n : Int)))] → W p l e rm_J7_fill_53178 s m args below meth c H locs 0 0 Q (F0 m 5 ls []) := by
    intro fu
    induction fu with
    | zero =>
      intro i B h1 h2 hm
      exact absurd hm (Nat.not_lt_zero _)
    | succ fu ih_5 =>
      intro i B h1 h2 hm H locs hP hD hS ls hl
      refine lv_iload_n hx hb dJ7_fill_53178_5 rfl (lv_at hl 2 rfl) ?_
      refine lv_iload_n hx hb dJ7_fill_53178_6 rfl (lv_at hl 3 rfl) ?_
      refine r_ge hx hb 20 dJ7_fill_53178_7 (by decide) ⟨by omega, by omega⟩ ⟨by omega, by omega⟩ (fun c_7 => ?_) (fun c_7 => ?_)
      ·
        replace hP := reF (q := 0) (fun _ => v) hP rfl (fun j q1 q2 => h2 j q1 (by omega))
        replace hD := reD (q := 0) (fun _ => v) hD rfl
        exact hret [0] () dJ7_fill_53178_20 hP hD hS (by decide) rfl (by trivial)
      ·
        refine lv_aload_n hx hb dJ7_fill_53178_10 rfl (lv_at hl 0 rfl) ?_
        refine lv_iload_n hx hb dJ7_fill_53178_11 rfl (lv_at hl 2 rfl) ?_
        refine lv_iload_n hx hb dJ7_fill_53178_12 rfl (lv_at hl 1 rfl) ?_
        refine r_ast hx hb hK hP hD hS 0 rfl rfl ⟨by omega, by omega, by omega⟩ dJ7_fill_53178_13 (fun H locs hP hD hS => ?_)
        replace hP : va_P D vwCl [ai (cy 0) a n (ud B i v)] H := hP
        replace hD : va_D A [ai (cy 0) a n (ud B i v)] := hD
        refine r_inc (k := 2) (lv' := [(2, .int (iI (i + 1))), (0, .ref (a)), (1, .int (iI v)), (3, .int (iI (n : Int)))]) hx hb dJ7_fill_53178_14 hl rfl (by decide) rfl (fun ls hl => ?_)
        refine lv_goto (tgt := 5) hx hb dJ7_fill_53178_17 (by decide) ?_
        exact ih_5 (i + 1) (ud B i v) (by omega) (fun j q1 q2 => by by_cases e : j = i; (subst e; exact ud_at _ _ _); (rw [ud_ne e]; exact h2 j q1 (by omega))) (by omega) H locs (pick_P hP (is := [0]) rfl) (hD.sub [0] (by decide) rfl) hS ls (lv_sub hl [1, 2, 0, 3] rfl)
  exact lp_5 _ 0 F (by omega) (fun j _ _ => by omega) (Nat.lt_succ_self _) H locs (pick_P hP (is := [0]) rfl) (hD.sub [0] (by decide) rfl) hS ls (lv_sub hl [2, 3, 1, 0] rfl)
abbrev rm_X1_addFirst : Room := { frames := 0, cells := 0, slots := 0, locals := 0 }
set_option maxHeartbeats 4000000 in
set_option maxRecDepth 100000 in
theorem k_X1_addFirst (l : Launch) (D : va_G) (cy : Nat → ClassId) (a : Nat) (z : Nat) (n : Nat) (F : Int → Int) (k : Int) (hn : 0 ≤ k ∧ k ≤ n ∧ n ≤ 1000) (hF : ∀ j, 0 ≤ F j ∧ F j ≤ 1000) : CtI l yX1_addFirst wsX1_addFirst rm_X1_addFirst D (tyL cy) [.ref (a), .int (iI k)] [ai (cy 0) a n F] z (fun (r : Int) (u : Unit) => r = sumTo F k.toNat) (fun (u : Unit) => [ai (cy 0) a n F]) 0 0 := by
  refine ct_i (cc := cX1_addFirst) (maxL := 4) (by decide) rfl (Nat.le_of_ble_eq_true rfl) ?_
  intro p e s m args below meth c A Q H locs ls hx hb hml hown hin hts hK hN hP hD hS hA hl hret
  replace hl : lv_has ls 4 [(0, .ref (a)), (1, .int (iI k))] := hl
  replace hown : s.vm.findClass RX1 = some m.cls := hown
  refine r_const hx hb dX1_addFirst_0 ?_
  refine lv_istore_n (lv' := [(2, .int (iI 0)), (0, .ref (a)), (1, .int (iI k))]) hx hb dX1_addFirst_1 rfl hl (by decide) rfl (fun ls hl => ?_)
  refine r_const hx hb dX1_addFirst_2 ?_
  refine lv_istore_n (lv' := [(3, .int (iI 0)), (2, .int (iI 0)), (0, .ref (a)), (1, .int (iI k))]) hx hb dX1_addFirst_3 rfl hl (by decide) rfl (fun ls hl => ?_)
  have lp_4 : ∀ (fu : Nat) (g : Int) (i : Int), (0 ≤ i ∧ i ≤ k) → (g = sumTo F i.toNat) → (k - i).toNat < fu → ∀ (H : Heap) (locs : List Loc), va_P D vwCl [ai (cy 0) a n F] H → va_D A [ai (cy 0) a n F] → va_S A s.heap H locs → ∀ (ls : Array Slot), lv_has ls 4 [(0, .ref (a)), (1, .int (iI k)), (2, .int (iI g)), (3, .int (iI i))] → W p l e rm_X1_addFirst s m args below meth c H locs 0 0 Q (F0 m 4 ls []) := by
    intro fu
    induction fu with
    | zero =>
      intro g i h1 h2 hm
      exact absurd hm (Nat.not_lt_zero _)
    | succ fu ih_4 =>
      intro g i h1 h2 hm H locs hP hD hS ls hl
      refine lv_iload_n hx hb dX1_addFirst_4 rfl (lv_at hl 3 rfl) ?_
      refine lv_iload_n hx hb dX1_addFirst_5 rfl (lv_at hl 1 rfl) ?_
      refine r_ge hx hb 21 dX1_addFirst_6 (by decide) ⟨by omega, by omega⟩ ⟨by omega, by omega⟩ (fun c_6 => ?_) (fun c_6 => ?_)
      ·
        refine lv_iload_n hx hb dX1_addFirst_21 rfl (lv_at hl 2 rfl) ?_
        exact hret [0] () dX1_addFirst_22 hP hD hS (by decide) rfl (by rw [h2, show i = k by omega])
      ·
        refine lv_iload_n hx hb dX1_addFirst_9 rfl (lv_at hl 2 rfl) ?_
        refine lv_aload_n hx hb dX1_addFirst_10 rfl (lv_at hl 0 rfl) ?_
        refine lv_iload_n hx hb dX1_addFirst_11 rfl (lv_at hl 3 rfl) ?_
        refine r_ald hx hb hK hP 0 rfl rfl ⟨by omega, by omega, by omega⟩ dX1_addFirst_12 ?_
        have b_12 := hF i
        refine r_add hx hb dX1_addFirst_13 ?_
        refine lv_istore_n (lv' := [(2, .int (iI (g + (F i)))), (0, .ref (a)), (1, .int (iI k)), (3, .int (iI i))]) hx hb dX1_addFirst_14 rfl hl (by decide) rfl (fun ls hl => ?_)
        refine r_inc (k := 3) (lv' := [(3, .int (iI (i + 1))), (2, .int (iI (g + (F i)))), (0, .ref (a)), (1, .int (iI k))]) hx hb dX1_addFirst_15 hl rfl (by decide) rfl (fun ls hl => ?_)
        refine lv_goto (tgt := 4) hx hb dX1_addFirst_18 (by decide) ?_
        exact ih_4 (g + (F i)) (i + 1) (by omega) (by rw [sumTo_s h1.1, h2]) (by omega) H locs (pick_P hP (is := [0]) rfl) (hD.sub [0] (by decide) rfl) hS ls (lv_sub hl [2, 3, 1, 0] rfl)
  exact lp_4 _ 0 0 (by omega) (rfl) (Nat.lt_succ_self _) H locs (pick_P hP (is := [0]) rfl) (hD.sub [0] (by decide) rfl) hS ls (lv_sub hl [2, 3, 1, 0] rfl)
abbrev rm_X1_countMisread : Room := { frames := 1, cells := 0, slots := 0, locals := 23 }
theorem fl_X1_countMisread_18 : Cond.fieldLink RX1 18 "WalkPasses$Desk" "misreads" "[I" ∈ wsX1_countMisread := by decide +kernel
theorem fl_X1_countMisread_43 : Cond.fieldLink RX1 43 "WalkPasses$Desk" "letters" "I" ∈ wsX1_countMisread := by decide +kernel
theorem iw_X1_countMisread_1 : ∀ w ∈ u_ws RX1 TX1 10, w ∈ wsX1_countMisread := by decide +kernel
set_option maxHeartbeats 4000000 in
set_option maxRecDepth 100000 in
theorem k_X1_countMisread (l : Launch) (D : va_G) (cy : Nat → ClassId) (d : Nat → Nat) (z : Nat) (lt mn vs : Int) (pt tk mr od pl rm cd : Int → Int) (hI : DI lt mn pt tk mr od pl rm cd) : CtI l yX1_countMisread wsX1_countMisread rm_X1_countMisread D (tyL cy) [.ref (d 0)] [oD d lt mn vs, ai (cy 0) (d 1) 24 pt, ai (cy 0) (d 2) 24 tk, ai (cy 0) (d 3) 24 mr, ai (cy 0) (d 4) 10 od, ai (cy 0) (d 5) 10 pl, ai (cy 0) (d 6) 4 rm, ai (cy 0) (d 7) 10 cd] z (fun (r : Int) (u : Unit) => r = sumTo mr lt.toNat) (fun (u : Unit) => [oD d lt mn vs, ai (cy 0) (d 1) 24 pt, ai (cy 0) (d 2) 24 tk, ai (cy 0) (d 3) 24 mr, ai (cy 0) (d 4) 10 od, ai (cy 0) (d 5) 10 pl, ai (cy 0) (d 6) 4 rm, ai (cy 0) (d 7) 10 cd]) 0 0 := by
  refine ct_i (cc := cX1_countMisread) (maxL := 1) (by decide) rfl (Nat.le_of_ble_eq_true rfl) ?_
  intro p e s m args below meth c A Q H locs ls hx hb hml hown hin hts hK hN hP hD hS hA hl hret
  replace hl : lv_has ls 1 [(0, .ref (d 0))] := hl
  replace hown : s.vm.findClass RX1 = some m.cls := hown
  obtain ⟨⟨⟨hlt0, hlt1⟩, hmn0, hmn1⟩, ⟨hpt, htk, hmr⟩, ⟨hod, hpl, hpo, hop⟩, hrm, hcd⟩ := id hI
  refine lv_aload_n hx hb dX1_countMisread_0 rfl (lv_at hl 0 rfl) ?_
  refine va_get (D := D) (C := RX1) (T := TX1) (N := 10) (ci := 1) (v := .ref (d 3)) hx hb hts iw_X1_countMisread_1 hown hK hP 0 rfl rfl 3 (by decide) (hts _ fl_X1_countMisread_18) (fun _ h9 => h9) rfl dX1_countMisread_1 ?_
  refine lv_aload_n hx hb dX1_countMisread_4 rfl (lv_at hl 0 rfl) ?_
  refine va_get (D := D) (C := RX1) (T := TX1) (N := 10) (ci := 1) (v := .int (iI lt)) hx hb hts iw_X1_countMisread_1 hown hK hP 0 rfl rfl 0 (by decide) (hts _ fl_X1_countMisread_43) (fun _ h9 => h9) rfl dX1_countMisread_5 ?_
  have M_8 := k_X1_addFirst l D cy (d 3) H.size 24 mr lt (by omega) (fun j => by have := hmr j; omega)
  refine kS_i (wr := [oD d lt mn vs, ai (cy 0) (d 1) 24 pt, ai (cy 0) (d 2) 24 tk, ai (cy 0) (d 4) 10 od, ai (cy 0) (d 5) 10 pl, ai (cy 0) (d 6) 4 rm, ai (cy 0) (d 7) 10 cd]) (As := [.ref (d 3), .int (iI lt)]) (rest := []) ⟨hx, hb, hml, hown, hts⟩ M_8 (va_cwS 2 hts gX1_countMisread_X1_addFirst rfl rfl rfl (by decide +kernel) ⟨Nat.le_of_ble_eq_true rfl, Nat.le_of_ble_eq_true rfl⟩) hN hK hP hD hS hA [3] [0, 1, 2, 4, 5, 6, 7] rfl rfl (by decide) (by decide) (by decide) rfl hl.1 rfl (Nat.le_of_ble_eq_true rfl) dX1_countMisread_8 ⟨Nat.le_of_ble_eq_true rfl, Nat.le_of_ble_eq_true rfl⟩ (fun r_8 u_8 H locs hw_8 hP hD hS => ?_)
  replace hP : va_P D vwCl [oD d lt mn vs, ai (cy 0) (d 1) 24 pt, ai (cy 0) (d 2) 24 tk, ai (cy 0) (d 4) 10 od, ai (cy 0) (d 5) 10 pl, ai (cy 0) (d 6) 4 rm, ai (cy 0) (d 7) 10 cd, ai (cy 0) (d 3) 24 mr] H := hP
  replace hD : va_D A [oD d lt mn vs, ai (cy 0) (d 1) 24 pt, ai (cy 0) (d 2) 24 tk, ai (cy 0) (d 4) 10 od, ai (cy 0) (d 5) 10 pl, ai (cy 0) (d 6) 4 rm, ai (cy 0) (d 7) 10 cd, ai (cy 0) (d 3) 24 mr] := hD
  exact hret [0, 1, 2, 7, 3, 4, 5, 6] () dX1_countMisread_11 hP hD hS (by decide) rfl (hw_8)
abbrev rm_X1_addThicks : Room := { frames := 1, cells := 0, slots := 0, locals := 23 }
theorem fl_X1_addThicks_15 : Cond.fieldLink RX1 15 "WalkPasses$Desk" "thicks" "[I" ∈ wsX1_addThicks := by decide +kernel
theorem fl_X1_addThicks_43 : Cond.fieldLink RX1 43 "WalkPasses$Desk" "letters" "I" ∈ wsX1_addThicks := by decide +kernel
theorem iw_X1_addThicks_1 : ∀ w ∈ u_ws RX1 TX1 10, w ∈ wsX1_addThicks := by decide +kernel
set_option maxHeartbeats 4000000 in
set_option maxRecDepth 100000 in
theorem k_X1_addThicks (l : Launch) (D : va_G) (cy : Nat → ClassId) (d : Nat → Nat) (z : Nat) (lt mn vs : Int) (pt tk mr od pl rm cd : Int → Int) (hI : DI lt mn pt tk mr od pl rm cd) : CtI l yX1_addThicks wsX1_addThicks rm_X1_addThicks D (tyL cy) [.ref (d 0)] [oD d lt mn vs, ai (cy 0) (d 1) 24 pt, ai (cy 0) (d 2) 24 tk, ai (cy 0) (d 3) 24 mr, ai (cy 0) (d 4) 10 od, ai (cy 0) (d 5) 10 pl, ai (cy 0) (d 6) 4 rm, ai (cy 0) (d 7) 10 cd] z (fun (r : Int) (u : Unit) => r = sumTo tk lt.toNat) (fun (u : Unit) => [oD d lt mn vs, ai (cy 0) (d 1) 24 pt, ai (cy 0) (d 2) 24 tk, ai (cy 0) (d 3) 24 mr, ai (cy 0) (d 4) 10 od, ai (cy 0) (d 5) 10 pl, ai (cy 0) (d 6) 4 rm, ai (cy 0) (d 7) 10 cd]) 0 0 := by
  refine ct_i (cc := cX1_addThicks) (maxL := 1) (by decide) rfl (Nat.le_of_ble_eq_true rfl) ?_
  intro p e s m args below meth c A Q H locs ls hx hb hml hown hin hts hK hN hP hD hS hA hl hret
  replace hl : lv_has ls 1 [(0, .ref (d 0))] := hl
  replace hown : s.vm.findClass RX1 = some m.cls := hown
  obtain ⟨⟨⟨hlt0, hlt1⟩, hmn0, hmn1⟩, ⟨hpt, htk, hmr⟩, ⟨hod, hpl, hpo, hop⟩, hrm, hcd⟩ := id hI
  refine lv_aload_n hx hb dX1_addThicks_0 rfl (lv_at hl 0 rfl) ?_
  refine va_get (D := D) (C := RX1) (T := TX1) (N := 10) (ci := 1) (v := .ref (d 2)) hx hb hts iw_X1_addThicks_1 hown hK hP 0 rfl rfl 2 (by decide) (hts _ fl_X1_addThicks_15) (fun _ h9 => h9) rfl dX1_addThicks_1 ?_
  refine lv_aload_n hx hb dX1_addThicks_4 rfl (lv_at hl 0 rfl) ?_
  refine va_get (D := D) (C := RX1) (T := TX1) (N := 10) (ci := 1) (v := .int (iI lt)) hx hb hts iw_X1_addThicks_1 hown hK hP 0 rfl rfl 0 (by decide) (hts _ fl_X1_addThicks_43) (fun _ h9 => h9) rfl dX1_addThicks_5 ?_
  have M_8 := k_X1_addFirst l D cy (d 2) H.size 24 tk lt (by omega) (fun j => by have := htk j; omega)
  refine kS_i (wr := [oD d lt mn vs, ai (cy 0) (d 1) 24 pt, ai (cy 0) (d 3) 24 mr, ai (cy 0) (d 4) 10 od, ai (cy 0) (d 5) 10 pl, ai (cy 0) (d 6) 4 rm, ai (cy 0) (d 7) 10 cd]) (As := [.ref (d 2), .int (iI lt)]) (rest := []) ⟨hx, hb, hml, hown, hts⟩ M_8 (va_cwS 2 hts gX1_addThicks_X1_addFirst rfl rfl rfl (by decide +kernel) ⟨Nat.le_of_ble_eq_true rfl, Nat.le_of_ble_eq_true rfl⟩) hN hK hP hD hS hA [2] [0, 1, 3, 4, 5, 6, 7] rfl rfl (by decide) (by decide) (by decide) rfl hl.1 rfl (Nat.le_of_ble_eq_true rfl) dX1_addThicks_8 ⟨Nat.le_of_ble_eq_true rfl, Nat.le_of_ble_eq_true rfl⟩ (fun r_8 u_8 H locs hw_8 hP hD hS => ?_)
  replace hP : va_P D vwCl [oD d lt mn vs, ai (cy 0) (d 1) 24 pt, ai (cy 0) (d 3) 24 mr, ai (cy 0) (d 4) 10 od, ai (cy 0) (d 5) 10 pl, ai (cy 0) (d 6) 4 rm, ai (cy 0) (d 7) 10 cd, ai (cy 0) (d 2) 24 tk] H := hP
  replace hD : va_D A [oD d lt mn vs, ai (cy 0) (d 1) 24 pt, ai (cy 0) (d 3) 24 mr, ai (cy 0) (d 4) 10 od, ai (cy 0) (d 5) 10 pl, ai (cy 0) (d 6) 4 rm, ai (cy 0) (d 7) 10 cd, ai (cy 0) (d 2) 24 tk] := hD
  exact hret [0, 1, 7, 2, 3, 4, 5, 6] () dX1_addThicks_11 hP hD hS (by decide) rfl (hw_8)
abbrev rm_X1_addRooms : Room := { frames := 1, cells := 0, slots := 0, locals := 23 }
theorem fl_X1_addRooms_27 : Cond.fieldLink RX1 27 "WalkPasses$Desk" "many" "I" ∈ wsX1_addRooms := by decide +kernel
theorem fl_X1_addRooms_31 : Cond.fieldLink RX1 31 "WalkPasses$Desk" "rooms" "[I" ∈ wsX1_addRooms := by decide +kernel
theorem iw_X1_addRooms_1 : ∀ w ∈ u_ws RX1 TX1 10, w ∈ wsX1_addRooms := by decide +kernel
set_option maxHeartbeats 4000000 in
set_option maxRecDepth 100000 in
theorem k_X1_addRooms (l : Launch) (D : va_G) (cy : Nat → ClassId) (d : Nat → Nat) (z : Nat) (lt mn vs : Int) (pt tk mr od pl rm cd : Int → Int) (hI : DI lt mn pt tk mr od pl rm cd) : CtI l yX1_addRooms wsX1_addRooms rm_X1_addRooms D (tyL cy) [.ref (d 0)] [oD d lt mn vs, ai (cy 0) (d 1) 24 pt, ai (cy 0) (d 2) 24 tk, ai (cy 0) (d 3) 24 mr, ai (cy 0) (d 4) 10 od, ai (cy 0) (d 5) 10 pl, ai (cy 0) (d 6) 4 rm, ai (cy 0) (d 7) 10 cd] z (fun (r : Int) (u : Unit) => r = sumTo rm mn.toNat) (fun (u : Unit) => [oD d lt mn vs, ai (cy 0) (d 1) 24 pt, ai (cy 0) (d 2) 24 tk, ai (cy 0) (d 3) 24 mr, ai (cy 0) (d 4) 10 od, ai (cy 0) (d 5) 10 pl, ai (cy 0) (d 6) 4 rm, ai (cy 0) (d 7) 10 cd]) 0 0 := by
  refine ct_i (cc := cX1_addRooms) (maxL := 1) (by decide) rfl (Nat.le_of_ble_eq_true rfl) ?_
  intro p e s m args below meth c A Q H locs ls hx hb hml hown hin hts hK hN hP hD hS hA hl hret
  replace hl : lv_has ls 1 [(0, .ref (d 0))] := hl
  replace hown : s.vm.findClass RX1 = some m.cls := hown
  obtain ⟨⟨⟨hlt0, hlt1⟩, hmn0, hmn1⟩, ⟨hpt, htk, hmr⟩, ⟨hod, hpl, hpo, hop⟩, hrm, hcd⟩ := id hI
  refine lv_aload_n hx hb dX1_addRooms_0 rfl (lv_at hl 0 rfl) ?_
  refine va_get (D := D) (C := RX1) (T := TX1) (N := 10) (ci := 1) (v := .ref (d 6)) hx hb hts iw_X1_addRooms_1 hown hK hP 0 rfl rfl 7 (by decide) (hts _ fl_X1_addRooms_31) (fun _ h9 => h9) rfl dX1_addRooms_1 ?_
  refine lv_aload_n hx hb dX1_addRooms_4 rfl (lv_at hl 0 rfl) ?_
  refine va_get (D := D) (C := RX1) (T := TX1) (N := 10) (ci := 1) (v := .int (iI mn)) hx hb hts iw_X1_addRooms_1 hown hK hP 0 rfl rfl 6 (by decide) (hts _ fl_X1_addRooms_27) (fun _ h9 => h9) rfl dX1_addRooms_5 ?_
  have M_8 := k_X1_addFirst l D cy (d 6) H.size 4 rm mn (by omega) (fun j => by have := hrm j; omega)
  refine kS_i (wr := [oD d lt mn vs, ai (cy 0) (d 1) 24 pt, ai (cy 0) (d 2) 24 tk, ai (cy 0) (d 3) 24 mr, ai (cy 0) (d 4) 10 od, ai (cy 0) (d 5) 10 pl, ai (cy 0) (d 7) 10 cd]) (As := [.ref (d 6), .int (iI mn)]) (rest := []) ⟨hx, hb, hml, hown, hts⟩ M_8 (va_cwS 2 hts gX1_addRooms_X1_addFirst rfl rfl rfl (by decide +kernel) ⟨Nat.le_of_ble_eq_true rfl, Nat.le_of_ble_eq_true rfl⟩) hN hK hP hD hS hA [6] [0, 1, 2, 3, 4, 5, 7] rfl rfl (by decide) (by decide) (by decide) rfl hl.1 rfl (Nat.le_of_ble_eq_true rfl) dX1_addRooms_8 ⟨Nat.le_of_ble_eq_true rfl, Nat.le_of_ble_eq_true rfl⟩ (fun r_8 u_8 H locs hw_8 hP hD hS => ?_)
  replace hP : va_P D vwCl [oD d lt mn vs, ai (cy 0) (d 1) 24 pt, ai (cy 0) (d 2) 24 tk, ai (cy 0) (d 3) 24 mr, ai (cy 0) (d 4) 10 od, ai (cy 0) (d 5) 10 pl, ai (cy 0) (d 7) 10 cd, ai (cy 0) (d 6) 4 rm] H := hP
  replace hD : va_D A [oD d lt mn vs, ai (cy 0) (d 1) 24 pt, ai (cy 0) (d 2) 24 tk, ai (cy 0) (d 3) 24 mr, ai (cy 0) (d 4) 10 od, ai (cy 0) (d 5) 10 pl, ai (cy 0) (d 7) 10 cd, ai (cy 0) (d 6) 4 rm] := hD
  exact hret [0, 1, 2, 3, 4, 5, 7, 6] () dX1_addRooms_11 hP hD hS (by decide) rfl (hw_8)
abbrev rm_X1_hasLetterAt : Room := { frames := 0, cells := 0, slots := 0, locals := 0 }
theorem fl_X1_hasLetterAt_9 : Cond.fieldLink RX1 9 "WalkPasses$Desk" "points" "[I" ∈ wsX1_hasLetterAt := by decide +kernel
theorem fl_X1_hasLetterAt_43 : Cond.fieldLink RX1 43 "WalkPasses$Desk" "letters" "I" ∈ wsX1_hasLetterAt := by decide +kernel
theorem iw_X1_hasLetterAt_1 : ∀ w ∈ u_ws RX1 TX1 10, w ∈ wsX1_hasLetterAt := by decide +kernel
set_option maxHeartbeats 4000000 in
set_option maxRecDepth 100000 in
theorem k_X1_hasLetterAt (l : Launch) (D : va_G) (cy : Nat → ClassId) (d : Nat → Nat) (z : Nat) (lt mn vs : Int) (pt tk mr od pl rm cd : Int → Int) (q : Int) (hL : (0 ≤ lt ∧ lt ≤ 24) ∧ ∀ j, 0 ≤ pt j ∧ pt j ≤ 9) (hq : inR q) : CtI l yX1_hasLetterAt wsX1_hasLetterAt rm_X1_hasLetterAt D (tyL cy) [.ref (d 0), .int (iI q)] [oD d lt mn vs, ai (cy 0) (d 1) 24 pt, ai (cy 0) (d 2) 24 tk, ai (cy 0) (d 3) 24 mr, ai (cy 0) (d 4) 10 od, ai (cy 0) (d 5) 10 pl, ai (cy 0) (d 6) 4 rm, ai (cy 0) (d 7) 10 cd] z (fun (r : Int) (u : Unit) => r = hasI pt lt q) (fun (u : Unit) => [oD d lt mn vs, ai (cy 0) (d 1) 24 pt, ai (cy 0) (d 2) 24 tk, ai (cy 0) (d 3) 24 mr, ai (cy 0) (d 4) 10 od, ai (cy 0) (d 5) 10 pl, ai (cy 0) (d 6) 4 rm, ai (cy 0) (d 7) 10 cd]) 0 0 := by
  refine ct_z (cc := cX1_hasLetterAt) (maxL := 3) (by decide) rfl (Nat.le_of_ble_eq_true rfl) ?_
  intro p e s m args below meth c A Q H locs ls hx hb hml hown hin hts hK hN hP hD hS hA hl hret
  replace hl : lv_has ls 3 [(0, .ref (d 0)), (1, .int (iI q))] := hl
  replace hown : s.vm.findClass RX1 = some m.cls := hown
  obtain ⟨⟨hlt0, hlt1⟩, hpt⟩ := id hL
  refine r_const hx hb dX1_hasLetterAt_0 ?_
  refine lv_istore_n (lv' := [(2, .int (iI 0)), (0, .ref (d 0)), (1, .int (iI q))]) hx hb dX1_hasLetterAt_1 rfl hl (by decide) rfl (fun ls hl => ?_)
  have lp_2 : ∀ (fu : Nat) (i : Int), (0 ≤ i ∧ i ≤ lt) → (hasB pt q i.toNat = false) → (lt - i).toNat < fu → ∀ (H : Heap) (locs : List Loc), va_P D vwCl [oD d lt mn vs, ai (cy 0) (d 1) 24 pt, ai (cy 0) (d 2) 24 tk, ai (cy 0) (d 3) 24 mr, ai (cy 0) (d 4) 10 od, ai (cy 0) (d 5) 10 pl, ai (cy 0) (d 6) 4 rm, ai (cy 0) (d 7) 10 cd] H → va_D A [oD d lt mn vs, ai (cy 0) (d 1) 24 pt, ai (cy 0) (d 2) 24 tk, ai (cy 0) (d 3) 24 mr, ai (cy 0) (d 4) 10 od, ai (cy 0) (d 5) 10 pl, ai (cy 0) (d 6) 4 rm, ai (cy 0) (d 7) 10 cd] → va_S A s.heap H locs → ∀ (ls : Array Slot), lv_has ls 3 [(0, .ref (d 0)), (1, .int (iI q)), (2, .int (iI i))] → W p l e rm_X1_hasLetterAt s m args below meth c H locs 0 0 Q (F0 m 2 ls []) := by
    intro fu
    induction fu with
    | zero =>
      intro i h1 h2 hm
      exact absurd hm (Nat.not_lt_zero _)
    | succ fu ih_2 =>
      intro i h1 h2 hm H locs hP hD hS ls hl
      refine lv_iload_n hx hb dX1_hasLetterAt_2 rfl (lv_at hl 2 rfl) ?_
      refine lv_aload_n hx hb dX1_hasLetterAt_3 rfl (lv_at hl 0 rfl) ?_
      refine va_get (D := D) (C := RX1) (T := TX1) (N := 10) (ci := 1) (v := .int (iI lt)) hx hb hts iw_X1_hasLetterAt_1 hown hK hP 0 rfl rfl 0 (by decide) (hts _ fl_X1_hasLetterAt_43) (fun _ h9 => h9) rfl dX1_hasLetterAt_4 ?_
      refine r_ge hx hb 28 dX1_hasLetterAt_7 (by decide) ⟨by omega, by omega⟩ ⟨by omega, by omega⟩ (fun c_7 => ?_) (fun c_7 => ?_)
      ·
        refine r_const hx hb dX1_hasLetterAt_28 ?_
        exact hret [0, 1, 2, 3, 4, 5, 6, 7] () dX1_hasLetterAt_29 hP hD hS (by decide) rfl (by omega) (by unfold hasI; rw [show lt = i by omega, h2]; rfl)
      ·
        refine lv_aload_n hx hb dX1_hasLetterAt_10 rfl (lv_at hl 0 rfl) ?_
        refine va_get (D := D) (C := RX1) (T := TX1) (N := 10) (ci := 1) (v := .ref (d 1)) hx hb hts iw_X1_hasLetterAt_1 hown hK hP 0 rfl rfl 1 (by decide) (hts _ fl_X1_hasLetterAt_9) (fun _ h9 => h9) rfl dX1_hasLetterAt_11 ?_
        refine lv_iload_n hx hb dX1_hasLetterAt_14 rfl (lv_at hl 2 rfl) ?_
        refine r_ald hx hb hK hP 1 rfl rfl ⟨by omega, by omega, by omega⟩ dX1_hasLetterAt_15 ?_
        have b_15 := hpt i
        refine lv_iload_n hx hb dX1_hasLetterAt_16 rfl (lv_at hl 1 rfl) ?_
        refine r_ne hx hb 22 dX1_hasLetterAt_17 (by decide) ⟨by omega, by omega⟩ ⟨by omega, by omega⟩ (fun c_17 => ?_) (fun c_17 => ?_)
        ·
          refine r_inc (k := 2) (lv' := [(2, .int (iI (i + 1))), (0, .ref (d 0)), (1, .int (iI q))]) hx hb dX1_hasLetterAt_22 hl rfl (by decide) rfl (fun ls hl => ?_)
          refine lv_goto (tgt := 2) hx hb dX1_hasLetterAt_25 (by decide) ?_
          exact ih_2 (i + 1) (by omega) (by rw [hasB_s h1.1, h2]; simp [c_17]) (by omega) H locs (pick_P hP (is := [0, 1, 2, 3, 4, 5, 6, 7]) rfl) (hD.sub [0, 1, 2, 3, 4, 5, 6, 7] (by decide) rfl) hS ls (lv_sub hl [1, 2, 0] rfl)
        ·
          refine r_const hx hb dX1_hasLetterAt_20 ?_
          exact hret [0, 1, 2, 3, 4, 5, 6, 7] () dX1_hasLetterAt_21 hP hD hS (by decide) rfl (by omega) (by unfold hasI; rw [if_pos (hasB_iff.mpr ⟨i, h1.1, by omega, c_17⟩)])
  exact lp_2 _ 0 (by omega) (rfl) (Nat.lt_succ_self _) H locs (pick_P hP (is := [0, 1, 2, 3, 4, 5, 6, 7]) rfl) (hD.sub [0, 1, 2, 3, 4, 5, 6, 7] (by decide) rfl) hS ls (lv_sub hl [1, 2, 0] rfl)
abbrev rm_X1_countPoints : Room := { frames := 1, cells := 0, slots := 0, locals := 22 }
set_option maxHeartbeats 4000000 in
set_option maxRecDepth 100000 in
theorem k_X1_countPoints (l : Launch) (D : va_G) (cy : Nat → ClassId) (d : Nat → Nat) (z : Nat) (lt mn vs : Int) (pt tk mr od pl rm cd : Int → Int) (hL : (0 ≤ lt ∧ lt ≤ 24) ∧ ∀ j, 0 ≤ pt j ∧ pt j ≤ 9) : CtI l yX1_countPoints wsX1_countPoints rm_X1_countPoints D (tyL cy) [.ref (d 0)] [oD d lt mn vs, ai (cy 0) (d 1) 24 pt, ai (cy 0) (d 2) 24 tk, ai (cy 0) (d 3) 24 mr, ai (cy 0) (d 4) 10 od, ai (cy 0) (d 5) 10 pl, ai (cy 0) (d 6) 4 rm, ai (cy 0) (d 7) 10 cd] z (fun (r : Int) (u : Unit) => r = sumTo (hasI pt lt) 10) (fun (u : Unit) => [oD d lt mn vs, ai (cy 0) (d 1) 24 pt, ai (cy 0) (d 2) 24 tk, ai (cy 0) (d 3) 24 mr, ai (cy 0) (d 4) 10 od, ai (cy 0) (d 5) 10 pl, ai (cy 0) (d 6) 4 rm, ai (cy 0) (d 7) 10 cd]) 0 0 := by
  refine ct_i (cc := cX1_countPoints) (maxL := 3) (by decide) rfl (Nat.le_of_ble_eq_true rfl) ?_
  intro p e s m args below meth c A Q H locs ls hx hb hml hown hin hts hK hN hP hD hS hA hl hret
  replace hl : lv_has ls 3 [(0, .ref (d 0))] := hl
  replace hown : s.vm.findClass RX1 = some m.cls := hown
  obtain ⟨⟨hlt0, hlt1⟩, hpt⟩ := id hL
  refine r_const hx hb dX1_countPoints_0 ?_
  refine lv_istore_n (lv' := [(1, .int (iI 0)), (0, .ref (d 0))]) hx hb dX1_countPoints_1 rfl hl (by decide) rfl (fun ls hl => ?_)
  refine r_const hx hb dX1_countPoints_2 ?_
  refine lv_istore_n (lv' := [(2, .int (iI 0)), (1, .int (iI 0)), (0, .ref (d 0))]) hx hb dX1_countPoints_3 rfl hl (by decide) rfl (fun ls hl => ?_)
  have lp_4 : ∀ (fu : Nat) (g : Int) (i : Int), (0 ≤ i ∧ i ≤ 10) → (g = sumTo (hasI pt lt) i.toNat) → (10 - i).toNat < fu → ∀ (H : Heap) (locs : List Loc), va_P D vwCl [oD d lt mn vs, ai (cy 0) (d 1) 24 pt, ai (cy 0) (d 2) 24 tk, ai (cy 0) (d 3) 24 mr, ai (cy 0) (d 4) 10 od, ai (cy 0) (d 5) 10 pl, ai (cy 0) (d 6) 4 rm, ai (cy 0) (d 7) 10 cd] H → va_D A [oD d lt mn vs, ai (cy 0) (d 1) 24 pt, ai (cy 0) (d 2) 24 tk, ai (cy 0) (d 3) 24 mr, ai (cy 0) (d 4) 10 od, ai (cy 0) (d 5) 10 pl, ai (cy 0) (d 6) 4 rm, ai (cy 0) (d 7) 10 cd] → va_S A s.heap H locs → ∀ (ls : Array Slot), lv_has ls 3 [(0, .ref (d 0)), (1, .int (iI g)), (2, .int (iI i))] → W p l e rm_X1_countPoints s m args below meth c H locs 0 0 Q (F0 m 4 ls []) := by
    intro fu
    induction fu with
    | zero =>
      intro g i h1 h2 hm
      exact absurd hm (Nat.not_lt_zero _)
    | succ fu ih_4 =>
      intro g i h1 h2 hm H locs hP hD hS ls hl
      refine lv_iload_n hx hb dX1_countPoints_4 rfl (lv_at hl 2 rfl) ?_
      refine r_bip hx hb (10) dX1_countPoints_5 (by decide) ?_
      refine r_ge hx hb 27 dX1_countPoints_7 (by decide) ⟨by omega, by omega⟩ ⟨by omega, by omega⟩ (fun c_7 => ?_) (fun c_7 => ?_)
      ·
        refine lv_iload_n hx hb dX1_countPoints_27 rfl (lv_at hl 1 rfl) ?_
        exact hret [0, 1, 2, 3, 4, 5, 6, 7] () dX1_countPoints_28 hP hD hS (by decide) rfl (by rw [h2, show i = 10 by omega]; rfl)
      ·
        refine lv_aload_n hx hb dX1_countPoints_10 rfl (lv_at hl 0 rfl) ?_
        refine lv_iload_n hx hb dX1_countPoints_11 rfl (lv_at hl 2 rfl) ?_
        have M_12 := k_X1_hasLetterAt l D cy d H.size lt mn vs pt tk mr od pl rm cd i (⟨⟨hlt0, hlt1⟩, hpt⟩) (⟨by omega, by omega⟩)
        refine kV_i (wr := []) (As := [.int (iI i)]) (rest := []) (q := (RX1, TX1, 10)) (ci := 1) ⟨hx, hb, hml, hown, hts⟩ M_12 0 rfl rfl (cwV 1 hts gX1_countPoints_X1_hasLetterAt rfl rfl rfl (by decide +kernel) ⟨Nat.le_of_ble_eq_true rfl, Nat.le_of_ble_eq_true rfl⟩) hN hK hP hD hS hA [0, 1, 2, 3, 4, 5, 6, 7] [] rfl rfl (by decide) (by decide) (by decide) rfl hl.1 rfl (Nat.le_of_ble_eq_true rfl) dX1_countPoints_12 ⟨Nat.le_of_ble_eq_true rfl, Nat.le_of_ble_eq_true rfl⟩ (fun r_12 u_12 H locs hw_12 hP hD hS => ?_)
        replace hP : va_P D vwCl [oD d lt mn vs, ai (cy 0) (d 1) 24 pt, ai (cy 0) (d 2) 24 tk, ai (cy 0) (d 3) 24 mr, ai (cy 0) (d 4) 10 od, ai (cy 0) (d 5) 10 pl, ai (cy 0) (d 6) 4 rm, ai (cy 0) (d 7) 10 cd] H := hP
        replace hD : va_D A [oD d lt mn vs, ai (cy 0) (d 1) 24 pt, ai (cy 0) (d 2) 24 tk, ai (cy 0) (d 3) 24 mr, ai (cy 0) (d 4) 10 od, ai (cy 0) (d 5) 10 pl, ai (cy 0) (d 6) 4 rm, ai (cy 0) (d 7) 10 cd] := hD
        have hb1 := hasI_b pt lt i
        refine r_eq0 hx hb 21 dX1_countPoints_15 (by decide) ⟨by omega, by omega⟩ (fun c_15 => ?_) (fun c_15 => ?_)
        ·
          refine r_inc (k := 2) (lv' := [(2, .int (iI (i + 1))), (0, .ref (d 0)), (1, .int (iI g))]) hx hb dX1_countPoints_21 hl rfl (by decide) rfl (fun ls hl => ?_)
          refine lv_goto (tgt := 4) hx hb dX1_countPoints_24 (by decide) ?_
          exact ih_4 g (i + 1) (by omega) (by rw [sumTo_s h1.1, h2]; omega) (by omega) H locs (pick_P hP (is := [0, 1, 2, 3, 4, 5, 6, 7]) rfl) (hD.sub [0, 1, 2, 3, 4, 5, 6, 7] (by decide) rfl) hS ls (lv_sub hl [1, 2, 0] rfl)
        ·
          refine r_inc (k := 1) (lv' := [(1, .int (iI (g + 1))), (0, .ref (d 0)), (2, .int (iI i))]) hx hb dX1_countPoints_18 hl rfl (by decide) rfl (fun ls hl => ?_)
          refine r_inc (k := 2) (lv' := [(2, .int (iI (i + 1))), (1, .int (iI (g + 1))), (0, .ref (d 0))]) hx hb dX1_countPoints_21 hl rfl (by decide) rfl (fun ls hl => ?_)
          refine lv_goto (tgt := 4) hx hb dX1_countPoints_24 (by decide) ?_
          exact ih_4 (g + 1) (i + 1) (by omega) (by rw [sumTo_s h1.1, h2]; omega) (by omega) H locs (pick_P hP (is := [0, 1, 2, 3, 4, 5, 6, 7]) rfl) (hD.sub [0, 1, 2, 3, 4, 5, 6, 7] (by decide) rfl) hS ls (lv_sub hl [2, 1, 0] rfl)
  exact lp_4 _ 0 0 (by omega) (rfl) (Nat.lt_succ_self _) H locs (pick_P hP (is := [0, 1, 2, 3, 4, 5, 6, 7]) rfl) (hD.sub [0, 1, 2, 3, 4, 5, 6, 7] (by decide) rfl) hS ls (lv_sub hl [2, 1, 0] rfl)
abbrev rm_X1_add : Room := { frames := 0, cells := 0, slots := 0, locals := 0 }
theorem fl_X1_add_9 : Cond.fieldLink RX1 9 "WalkPasses$Desk" "points" "[I" ∈ wsX1_add := by decide +kernel
theorem fl_X1_add_15 : Cond.fieldLink RX1 15 "WalkPasses$Desk" "thicks" "[I" ∈ wsX1_add := by decide +kernel
theorem fl_X1_add_18 : Cond.fieldLink RX1 18 "WalkPasses$Desk" "misreads" "[I" ∈ wsX1_add := by decide +kernel
theorem fl_X1_add_43 : Cond.fieldLink RX1 43 "WalkPasses$Desk" "letters" "I" ∈ wsX1_add := by decide +kernel
theorem fl_X1_add_46 : Cond.fieldLink RX1 46 "WalkPasses$Desk" "version" "I" ∈ wsX1_add := by decide +kernel
theorem iw_X1_add_1 : ∀ w ∈ u_ws RX1 TX1 10, w ∈ wsX1_add := by decide +kernel
set_option maxHeartbeats 4000000 in
set_option maxRecDepth 100000 in
theorem k_X1_add (l : Launch) (D : va_G) (cy : Nat → ClassId) (d : Nat → Nat) (z : Nat) (lt mn vs : Int) (pt tk mr od pl rm cd : Int → Int) (q t : Int) (hI : DI lt mn pt tk mr od pl rm cd) (hl : lt < 24) : CtI l yX1_add wsX1_add rm_X1_add D (tyL cy) [.ref (d 0), .int (iI q), .int (iI t)] [oD d lt mn vs, ai (cy 0) (d 1) 24 pt, ai (cy 0) (d 2) 24 tk, ai (cy 0) (d 3) 24 mr, ai (cy 0) (d 4) 10 od, ai (cy 0) (d 5) 10 pl, ai (cy 0) (d 6) 4 rm, ai (cy 0) (d 7) 10 cd] z (fun (r : Int) (u : Unit) => r = lt) (fun (u : Unit) => [oD d (lt + 1) mn (vs + 1), ai (cy 0) (d 1) 24 (ud pt lt q), ai (cy 0) (d 2) 24 (ud tk lt t), ai (cy 0) (d 3) 24 (ud mr lt 0), ai (cy 0) (d 4) 10 od, ai (cy 0) (d 5) 10 pl, ai (cy 0) (d 6) 4 rm, ai (cy 0) (d 7) 10 cd]) 0 0 := by
  refine ct_i (cc := cX1_add) (maxL := 4) (by decide) rfl (Nat.le_of_ble_eq_true rfl) ?_
  intro p e s m args below meth c A Q H locs ls hx hb hml hown hin hts hK hN hP hD hS hA hl hret
  replace hl : lv_has ls 4 [(0, .ref (d 0)), (1, .int (iI q)), (2, .int (iI t))] := hl
  replace hown : s.vm.findClass RX1 = some m.cls := hown
  obtain ⟨⟨⟨hlt0, hlt1⟩, hmn0, hmn1⟩, ⟨hpt, htk, hmr⟩, ⟨hod, hpl, hpo, hop⟩, hrm, hcd⟩ := id hI
  refine lv_aload_n hx hb dX1_add_0 rfl (lv_at hl 0 rfl) ?_
  refine va_get (D := D) (C := RX1) (T := TX1) (N := 10) (ci := 1) (v := .int (iI lt)) hx hb hts iw_X1_add_1 hown hK hP 0 rfl rfl 0 (by decide) (hts _ fl_X1_add_43) (fun _ h9 => h9) rfl dX1_add_1 ?_
  refine lv_istore_n (lv' := [(3, .int (iI lt)), (0, .ref (d 0)), (1, .int (iI q)), (2, .int (iI t))]) hx hb dX1_add_4 rfl hl (by decide) rfl (fun ls hl => ?_)
  refine lv_aload_n hx hb dX1_add_5 rfl (lv_at hl 1 rfl) ?_
  refine va_get (D := D) (C := RX1) (T := TX1) (N := 10) (ci := 1) (v := .ref (d 1)) hx hb hts iw_X1_add_1 hown hK hP 0 rfl rfl 1 (by decide) (hts _ fl_X1_add_9) (fun _ h9 => h9) rfl dX1_add_6 ?_
  refine lv_iload_n hx hb dX1_add_9 rfl (lv_at hl 0 rfl) ?_
  refine lv_iload_n hx hb dX1_add_10 rfl (lv_at hl 2 rfl) ?_
  refine r_ast hx hb hK hP hD hS 1 rfl rfl ⟨by omega, by omega, by omega⟩ dX1_add_11 (fun H locs hP hD hS => ?_)
  replace hP : va_P D vwCl [oD d lt mn vs, ai (cy 0) (d 1) 24 (ud pt lt q), ai (cy 0) (d 2) 24 tk, ai (cy 0) (d 3) 24 mr, ai (cy 0) (d 4) 10 od, ai (cy 0) (d 5) 10 pl, ai (cy 0) (d 6) 4 rm, ai (cy 0) (d 7) 10 cd] H := hP
  replace hD : va_D A [oD d lt mn vs, ai (cy 0) (d 1) 24 (ud pt lt q), ai (cy 0) (d 2) 24 tk, ai (cy 0) (d 3) 24 mr, ai (cy 0) (d 4) 10 od, ai (cy 0) (d 5) 10 pl, ai (cy 0) (d 6) 4 rm, ai (cy 0) (d 7) 10 cd] := hD
  refine lv_aload_n hx hb dX1_add_12 rfl (lv_at hl 1 rfl) ?_
  refine va_get (D := D) (C := RX1) (T := TX1) (N := 10) (ci := 1) (v := .ref (d 2)) hx hb hts iw_X1_add_1 hown hK hP 0 rfl rfl 2 (by decide) (hts _ fl_X1_add_15) (fun _ h9 => h9) rfl dX1_add_13 ?_
  refine lv_iload_n hx hb dX1_add_16 rfl (lv_at hl 0 rfl) ?_
  refine lv_iload_n hx hb dX1_add_17 rfl (lv_at hl 3 rfl) ?_
  refine r_ast hx hb hK hP hD hS 2 rfl rfl ⟨by omega, by omega, by omega⟩ dX1_add_18 (fun H locs hP hD hS => ?_)
  replace hP : va_P D vwCl [oD d lt mn vs, ai (cy 0) (d 1) 24 (ud pt lt q), ai (cy 0) (d 2) 24 (ud tk lt t), ai (cy 0) (d 3) 24 mr, ai (cy 0) (d 4) 10 od, ai (cy 0) (d 5) 10 pl, ai (cy 0) (d 6) 4 rm, ai (cy 0) (d 7) 10 cd] H := hP
  replace hD : va_D A [oD d lt mn vs, ai (cy 0) (d 1) 24 (ud pt lt q), ai (cy 0) (d 2) 24 (ud tk lt t), ai (cy 0) (d 3) 24 mr, ai (cy 0) (d 4) 10 od, ai (cy 0) (d 5) 10 pl, ai (cy 0) (d 6) 4 rm, ai (cy 0) (d 7) 10 cd] := hD
  refine lv_aload_n hx hb dX1_add_19 rfl (lv_at hl 1 rfl) ?_
  refine va_get (D := D) (C := RX1) (T := TX1) (N := 10) (ci := 1) (v := .ref (d 3)) hx hb hts iw_X1_add_1 hown hK hP 0 rfl rfl 3 (by decide) (hts _ fl_X1_add_18) (fun _ h9 => h9) rfl dX1_add_20 ?_
  refine lv_iload_n hx hb dX1_add_23 rfl (lv_at hl 0 rfl) ?_
  refine r_const hx hb dX1_add_24 ?_
  refine r_ast hx hb hK hP hD hS 3 rfl rfl ⟨by omega, by omega, by omega⟩ dX1_add_25 (fun H locs hP hD hS => ?_)
  replace hP : va_P D vwCl [oD d lt mn vs, ai (cy 0) (d 1) 24 (ud pt lt q), ai (cy 0) (d 2) 24 (ud tk lt t), ai (cy 0) (d 3) 24 (ud mr lt 0), ai (cy 0) (d 4) 10 od, ai (cy 0) (d 5) 10 pl, ai (cy 0) (d 6) 4 rm, ai (cy 0) (d 7) 10 cd] H := hP
  replace hD : va_D A [oD d lt mn vs, ai (cy 0) (d 1) 24 (ud pt lt q), ai (cy 0) (d 2) 24 (ud tk lt t), ai (cy 0) (d 3) 24 (ud mr lt 0), ai (cy 0) (d 4) 10 od, ai (cy 0) (d 5) 10 pl, ai (cy 0) (d 6) 4 rm, ai (cy 0) (d 7) 10 cd] := hD
  refine lv_aload_n hx hb dX1_add_26 rfl (lv_at hl 1 rfl) ?_
  refine lv_dup hx hb dX1_add_27 rfl ?_
  refine va_get (D := D) (C := RX1) (T := TX1) (N := 10) (ci := 1) (v := .int (iI lt)) hx hb hts iw_X1_add_1 hown hK hP 0 rfl rfl 0 (by decide) (hts _ fl_X1_add_43) (fun _ h9 => h9) rfl dX1_add_28 ?_
  refine r_const hx hb dX1_add_31 ?_
  refine r_add hx hb dX1_add_32 ?_
  refine va_put (D := D) (C := RX1) (T := TX1) (N := 10) (ci := 1) (v := .int (iI (lt + 1))) (ty := .int) hx hb hts iw_X1_add_1 tyX1 tyX1_ok nmX1 hown hK hP hD hS 0 rfl rfl 0 (by decide) (hts _ fl_X1_add_43) (fun _ h9 => h9) rfl (by decide +kernel) rfl rfl (Nat.le_of_ble_eq_true rfl) dX1_add_33 (fun H locs hP hD hS => ?_)
  replace hP : va_P D vwCl [oD d (lt + 1) mn vs, ai (cy 0) (d 1) 24 (ud pt lt q), ai (cy 0) (d 2) 24 (ud tk lt t), ai (cy 0) (d 3) 24 (ud mr lt 0), ai (cy 0) (d 4) 10 od, ai (cy 0) (d 5) 10 pl, ai (cy 0) (d 6) 4 rm, ai (cy 0) (d 7) 10 cd] H := hP
  replace hD : va_D A [oD d (lt + 1) mn vs, ai (cy 0) (d 1) 24 (ud pt lt q), ai (cy 0) (d 2) 24 (ud tk lt t), ai (cy 0) (d 3) 24 (ud mr lt 0), ai (cy 0) (d 4) 10 od, ai (cy 0) (d 5) 10 pl, ai (cy 0) (d 6) 4 rm, ai (cy 0) (d 7) 10 cd] := hD
  refine lv_aload_n hx hb dX1_add_36 rfl (lv_at hl 1 rfl) ?_
  refine lv_dup hx hb dX1_add_37 rfl ?_
  refine va_get (D := D) (C := RX1) (T := TX1) (N := 10) (ci := 1) (v := .int (iI vs)) hx hb hts iw_X1_add_1 hown hK hP 0 rfl rfl 9 (by decide) (hts _ fl_X1_add_46) (fun _ h9 => h9) rfl dX1_add_38 ?_
  refine r_const hx hb dX1_add_41 ?_
  refine r_add hx hb dX1_add_42 ?_
  refine va_put (D := D) (C := RX1) (T := TX1) (N := 10) (ci := 1) (v := .int (iI (vs + 1))) (ty := .int) hx hb hts iw_X1_add_1 tyX1 tyX1_ok nmX1 hown hK hP hD hS 0 rfl rfl 9 (by decide) (hts _ fl_X1_add_46) (fun _ h9 => h9) rfl (by decide +kernel) rfl rfl (Nat.le_of_ble_eq_true rfl) dX1_add_43 (fun H locs hP hD hS => ?_)
  replace hP : va_P D vwCl [oD d (lt + 1) mn (vs + 1), ai (cy 0) (d 1) 24 (ud pt lt q), ai (cy 0) (d 2) 24 (ud tk lt t), ai (cy 0) (d 3) 24 (ud mr lt 0), ai (cy 0) (d 4) 10 od, ai (cy 0) (d 5) 10 pl, ai (cy 0) (d 6) 4 rm, ai (cy 0) (d 7) 10 cd] H := hP
  replace hD : va_D A [oD d (lt + 1) mn (vs + 1), ai (cy 0) (d 1) 24 (ud pt lt q), ai (cy 0) (d 2) 24 (ud tk lt t), ai (cy 0) (d 3) 24 (ud mr lt 0), ai (cy 0) (d 4) 10 od, ai (cy 0) (d 5) 10 pl, ai (cy 0) (d 6) 4 rm, ai (cy 0) (d 7) 10 cd] := hD
  refine lv_iload_n hx hb dX1_add_46 rfl (lv_at hl 0 rfl) ?_
  exact hret [0, 1, 2, 3, 4, 5, 6, 7] () dX1_add_47 hP hD hS (by decide) rfl (rfl)
abbrev rm_X1_mark : Room := { frames := 0, cells := 0, slots := 0, locals := 0 }
theorem fl_X1_mark_18 : Cond.fieldLink RX1 18 "WalkPasses$Desk" "misreads" "[I" ∈ wsX1_mark := by decide +kernel
theorem fl_X1_mark_46 : Cond.fieldLink RX1 46 "WalkPasses$Desk" "version" "I" ∈ wsX1_mark := by decide +kernel
theorem iw_X1_mark_1 : ∀ w ∈ u_ws RX1 TX1 10, w ∈ wsX1_mark := by decide +kernel
set_option maxHeartbeats 4000000 in
set_option maxRecDepth 100000 in
theorem k_X1_mark (l : Launch) (D : va_G) (cy : Nat → ClassId) (d : Nat → Nat) (z : Nat) (lt mn vs : Int) (pt tk mr od pl rm cd : Int → Int) (i v : Int) (hI : DI lt mn pt tk mr od pl rm cd) (hi : 0 ≤ i ∧ i < lt) : CtV l yX1_mark wsX1_mark rm_X1_mark D (tyL cy) [.ref (d 0), .int (iI i), .int (iI v)] [oD d lt mn vs, ai (cy 0) (d 1) 24 pt, ai (cy 0) (d 2) 24 tk, ai (cy 0) (d 3) 24 mr, ai (cy 0) (d 4) 10 od, ai (cy 0) (d 5) 10 pl, ai (cy 0) (d 6) 4 rm, ai (cy 0) (d 7) 10 cd] z (fun (u : Unit) => True) (fun (u : Unit) => [oD d lt mn (vs + 1), ai (cy 0) (d 1) 24 pt, ai (cy 0) (d 2) 24 tk, ai (cy 0) (d 3) 24 (ud mr i v), ai (cy 0) (d 4) 10 od, ai (cy 0) (d 5) 10 pl, ai (cy 0) (d 6) 4 rm, ai (cy 0) (d 7) 10 cd]) 0 0 := by
  refine ct_v (cc := cX1_mark) (maxL := 3) (by decide) rfl (Nat.le_of_ble_eq_true rfl) ?_
  intro p e s m args below meth c A Q H locs ls hx hb hml hown hin hts hK hN hP hD hS hA hl hret
  replace hl : lv_has ls 3 [(0, .ref (d 0)), (1, .int (iI i)), (2, .int (iI v))] := hl
  replace hown : s.vm.findClass RX1 = some m.cls := hown
  obtain ⟨⟨⟨hlt0, hlt1⟩, hmn0, hmn1⟩, ⟨hpt, htk, hmr⟩, ⟨hod, hpl, hpo, hop⟩, hrm, hcd⟩ := id hI
  refine lv_aload_n hx hb dX1_mark_0 rfl (lv_at hl 0 rfl) ?_
  refine va_get (D := D) (C := RX1) (T := TX1) (N := 10) (ci := 1) (v := .ref (d 3)) hx hb hts iw_X1_mark_1 hown hK hP 0 rfl rfl 3 (by decide) (hts _ fl_X1_mark_18) (fun _ h9 => h9) rfl dX1_mark_1 ?_
  refine lv_iload_n hx hb dX1_mark_4 rfl (lv_at hl 1 rfl) ?_
  refine lv_iload_n hx hb dX1_mark_5 rfl (lv_at hl 2 rfl) ?_
  refine r_ast hx hb hK hP hD hS 3 rfl rfl ⟨by omega, by omega, by omega⟩ dX1_mark_6 (fun H locs hP hD hS => ?_)
  replace hP : va_P D vwCl [oD d lt mn vs, ai (cy 0) (d 1) 24 pt, ai (cy 0) (d 2) 24 tk, ai (cy 0) (d 3) 24 (ud mr i v), ai (cy 0) (d 4) 10 od, ai (cy 0) (d 5) 10 pl, ai (cy 0) (d 6) 4 rm, ai (cy 0) (d 7) 10 cd] H := hP
  replace hD : va_D A [oD d lt mn vs, ai (cy 0) (d 1) 24 pt, ai (cy 0) (d 2) 24 tk, ai (cy 0) (d 3) 24 (ud mr i v), ai (cy 0) (d 4) 10 od, ai (cy 0) (d 5) 10 pl, ai (cy 0) (d 6) 4 rm, ai (cy 0) (d 7) 10 cd] := hD
  refine lv_aload_n hx hb dX1_mark_7 rfl (lv_at hl 0 rfl) ?_
  refine lv_dup hx hb dX1_mark_8 rfl ?_
  refine va_get (D := D) (C := RX1) (T := TX1) (N := 10) (ci := 1) (v := .int (iI vs)) hx hb hts iw_X1_mark_1 hown hK hP 0 rfl rfl 9 (by decide) (hts _ fl_X1_mark_46) (fun _ h9 => h9) rfl dX1_mark_9 ?_
  refine r_const hx hb dX1_mark_12 ?_
  refine r_add hx hb dX1_mark_13 ?_
  refine va_put (D := D) (C := RX1) (T := TX1) (N := 10) (ci := 1) (v := .int (iI (vs + 1))) (ty := .int) hx hb hts iw_X1_mark_1 tyX1 tyX1_ok nmX1 hown hK hP hD hS 0 rfl rfl 9 (by decide) (hts _ fl_X1_mark_46) (fun _ h9 => h9) rfl (by decide +kernel) rfl rfl (Nat.le_of_ble_eq_true rfl) dX1_mark_14 (fun H locs hP hD hS => ?_)
  replace hP : va_P D vwCl [oD d lt mn (vs + 1), ai (cy 0) (d 1) 24 pt, ai (cy 0) (d 2) 24 tk, ai (cy 0) (d 3) 24 (ud mr i v), ai (cy 0) (d 4) 10 od, ai (cy 0) (d 5) 10 pl, ai (cy 0) (d 6) 4 rm, ai (cy 0) (d 7) 10 cd] H := hP
  replace hD : va_D A [oD d lt mn (vs + 1), ai (cy 0) (d 1) 24 pt, ai (cy 0) (d 2) 24 tk, ai (cy 0) (d 3) 24 (ud mr i v), ai (cy 0) (d 4) 10 od, ai (cy 0) (d 5) 10 pl, ai (cy 0) (d 6) 4 rm, ai (cy 0) (d 7) 10 cd] := hD
  exact hret [0, 1, 2, 3, 4, 5, 6, 7] () dX1_mark_17 hP hD hS (by decide) rfl (by trivial)
abbrev rm_X1_setMany : Room := { frames := 0, cells := 0, slots := 0, locals := 0 }
theorem fl_X1_setMany_27 : Cond.fieldLink RX1 27 "WalkPasses$Desk" "many" "I" ∈ wsX1_setMany := by decide +kernel
theorem fl_X1_setMany_46 : Cond.fieldLink RX1 46 "WalkPasses$Desk" "version" "I" ∈ wsX1_setMany := by decide +kernel
theorem iw_X1_setMany_1 : ∀ w ∈ u_ws RX1 TX1 10, w ∈ wsX1_setMany := by decide +kernel
set_option maxHeartbeats 4000000 in
set_option maxRecDepth 100000 in
theorem k_X1_setMany (l : Launch) (D : va_G) (cy : Nat → ClassId) (d : Nat → Nat) (z : Nat) (lt mn vs : Int) (pt tk mr od pl rm cd : Int → Int) (v : Int) : CtV l yX1_setMany wsX1_setMany rm_X1_setMany D (tyL cy) [.ref (d 0), .int (iI v)] [oD d lt mn vs, ai (cy 0) (d 1) 24 pt, ai (cy 0) (d 2) 24 tk, ai (cy 0) (d 3) 24 mr, ai (cy 0) (d 4) 10 od, ai (cy 0) (d 5) 10 pl, ai (cy 0) (d 6) 4 rm, ai (cy 0) (d 7) 10 cd] z (fun (u : Unit) => True) (fun (u : Unit) => [oD d lt v (vs + 1), ai (cy 0) (d 1) 24 pt, ai (cy 0) (d 2) 24 tk, ai (cy 0) (d 3) 24 mr, ai (cy 0) (d 4) 10 od, ai (cy 0) (d 5) 10 pl, ai (cy 0) (d 6) 4 rm, ai (cy 0) (d 7) 10 cd]) 0 0 := by
  refine ct_v (cc := cX1_setMany) (maxL := 2) (by decide) rfl (Nat.le_of_ble_eq_true rfl) ?_
  intro p e s m args below meth c A Q H locs ls hx hb hml hown hin hts hK hN hP hD hS hA hl hret
  replace hl : lv_has ls 2 [(0, .ref (d 0)), (1, .int (iI v))] := hl
  replace hown : s.vm.findClass RX1 = some m.cls := hown
  refine lv_aload_n hx hb dX1_setMany_0 rfl (lv_at hl 0 rfl) ?_
  refine lv_iload_n hx hb dX1_setMany_1 rfl (lv_at hl 1 rfl) ?_
  refine va_put (D := D) (C := RX1) (T := TX1) (N := 10) (ci := 1) (v := .int (iI v)) (ty := .int) hx hb hts iw_X1_setMany_1 tyX1 tyX1_ok nmX1 hown hK hP hD hS 0 rfl rfl 6 (by decide) (hts _ fl_X1_setMany_27) (fun _ h9 => h9) rfl (by decide +kernel) rfl rfl (Nat.le_of_ble_eq_true rfl) dX1_setMany_2 (fun H locs hP hD hS => ?_)
  replace hP : va_P D vwCl [oD d lt v vs, ai (cy 0) (d 1) 24 pt, ai (cy 0) (d 2) 24 tk, ai (cy 0) (d 3) 24 mr, ai (cy 0) (d 4) 10 od, ai (cy 0) (d 5) 10 pl, ai (cy 0) (d 6) 4 rm, ai (cy 0) (d 7) 10 cd] H := hP
  replace hD : va_D A [oD d lt v vs, ai (cy 0) (d 1) 24 pt, ai (cy 0) (d 2) 24 tk, ai (cy 0) (d 3) 24 mr, ai (cy 0) (d 4) 10 od, ai (cy 0) (d 5) 10 pl, ai (cy 0) (d 6) 4 rm, ai (cy 0) (d 7) 10 cd] := hD
  refine lv_aload_n hx hb dX1_setMany_5 rfl (lv_at hl 0 rfl) ?_
  refine lv_dup hx hb dX1_setMany_6 rfl ?_
  refine va_get (D := D) (C := RX1) (T := TX1) (N := 10) (ci := 1) (v := .int (iI vs)) hx hb hts iw_X1_setMany_1 hown hK hP 0 rfl rfl 9 (by decide) (hts _ fl_X1_setMany_46) (fun _ h9 => h9) rfl dX1_setMany_7 ?_
  refine r_const hx hb dX1_setMany_10 ?_
  refine r_add hx hb dX1_setMany_11 ?_
  refine va_put (D := D) (C := RX1) (T := TX1) (N := 10) (ci := 1) (v := .int (iI (vs + 1))) (ty := .int) hx hb hts iw_X1_setMany_1 tyX1 tyX1_ok nmX1 hown hK hP hD hS 0 rfl rfl 9 (by decide) (hts _ fl_X1_setMany_46) (fun _ h9 => h9) rfl (by decide +kernel) rfl rfl (Nat.le_of_ble_eq_true rfl) dX1_setMany_12 (fun H locs hP hD hS => ?_)
  replace hP : va_P D vwCl [oD d lt v (vs + 1), ai (cy 0) (d 1) 24 pt, ai (cy 0) (d 2) 24 tk, ai (cy 0) (d 3) 24 mr, ai (cy 0) (d 4) 10 od, ai (cy 0) (d 5) 10 pl, ai (cy 0) (d 6) 4 rm, ai (cy 0) (d 7) 10 cd] H := hP
  replace hD : va_D A [oD d lt v (vs + 1), ai (cy 0) (d 1) 24 pt, ai (cy 0) (d 2) 24 tk, ai (cy 0) (d 3) 24 mr, ai (cy 0) (d 4) 10 od, ai (cy 0) (d 5) 10 pl, ai (cy 0) (d 6) 4 rm, ai (cy 0) (d 7) 10 cd] := hD
  exact hret [0, 1, 2, 3, 4, 5, 6, 7] () dX1_setMany_15 hP hD hS (by decide) rfl (by trivial)
abbrev rm_X1_setRoom : Room := { frames := 0, cells := 0, slots := 0, locals := 0 }
theorem fl_X1_setRoom_31 : Cond.fieldLink RX1 31 "WalkPasses$Desk" "rooms" "[I" ∈ wsX1_setRoom := by decide +kernel
theorem fl_X1_setRoom_46 : Cond.fieldLink RX1 46 "WalkPasses$Desk" "version" "I" ∈ wsX1_setRoom := by decide +kernel
theorem iw_X1_setRoom_1 : ∀ w ∈ u_ws RX1 TX1 10, w ∈ wsX1_setRoom := by decide +kernel
set_option maxHeartbeats 4000000 in
set_option maxRecDepth 100000 in
theorem k_X1_setRoom (l : Launch) (D : va_G) (cy : Nat → ClassId) (d : Nat → Nat) (z : Nat) (lt mn vs : Int) (pt tk mr od pl rm cd : Int → Int) (i v : Int) (hi : 0 ≤ i ∧ i < 4) : CtV l yX1_setRoom wsX1_setRoom rm_X1_setRoom D (tyL cy) [.ref (d 0), .int (iI i), .int (iI v)] [oD d lt mn vs, ai (cy 0) (d 1) 24 pt, ai (cy 0) (d 2) 24 tk, ai (cy 0) (d 3) 24 mr, ai (cy 0) (d 4) 10 od, ai (cy 0) (d 5) 10 pl, ai (cy 0) (d 6) 4 rm, ai (cy 0) (d 7) 10 cd] z (fun (u : Unit) => True) (fun (u : Unit) => [oD d lt mn (vs + 1), ai (cy 0) (d 1) 24 pt, ai (cy 0) (d 2) 24 tk, ai (cy 0) (d 3) 24 mr, ai (cy 0) (d 4) 10 od, ai (cy 0) (d 5) 10 pl, ai (cy 0) (d 6) 4 (ud rm i v), ai (cy 0) (d 7) 10 cd]) 0 0 := by
  refine ct_v (cc := cX1_setRoom) (maxL := 3) (by decide) rfl (Nat.le_of_ble_eq_true rfl) ?_
  intro p e s m args below meth c A Q H locs ls hx hb hml hown hin hts hK hN hP hD hS hA hl hret
  replace hl : lv_has ls 3 [(0, .ref (d 0)), (1, .int (iI i)), (2, .int (iI v))] := hl
  replace hown : s.vm.findClass RX1 = some m.cls := hown
  refine lv_aload_n hx hb dX1_setRoom_0 rfl (lv_at hl 0 rfl) ?_
  refine va_get (D := D) (C := RX1) (T := TX1) (N := 10) (ci := 1) (v := .ref (d 6)) hx hb hts iw_X1_setRoom_1 hown hK hP 0 rfl rfl 7 (by decide) (hts _ fl_X1_setRoom_31) (fun _ h9 => h9) rfl dX1_setRoom_1 ?_
  refine lv_iload_n hx hb dX1_setRoom_4 rfl (lv_at hl 1 rfl) ?_
  refine lv_iload_n hx hb dX1_setRoom_5 rfl (lv_at hl 2 rfl) ?_
  refine r_ast hx hb hK hP hD hS 6 rfl rfl ⟨by omega, by omega, by omega⟩ dX1_setRoom_6 (fun H locs hP hD hS => ?_)
  replace hP : va_P D vwCl [oD d lt mn vs, ai (cy 0) (d 1) 24 pt, ai (cy 0) (d 2) 24 tk, ai (cy 0) (d 3) 24 mr, ai (cy 0) (d 4) 10 od, ai (cy 0) (d 5) 10 pl, ai (cy 0) (d 6) 4 (ud rm i v), ai (cy 0) (d 7) 10 cd] H := hP
  replace hD : va_D A [oD d lt mn vs, ai (cy 0) (d 1) 24 pt, ai (cy 0) (d 2) 24 tk, ai (cy 0) (d 3) 24 mr, ai (cy 0) (d 4) 10 od, ai (cy 0) (d 5) 10 pl, ai (cy 0) (d 6) 4 (ud rm i v), ai (cy 0) (d 7) 10 cd] := hD
  refine lv_aload_n hx hb dX1_setRoom_7 rfl (lv_at hl 0 rfl) ?_
  refine lv_dup hx hb dX1_setRoom_8 rfl ?_
  refine va_get (D := D) (C := RX1) (T := TX1) (N := 10) (ci := 1) (v := .int (iI vs)) hx hb hts iw_X1_setRoom_1 hown hK hP 0 rfl rfl 9 (by decide) (hts _ fl_X1_setRoom_46) (fun _ h9 => h9) rfl dX1_setRoom_9 ?_
  refine r_const hx hb dX1_setRoom_12 ?_
  refine r_add hx hb dX1_setRoom_13 ?_
  refine va_put (D := D) (C := RX1) (T := TX1) (N := 10) (ci := 1) (v := .int (iI (vs + 1))) (ty := .int) hx hb hts iw_X1_setRoom_1 tyX1 tyX1_ok nmX1 hown hK hP hD hS 0 rfl rfl 9 (by decide) (hts _ fl_X1_setRoom_46) (fun _ h9 => h9) rfl (by decide +kernel) rfl rfl (Nat.le_of_ble_eq_true rfl) dX1_setRoom_14 (fun H locs hP hD hS => ?_)
  replace hP : va_P D vwCl [oD d lt mn (vs + 1), ai (cy 0) (d 1) 24 pt, ai (cy 0) (d 2) 24 tk, ai (cy 0) (d 3) 24 mr, ai (cy 0) (d 4) 10 od, ai (cy 0) (d 5) 10 pl, ai (cy 0) (d 6) 4 (ud rm i v), ai (cy 0) (d 7) 10 cd] H := hP
  replace hD : va_D A [oD d lt mn (vs + 1), ai (cy 0) (d 1) 24 pt, ai (cy 0) (d 2) 24 tk, ai (cy 0) (d 3) 24 mr, ai (cy 0) (d 4) 10 od, ai (cy 0) (d 5) 10 pl, ai (cy 0) (d 6) 4 (ud rm i v), ai (cy 0) (d 7) 10 cd] := hD
  exact hret [0, 1, 2, 3, 4, 5, 6, 7] () dX1_setRoom_17 hP hD hS (by decide) rfl (by trivial)
abbrev rm_X1_remove : Room := { frames := 0, cells := 0, slots := 0, locals := 0 }
theorem fl_X1_remove_9 : Cond.fieldLink RX1 9 "WalkPasses$Desk" "points" "[I" ∈ wsX1_remove := by decide +kernel
theorem fl_X1_remove_15 : Cond.fieldLink RX1 15 "WalkPasses$Desk" "thicks" "[I" ∈ wsX1_remove := by decide +kernel
theorem fl_X1_remove_18 : Cond.fieldLink RX1 18 "WalkPasses$Desk" "misreads" "[I" ∈ wsX1_remove := by decide +kernel
theorem fl_X1_remove_43 : Cond.fieldLink RX1 43 "WalkPasses$Desk" "letters" "I" ∈ wsX1_remove := by decide +kernel
theorem fl_X1_remove_46 : Cond.fieldLink RX1 46 "WalkPasses$Desk" "version" "I" ∈ wsX1_remove := by decide +kernel
theorem iw_X1_remove_1 : ∀ w ∈ u_ws RX1 TX1 10, w ∈ wsX1_remove := by decide +kernel
set_option maxHeartbeats 4000000 in
set_option maxRecDepth 100000 in
theorem k_X1_remove (l : Launch) (D : va_G) (cy : Nat → ClassId) (d : Nat → Nat) (z : Nat) (lt mn vs : Int) (pt tk mr od pl rm cd : Int → Int) (i : Int) (hI : DI lt mn pt tk mr od pl rm cd) (hi : 0 ≤ i ∧ i < lt) : CtV l yX1_remove wsX1_remove rm_X1_remove D (tyL cy) [.ref (d 0), .int (iI i)] [oD d lt mn vs, ai (cy 0) (d 1) 24 pt, ai (cy 0) (d 2) 24 tk, ai (cy 0) (d 3) 24 mr, ai (cy 0) (d 4) 10 od, ai (cy 0) (d 5) 10 pl, ai (cy 0) (d 6) 4 rm, ai (cy 0) (d 7) 10 cd] z (fun (u : Unit) => True) (fun (u : Unit) => [oD d (lt - 1) mn (vs + 1), ai (cy 0) (d 1) 24 (shf pt i (lt - 1)), ai (cy 0) (d 2) 24 (shf tk i (lt - 1)), ai (cy 0) (d 3) 24 (shf mr i (lt - 1)), ai (cy 0) (d 4) 10 od, ai (cy 0) (d 5) 10 pl, ai (cy 0) (d 6) 4 rm, ai (cy 0) (d 7) 10 cd]) 0 0 := by
  refine ct_v (cc := cX1_remove) (maxL := 3) (by decide) rfl (Nat.le_of_ble_eq_true rfl) ?_
  intro p e s m args below meth c A Q H locs ls hx hb hml hown hin hts hK hN hP hD hS hA hl hret
  replace hl : lv_has ls 3 [(0, .ref (d 0)), (1, .int (iI i))] := hl
  replace hown : s.vm.findClass RX1 = some m.cls := hown
  obtain ⟨⟨⟨hlt0, hlt1⟩, hmn0, hmn1⟩, ⟨hpt, htk, hmr⟩, ⟨hod, hpl, hpo, hop⟩, hrm, hcd⟩ := id hI
  refine lv_aload_n hx hb dX1_remove_0 rfl (lv_at hl 0 rfl) ?_
  refine lv_dup hx hb dX1_remove_1 rfl ?_
  refine va_get (D := D) (C := RX1) (T := TX1) (N := 10) (ci := 1) (v := .int (iI lt)) hx hb hts iw_X1_remove_1 hown hK hP 0 rfl rfl 0 (by decide) (hts _ fl_X1_remove_43) (fun _ h9 => h9) rfl dX1_remove_2 ?_
  refine r_const hx hb dX1_remove_5 ?_
  refine r_sub hx hb dX1_remove_6 ?_
  refine va_put (D := D) (C := RX1) (T := TX1) (N := 10) (ci := 1) (v := .int (iI (lt - 1))) (ty := .int) hx hb hts iw_X1_remove_1 tyX1 tyX1_ok nmX1 hown hK hP hD hS 0 rfl rfl 0 (by decide) (hts _ fl_X1_remove_43) (fun _ h9 => h9) rfl (by decide +kernel) rfl rfl (Nat.le_of_ble_eq_true rfl) dX1_remove_7 (fun H locs hP hD hS => ?_)
  replace hP : va_P D vwCl [oD d (lt - 1) mn vs, ai (cy 0) (d 1) 24 pt, ai (cy 0) (d 2) 24 tk, ai (cy 0) (d 3) 24 mr, ai (cy 0) (d 4) 10 od, ai (cy 0) (d 5) 10 pl, ai (cy 0) (d 6) 4 rm, ai (cy 0) (d 7) 10 cd] H := hP
  replace hD : va_D A [oD d (lt - 1) mn vs, ai (cy 0) (d 1) 24 pt, ai (cy 0) (d 2) 24 tk, ai (cy 0) (d 3) 24 mr, ai (cy 0) (d 4) 10 od, ai (cy 0) (d 5) 10 pl, ai (cy 0) (d 6) 4 rm, ai (cy 0) (d 7) 10 cd] := hD
  refine lv_iload_n hx hb dX1_remove_10 rfl (lv_at hl 1 rfl) ?_
  refine lv_istore_n (lv' := [(2, .int (iI i)), (0, .ref (d 0)), (1, .int (iI i))]) hx hb dX1_remove_11 rfl hl (by decide) rfl (fun ls hl => ?_)
  have lp_12 : ∀ (fu : Nat) (j : Int) (B1 : Int → Int) (B2 : Int → Int) (B3 : Int → Int), (i ≤ j ∧ j ≤ lt - 1) → (B1 = shf pt i j) → (B2 = shf tk i j) → (B3 = shf mr i j) → (lt - 1 - j).toNat < fu → ∀ (H : Heap) (locs : List Loc), va_P D vwCl [oD d (lt - 1) mn vs, ai (cy 0) (d 1) 24 B1, ai (cy 0) (d 2) 24 B2, ai (cy 0) (d 3) 24 B3, ai (cy 0) (d 4) 10 od, ai (cy 0) (d 5) 10 pl, ai (cy 0) (d 6) 4 rm, ai (cy 0) (d 7) 10 cd] H → va_D A [oD d (lt - 1) mn vs, ai (cy 0) (d 1) 24 B1, ai (cy 0) (d 2) 24 B2, ai (cy 0) (d 3) 24 B3, ai (cy 0) (d 4) 10 od, ai (cy 0) (d 5) 10 pl, ai (cy 0) (d 6) 4 rm, ai (cy 0) (d 7) 10 cd] → va_S A s.heap H locs → ∀ (ls : Array Slot), lv_has ls 3 [(0, .ref (d 0)), (1, .int (iI i)), (2, .int (iI j))] → W p l e rm_X1_remove s m args below meth c H locs 0 0 Q (F0 m 12 ls []) := by
    intro fu
    induction fu with
    | zero =>
      intro j B1 B2 B3 h1 e1 e2 e3 hm
      exact absurd hm (Nat.not_lt_zero _)
    | succ fu ih_12 =>
      intro j B1 B2 B3 h1 e1 e2 e3 hm H locs hP hD hS ls hl
      refine lv_iload_n hx hb dX1_remove_12 rfl (lv_at hl 2 rfl) ?_
      refine lv_aload_n hx hb dX1_remove_13 rfl (lv_at hl 0 rfl) ?_
      refine va_get (D := D) (C := RX1) (T := TX1) (N := 10) (ci := 1) (v := .int (iI (lt - 1))) hx hb hts iw_X1_remove_1 hown hK hP 0 rfl rfl 0 (by decide) (hts _ fl_X1_remove_43) (fun _ h9 => h9) rfl dX1_remove_14 ?_
      refine r_ge hx hb 68 dX1_remove_17 (by decide) ⟨by omega, by omega⟩ ⟨by omega, by omega⟩ (fun c_17 => ?_) (fun c_17 => ?_)
      ·
        refine lv_aload_n hx hb dX1_remove_68 rfl (lv_at hl 0 rfl) ?_
        refine lv_dup hx hb dX1_remove_69 rfl ?_
        refine va_get (D := D) (C := RX1) (T := TX1) (N := 10) (ci := 1) (v := .int (iI vs)) hx hb hts iw_X1_remove_1 hown hK hP 0 rfl rfl 9 (by decide) (hts _ fl_X1_remove_46) (fun _ h9 => h9) rfl dX1_remove_70 ?_
        refine r_const hx hb dX1_remove_73 ?_
        refine r_add hx hb dX1_remove_74 ?_
        refine va_put (D := D) (C := RX1) (T := TX1) (N := 10) (ci := 1) (v := .int (iI (vs + 1))) (ty := .int) hx hb hts iw_X1_remove_1 tyX1 tyX1_ok nmX1 hown hK hP hD hS 0 rfl rfl 9 (by decide) (hts _ fl_X1_remove_46) (fun _ h9 => h9) rfl (by decide +kernel) rfl rfl (Nat.le_of_ble_eq_true rfl) dX1_remove_75 (fun H locs hP hD hS => ?_)
        replace hP : va_P D vwCl [oD d (lt - 1) mn (vs + 1), ai (cy 0) (d 1) 24 B1, ai (cy 0) (d 2) 24 B2, ai (cy 0) (d 3) 24 B3, ai (cy 0) (d 4) 10 od, ai (cy 0) (d 5) 10 pl, ai (cy 0) (d 6) 4 rm, ai (cy 0) (d 7) 10 cd] H := hP
        replace hD : va_D A [oD d (lt - 1) mn (vs + 1), ai (cy 0) (d 1) 24 B1, ai (cy 0) (d 2) 24 B2, ai (cy 0) (d 3) 24 B3, ai (cy 0) (d 4) 10 od, ai (cy 0) (d 5) 10 pl, ai (cy 0) (d 6) 4 rm, ai (cy 0) (d 7) 10 cd] := hD
        obtain rfl : j = lt - 1 := by omega
        subst e1 e2 e3
        exact hret [0, 1, 2, 3, 4, 5, 6, 7] () dX1_remove_78 hP hD hS (by decide) rfl (by trivial)
      ·
        refine lv_aload_n hx hb dX1_remove_20 rfl (lv_at hl 0 rfl) ?_
        refine va_get (D := D) (C := RX1) (T := TX1) (N := 10) (ci := 1) (v := .ref (d 1)) hx hb hts iw_X1_remove_1 hown hK hP 0 rfl rfl 1 (by decide) (hts _ fl_X1_remove_9) (fun _ h9 => h9) rfl dX1_remove_21 ?_
        refine lv_iload_n hx hb dX1_remove_24 rfl (lv_at hl 2 rfl) ?_
        refine lv_aload_n hx hb dX1_remove_25 rfl (lv_at hl 0 rfl) ?_
        refine va_get (D := D) (C := RX1) (T := TX1) (N := 10) (ci := 1) (v := .ref (d 1)) hx hb hts iw_X1_remove_1 hown hK hP 0 rfl rfl 1 (by decide) (hts _ fl_X1_remove_9) (fun _ h9 => h9) rfl dX1_remove_26 ?_
        refine lv_iload_n hx hb dX1_remove_29 rfl (lv_at hl 2 rfl) ?_
        refine r_const hx hb dX1_remove_30 ?_
        refine r_add hx hb dX1_remove_31 ?_
        refine r_ald hx hb hK hP 1 rfl rfl ⟨by omega, by omega, by omega⟩ dX1_remove_32 ?_
        refine r_ast hx hb hK hP hD hS 1 rfl rfl ⟨by omega, by omega, by omega⟩ dX1_remove_33 (fun H locs hP hD hS => ?_)
        replace hP : va_P D vwCl [oD d (lt - 1) mn vs, ai (cy 0) (d 1) 24 (ud B1 j (B1 (j + 1))), ai (cy 0) (d 2) 24 B2, ai (cy 0) (d 3) 24 B3, ai (cy 0) (d 4) 10 od, ai (cy 0) (d 5) 10 pl, ai (cy 0) (d 6) 4 rm, ai (cy 0) (d 7) 10 cd] H := hP
        replace hD : va_D A [oD d (lt - 1) mn vs, ai (cy 0) (d 1) 24 (ud B1 j (B1 (j + 1))), ai (cy 0) (d 2) 24 B2, ai (cy 0) (d 3) 24 B3, ai (cy 0) (d 4) 10 od, ai (cy 0) (d 5) 10 pl, ai (cy 0) (d 6) 4 rm, ai (cy 0) (d 7) 10 cd] := hD
        refine lv_aload_n hx hb dX1_remove_34 rfl (lv_at hl 0 rfl) ?_
        refine va_get (D := D) (C := RX1) (T := TX1) (N := 10) (ci := 1) (v := .ref (d 2)) hx hb hts iw_X1_remove_1 hown hK hP 0 rfl rfl 2 (by decide) (hts _ fl_X1_remove_15) (fun _ h9 => h9) rfl dX1_remove_35 ?_
        refine lv_iload_n hx hb dX1_remove_38 rfl (lv_at hl 2 rfl) ?_
        refine lv_aload_n hx hb dX1_remove_39 rfl (lv_at hl 0 rfl) ?_
        refine va_get (D := D) (C := RX1) (T := TX1) (N := 10) (ci := 1) (v := .ref (d 2)) hx hb hts iw_X1_remove_1 hown hK hP 0 rfl rfl 2 (by decide) (hts _ fl_X1_remove_15) (fun _ h9 => h9) rfl dX1_remove_40 ?_
        refine lv_iload_n hx hb dX1_remove_43 rfl (lv_at hl 2 rfl) ?_
        refine r_const hx hb dX1_remove_44 ?_
        refine r_add hx hb dX1_remove_45 ?_
        refine r_ald hx hb hK hP 2 rfl rfl ⟨by omega, by omega, by omega⟩ dX1_remove_46 ?_
        refine r_ast hx hb hK hP hD hS 2 rfl rfl ⟨by omega, by omega, by omega⟩ dX1_remove_47 (fun H locs hP hD hS => ?_)
        replace hP : va_P D vwCl [oD d (lt - 1) mn vs, ai (cy 0) (d 1) 24 (ud B1 j (B1 (j + 1))), ai (cy 0) (d 2) 24 (ud B2 j (B2 (j + 1))), ai (cy 0) (d 3) 24 B3, ai (cy 0) (d 4) 10 od, ai (cy 0) (d 5) 10 pl, ai (cy 0) (d 6) 4 rm, ai (cy 0) (d 7) 10 cd] H := hP
        replace hD : va_D A [oD d (lt - 1) mn vs, ai (cy 0) (d 1) 24 (ud B1 j (B1 (j + 1))), ai (cy 0) (d 2) 24 (ud B2 j (B2 (j + 1))), ai (cy 0) (d 3) 24 B3, ai (cy 0) (d 4) 10 od, ai (cy 0) (d 5) 10 pl, ai (cy 0) (d 6) 4 rm, ai (cy 0) (d 7) 10 cd] := hD
        refine lv_aload_n hx hb dX1_remove_48 rfl (lv_at hl 0 rfl) ?_
        refine va_get (D := D) (C := RX1) (T := TX1) (N := 10) (ci := 1) (v := .ref (d 3)) hx hb hts iw_X1_remove_1 hown hK hP 0 rfl rfl 3 (by decide) (hts _ fl_X1_remove_18) (fun _ h9 => h9) rfl dX1_remove_49 ?_
        refine lv_iload_n hx hb dX1_remove_52 rfl (lv_at hl 2 rfl) ?_
        refine lv_aload_n hx hb dX1_remove_53 rfl (lv_at hl 0 rfl) ?_
        refine va_get (D := D) (C := RX1) (T := TX1) (N := 10) (ci := 1) (v := .ref (d 3)) hx hb hts iw_X1_remove_1 hown hK hP 0 rfl rfl 3 (by decide) (hts _ fl_X1_remove_18) (fun _ h9 => h9) rfl dX1_remove_54 ?_
        refine lv_iload_n hx hb dX1_remove_57 rfl (lv_at hl 2 rfl) ?_
        refine r_const hx hb dX1_remove_58 ?_
        refine r_add hx hb dX1_remove_59 ?_
        refine r_ald hx hb hK hP 3 rfl rfl ⟨by omega, by omega, by omega⟩ dX1_remove_60 ?_
        refine r_ast hx hb hK hP hD hS 3 rfl rfl ⟨by omega, by omega, by omega⟩ dX1_remove_61 (fun H locs hP hD hS => ?_)
        replace hP : va_P D vwCl [oD d (lt - 1) mn vs, ai (cy 0) (d 1) 24 (ud B1 j (B1 (j + 1))), ai (cy 0) (d 2) 24 (ud B2 j (B2 (j + 1))), ai (cy 0) (d 3) 24 (ud B3 j (B3 (j + 1))), ai (cy 0) (d 4) 10 od, ai (cy 0) (d 5) 10 pl, ai (cy 0) (d 6) 4 rm, ai (cy 0) (d 7) 10 cd] H := hP
        replace hD : va_D A [oD d (lt - 1) mn vs, ai (cy 0) (d 1) 24 (ud B1 j (B1 (j + 1))), ai (cy 0) (d 2) 24 (ud B2 j (B2 (j + 1))), ai (cy 0) (d 3) 24 (ud B3 j (B3 (j + 1))), ai (cy 0) (d 4) 10 od, ai (cy 0) (d 5) 10 pl, ai (cy 0) (d 6) 4 rm, ai (cy 0) (d 7) 10 cd] := hD
        refine r_inc (k := 2) (lv' := [(2, .int (iI (j + 1))), (0, .ref (d 0)), (1, .int (iI i))]) hx hb dX1_remove_62 hl rfl (by decide) rfl (fun ls hl => ?_)
        refine lv_goto (tgt := 12) hx hb dX1_remove_65 (by decide) ?_
        exact ih_12 (j + 1) (ud B1 j (B1 (j + 1))) (ud B2 j (B2 (j + 1))) (ud B3 j (B3 (j + 1))) (by omega) (by rw [e1, shf_at (F := pt) (a := i) (n := j) (j := j + 1) (by omega), shf_s h1.1]) (by rw [e2, shf_at (F := tk) (a := i) (n := j) (j := j + 1) (by omega), shf_s h1.1]) (by rw [e3, shf_at (F := mr) (a := i) (n := j) (j := j + 1) (by omega), shf_s h1.1]) (by omega) H locs (pick_P hP (is := [0, 1, 2, 3, 4, 5, 6, 7]) rfl) (hD.sub [0, 1, 2, 3, 4, 5, 6, 7] (by decide) rfl) hS ls (lv_sub hl [1, 2, 0] rfl)
  exact lp_12 _ i pt tk mr (by omega) ((shf_0 _ _).symm) ((shf_0 _ _).symm) ((shf_0 _ _).symm) (Nat.lt_succ_self _) H locs (pick_P hP (is := [0, 1, 2, 3, 4, 5, 6, 7]) rfl) (hD.sub [0, 1, 2, 3, 4, 5, 6, 7] (by decide) rfl) hS ls (lv_sub hl [1, 2, 0] rfl)
abbrev rm_X1_swap : Room := { frames := 0, cells := 0, slots := 0, locals := 0 }
theorem fl_X1_swap_21 : Cond.fieldLink RX1 21 "WalkPasses$Desk" "order" "[I" ∈ wsX1_swap := by decide +kernel
theorem fl_X1_swap_24 : Cond.fieldLink RX1 24 "WalkPasses$Desk" "places" "[I" ∈ wsX1_swap := by decide +kernel
theorem fl_X1_swap_46 : Cond.fieldLink RX1 46 "WalkPasses$Desk" "version" "I" ∈ wsX1_swap := by decide +kernel
theorem iw_X1_swap_1 : ∀ w ∈ u_ws RX1 TX1 10, w ∈ wsX1_swap := by decide +kernel
set_option maxHeartbeats 4000000 in
set_option maxRecDepth 100000 in
theorem k_X1_swap (l : Launch) (D : va_G) (cy : Nat → ClassId) (d : Nat → Nat) (z : Nat) (lt mn vs : Int) (pt tk mr od pl rm cd : Int → Int) (qa qb : Int) (hI : DI lt mn pt tk mr od pl rm cd) (ha : 0 ≤ qa ∧ qa ≤ 9) (hb9 : 0 ≤ qb ∧ qb ≤ 9) : CtV l yX1_swap wsX1_swap rm_X1_swap D (tyL cy) [.ref (d 0), .int (iI qa), .int (iI qb)] [oD d lt mn vs, ai (cy 0) (d 1) 24 pt, ai (cy 0) (d 2) 24 tk, ai (cy 0) (d 3) 24 mr, ai (cy 0) (d 4) 10 od, ai (cy 0) (d 5) 10 pl, ai (cy 0) (d 6) 4 rm, ai (cy 0) (d 7) 10 cd] z (fun (u : Unit) => True) (fun (u : Unit) => [oD d lt mn (vs + 1), ai (cy 0) (d 1) 24 pt, ai (cy 0) (d 2) 24 tk, ai (cy 0) (d 3) 24 mr, ai (cy 0) (d 4) 10 (ud (ud od ((ud (ud pl qa (pl qb)) qb (pl qa)) qa) qa) ((ud (ud pl qa (pl qb)) qb (pl qa)) qb) qb), ai (cy 0) (d 5) 10 (ud (ud pl qa (pl qb)) qb (pl qa)), ai (cy 0) (d 6) 4 rm, ai (cy 0) (d 7) 10 cd]) 0 0 := by
  refine ct_v (cc := cX1_swap) (maxL := 4) (by decide) rfl (Nat.le_of_ble_eq_true rfl) ?_
  intro p e s m args below meth c A Q H locs ls hx hb hml hown hin hts hK hN hP hD hS hA hl hret
  replace hl : lv_has ls 4 [(0, .ref (d 0)), (1, .int (iI qa)), (2, .int (iI qb))] := hl
  replace hown : s.vm.findClass RX1 = some m.cls := hown
  obtain ⟨⟨⟨hlt0, hlt1⟩, hmn0, hmn1⟩, ⟨hpt, htk, hmr⟩, ⟨hod, hpl, hpo, hop⟩, hrm, hcd⟩ := id hI
  have hq := ud_b (a := qb) (v := pl qa) (ud_b (a := qa) (v := pl qb) hpl (hpl qb).1 (hpl qb).2) (hpl qa).1 (hpl qa).2
  have hqa := hq qa
  have hqb := hq qb
  refine lv_aload_n hx hb dX1_swap_0 rfl (lv_at hl 0 rfl) ?_
  refine va_get (D := D) (C := RX1) (T := TX1) (N := 10) (ci := 1) (v := .ref (d 5)) hx hb hts iw_X1_swap_1 hown hK hP 0 rfl rfl 5 (by decide) (hts _ fl_X1_swap_24) (fun _ h9 => h9) rfl dX1_swap_1 ?_
  refine lv_iload_n hx hb dX1_swap_4 rfl (lv_at hl 1 rfl) ?_
  refine r_ald hx hb hK hP 5 rfl rfl ⟨by omega, by omega, by omega⟩ dX1_swap_5 ?_
  have b_5 := hpl qa
  refine lv_istore_n (lv' := [(3, .int (iI (pl qa))), (0, .ref (d 0)), (1, .int (iI qa)), (2, .int (iI qb))]) hx hb dX1_swap_6 rfl hl (by decide) rfl (fun ls hl => ?_)
  refine lv_aload_n hx hb dX1_swap_7 rfl (lv_at hl 1 rfl) ?_
  refine va_get (D := D) (C := RX1) (T := TX1) (N := 10) (ci := 1) (v := .ref (d 5)) hx hb hts iw_X1_swap_1 hown hK hP 0 rfl rfl 5 (by decide) (hts _ fl_X1_swap_24) (fun _ h9 => h9) rfl dX1_swap_8 ?_
  refine lv_iload_n hx hb dX1_swap_11 rfl (lv_at hl 2 rfl) ?_
  refine lv_aload_n hx hb dX1_swap_12 rfl (lv_at hl 1 rfl) ?_
  refine va_get (D := D) (C := RX1) (T := TX1) (N := 10) (ci := 1) (v := .ref (d 5)) hx hb hts iw_X1_swap_1 hown hK hP 0 rfl rfl 5 (by decide) (hts _ fl_X1_swap_24) (fun _ h9 => h9) rfl dX1_swap_13 ?_
  refine lv_iload_n hx hb dX1_swap_16 rfl (lv_at hl 3 rfl) ?_
  refine r_ald hx hb hK hP 5 rfl rfl ⟨by omega, by omega, by omega⟩ dX1_swap_17 ?_
  have b_17 := hpl qb
  refine r_ast hx hb hK hP hD hS 5 rfl rfl ⟨by omega, by omega, by omega⟩ dX1_swap_18 (fun H locs hP hD hS => ?_)
  replace hP : va_P D vwCl [oD d lt mn vs, ai (cy 0) (d 1) 24 pt, ai (cy 0) (d 2) 24 tk, ai (cy 0) (d 3) 24 mr, ai (cy 0) (d 4) 10 od, ai (cy 0) (d 5) 10 (ud pl qa (pl qb)), ai (cy 0) (d 6) 4 rm, ai (cy 0) (d 7) 10 cd] H := hP
  replace hD : va_D A [oD d lt mn vs, ai (cy 0) (d 1) 24 pt, ai (cy 0) (d 2) 24 tk, ai (cy 0) (d 3) 24 mr, ai (cy 0) (d 4) 10 od, ai (cy 0) (d 5) 10 (ud pl qa (pl qb)), ai (cy 0) (d 6) 4 rm, ai (cy 0) (d 7) 10 cd] := hD
  refine lv_aload_n hx hb dX1_swap_19 rfl (lv_at hl 1 rfl) ?_
  refine va_get (D := D) (C := RX1) (T := TX1) (N := 10) (ci := 1) (v := .ref (d 5)) hx hb hts iw_X1_swap_1 hown hK hP 0 rfl rfl 5 (by decide) (hts _ fl_X1_swap_24) (fun _ h9 => h9) rfl dX1_swap_20 ?_
  refine lv_iload_n hx hb dX1_swap_23 rfl (lv_at hl 3 rfl) ?_
  refine lv_iload_n hx hb dX1_swap_24 rfl (lv_at hl 0 rfl) ?_
  refine r_ast hx hb hK hP hD hS 5 rfl rfl ⟨by omega, by omega, by omega⟩ dX1_swap_25 (fun H locs hP hD hS => ?_)
  replace hP : va_P D vwCl [oD d lt mn vs, ai (cy 0) (d 1) 24 pt, ai (cy 0) (d 2) 24 tk, ai (cy 0) (d 3) 24 mr, ai (cy 0) (d 4) 10 od, ai (cy 0) (d 5) 10 (ud (ud pl qa (pl qb)) qb (pl qa)), ai (cy 0) (d 6) 4 rm, ai (cy 0) (d 7) 10 cd] H := hP
  replace hD : va_D A [oD d lt mn vs, ai (cy 0) (d 1) 24 pt, ai (cy 0) (d 2) 24 tk, ai (cy 0) (d 3) 24 mr, ai (cy 0) (d 4) 10 od, ai (cy 0) (d 5) 10 (ud (ud pl qa (pl qb)) qb (pl qa)), ai (cy 0) (d 6) 4 rm, ai (cy 0) (d 7) 10 cd] := hD
  refine lv_aload_n hx hb dX1_swap_26 rfl (lv_at hl 1 rfl) ?_
  refine va_get (D := D) (C := RX1) (T := TX1) (N := 10) (ci := 1) (v := .ref (d 4)) hx hb hts iw_X1_swap_1 hown hK hP 0 rfl rfl 4 (by decide) (hts _ fl_X1_swap_21) (fun _ h9 => h9) rfl dX1_swap_27 ?_
  refine lv_aload_n hx hb dX1_swap_30 rfl (lv_at hl 1 rfl) ?_
  refine va_get (D := D) (C := RX1) (T := TX1) (N := 10) (ci := 1) (v := .ref (d 5)) hx hb hts iw_X1_swap_1 hown hK hP 0 rfl rfl 5 (by decide) (hts _ fl_X1_swap_24) (fun _ h9 => h9) rfl dX1_swap_31 ?_
  refine lv_iload_n hx hb dX1_swap_34 rfl (lv_at hl 2 rfl) ?_
  refine r_ald hx hb hK hP 5 rfl rfl ⟨by omega, by omega, by omega⟩ dX1_swap_35 ?_
  refine lv_iload_n hx hb dX1_swap_36 rfl (lv_at hl 2 rfl) ?_
  refine r_ast hx hb hK hP hD hS 4 rfl rfl ⟨by omega, by omega, by omega⟩ dX1_swap_37 (fun H locs hP hD hS => ?_)
  replace hP : va_P D vwCl [oD d lt mn vs, ai (cy 0) (d 1) 24 pt, ai (cy 0) (d 2) 24 tk, ai (cy 0) (d 3) 24 mr, ai (cy 0) (d 4) 10 (ud od ((ud (ud pl qa (pl qb)) qb (pl qa)) qa) qa), ai (cy 0) (d 5) 10 (ud (ud pl qa (pl qb)) qb (pl qa)), ai (cy 0) (d 6) 4 rm, ai (cy 0) (d 7) 10 cd] H := hP
  replace hD : va_D A [oD d lt mn vs, ai (cy 0) (d 1) 24 pt, ai (cy 0) (d 2) 24 tk, ai (cy 0) (d 3) 24 mr, ai (cy 0) (d 4) 10 (ud od ((ud (ud pl qa (pl qb)) qb (pl qa)) qa) qa), ai (cy 0) (d 5) 10 (ud (ud pl qa (pl qb)) qb (pl qa)), ai (cy 0) (d 6) 4 rm, ai (cy 0) (d 7) 10 cd] := hD
  refine lv_aload_n hx hb dX1_swap_38 rfl (lv_at hl 1 rfl) ?_
  refine va_get (D := D) (C := RX1) (T := TX1) (N := 10) (ci := 1) (v := .ref (d 4)) hx hb hts iw_X1_swap_1 hown hK hP 0 rfl rfl 4 (by decide) (hts _ fl_X1_swap_21) (fun _ h9 => h9) rfl dX1_swap_39 ?_
  refine lv_aload_n hx hb dX1_swap_42 rfl (lv_at hl 1 rfl) ?_
  refine va_get (D := D) (C := RX1) (T := TX1) (N := 10) (ci := 1) (v := .ref (d 5)) hx hb hts iw_X1_swap_1 hown hK hP 0 rfl rfl 5 (by decide) (hts _ fl_X1_swap_24) (fun _ h9 => h9) rfl dX1_swap_43 ?_
  refine lv_iload_n hx hb dX1_swap_46 rfl (lv_at hl 3 rfl) ?_
  refine r_ald hx hb hK hP 5 rfl rfl ⟨by omega, by omega, by omega⟩ dX1_swap_47 ?_
  refine lv_iload_n hx hb dX1_swap_48 rfl (lv_at hl 3 rfl) ?_
  refine r_ast hx hb hK hP hD hS 4 rfl rfl ⟨by omega, by omega, by omega⟩ dX1_swap_49 (fun H locs hP hD hS => ?_)
  replace hP : va_P D vwCl [oD d lt mn vs, ai (cy 0) (d 1) 24 pt, ai (cy 0) (d 2) 24 tk, ai (cy 0) (d 3) 24 mr, ai (cy 0) (d 4) 10 (ud (ud od ((ud (ud pl qa (pl qb)) qb (pl qa)) qa) qa) ((ud (ud pl qa (pl qb)) qb (pl qa)) qb) qb), ai (cy 0) (d 5) 10 (ud (ud pl qa (pl qb)) qb (pl qa)), ai (cy 0) (d 6) 4 rm, ai (cy 0) (d 7) 10 cd] H := hP
  replace hD : va_D A [oD d lt mn vs, ai (cy 0) (d 1) 24 pt, ai (cy 0) (d 2) 24 tk, ai (cy 0) (d 3) 24 mr, ai (cy 0) (d 4) 10 (ud (ud od ((ud (ud pl qa (pl qb)) qb (pl qa)) qa) qa) ((ud (ud pl qa (pl qb)) qb (pl qa)) qb) qb), ai (cy 0) (d 5) 10 (ud (ud pl qa (pl qb)) qb (pl qa)), ai (cy 0) (d 6) 4 rm, ai (cy 0) (d 7) 10 cd] := hD
  refine lv_aload_n hx hb dX1_swap_50 rfl (lv_at hl 1 rfl) ?_
  refine lv_dup hx hb dX1_swap_51 rfl ?_
  refine va_get (D := D) (C := RX1) (T := TX1) (N := 10) (ci := 1) (v := .int (iI vs)) hx hb hts iw_X1_swap_1 hown hK hP 0 rfl rfl 9 (by decide) (hts _ fl_X1_swap_46) (fun _ h9 => h9) rfl dX1_swap_52 ?_
  refine r_const hx hb dX1_swap_55 ?_
  refine r_add hx hb dX1_swap_56 ?_
  refine va_put (D := D) (C := RX1) (T := TX1) (N := 10) (ci := 1) (v := .int (iI (vs + 1))) (ty := .int) hx hb hts iw_X1_swap_1 tyX1 tyX1_ok nmX1 hown hK hP hD hS 0 rfl rfl 9 (by decide) (hts _ fl_X1_swap_46) (fun _ h9 => h9) rfl (by decide +kernel) rfl rfl (Nat.le_of_ble_eq_true rfl) dX1_swap_57 (fun H locs hP hD hS => ?_)
  replace hP : va_P D vwCl [oD d lt mn (vs + 1), ai (cy 0) (d 1) 24 pt, ai (cy 0) (d 2) 24 tk, ai (cy 0) (d 3) 24 mr, ai (cy 0) (d 4) 10 (ud (ud od ((ud (ud pl qa (pl qb)) qb (pl qa)) qa) qa) ((ud (ud pl qa (pl qb)) qb (pl qa)) qb) qb), ai (cy 0) (d 5) 10 (ud (ud pl qa (pl qb)) qb (pl qa)), ai (cy 0) (d 6) 4 rm, ai (cy 0) (d 7) 10 cd] H := hP
  replace hD : va_D A [oD d lt mn (vs + 1), ai (cy 0) (d 1) 24 pt, ai (cy 0) (d 2) 24 tk, ai (cy 0) (d 3) 24 mr, ai (cy 0) (d 4) 10 (ud (ud od ((ud (ud pl qa (pl qb)) qb (pl qa)) qa) qa) ((ud (ud pl qa (pl qb)) qb (pl qa)) qb) qb), ai (cy 0) (d 5) 10 (ud (ud pl qa (pl qb)) qb (pl qa)), ai (cy 0) (d 6) 4 rm, ai (cy 0) (d 7) 10 cd] := hD
  exact hret [0, 1, 2, 3, 4, 5, 6, 7] () dX1_swap_60 hP hD hS (by decide) rfl (by trivial)
abbrev rm_X1_codeDensely : Room := { frames := 1, cells := 0, slots := 0, locals := 22 }
theorem fl_X1_codeDensely_21 : Cond.fieldLink RX1 21 "WalkPasses$Desk" "order" "[I" ∈ wsX1_codeDensely := by decide +kernel
theorem fl_X1_codeDensely_34 : Cond.fieldLink RX1 34 "WalkPasses$Desk" "codes" "[I" ∈ wsX1_codeDensely := by decide +kernel
theorem iw_X1_codeDensely_1 : ∀ w ∈ u_ws RX1 TX1 10, w ∈ wsX1_codeDensely := by decide +kernel
set_option maxHeartbeats 4000000 in
set_option maxRecDepth 100000 in
theorem k_X1_codeDensely (l : Launch) (D : va_G) (cy : Nat → ClassId) (d : Nat → Nat) (z : Nat) (lt mn vs : Int) (pt tk mr od pl rm cd : Int → Int) (hI : DI lt mn pt tk mr od pl rm cd) : CtI l yX1_codeDensely wsX1_codeDensely rm_X1_codeDensely D (tyL cy) [.ref (d 0)] [oD d lt mn vs, ai (cy 0) (d 1) 24 pt, ai (cy 0) (d 2) 24 tk, ai (cy 0) (d 3) 24 mr, ai (cy 0) (d 4) 10 od, ai (cy 0) (d 5) 10 pl, ai (cy 0) (d 6) 4 rm, ai (cy 0) (d 7) 10 cd] z (fun (r : Int) (u : Unit) => r = denN (hasI pt lt) od 10) (fun (u : Unit) => [oD d lt mn vs, ai (cy 0) (d 1) 24 pt, ai (cy 0) (d 2) 24 tk, ai (cy 0) (d 3) 24 mr, ai (cy 0) (d 4) 10 od, ai (cy 0) (d 5) 10 pl, ai (cy 0) (d 6) 4 rm, ai (cy 0) (d 7) 10 (denC (hasI pt lt) od cd 10)]) 0 0 := by
  refine ct_i (cc := cX1_codeDensely) (maxL := 4) (by decide) rfl (Nat.le_of_ble_eq_true rfl) ?_
  intro p e s m args below meth c A Q H locs ls hx hb hml hown hin hts hK hN hP hD hS hA hl hret
  replace hl : lv_has ls 4 [(0, .ref (d 0))] := hl
  replace hown : s.vm.findClass RX1 = some m.cls := hown
  obtain ⟨⟨⟨hlt0, hlt1⟩, hmn0, hmn1⟩, ⟨hpt, htk, hmr⟩, ⟨hod, hpl, hpo, hop⟩, hrm, hcd⟩ := id hI
  refine r_const hx hb dX1_codeDensely_0 ?_
  refine lv_istore_n (lv' := [(1, .int (iI 0)), (0, .ref (d 0))]) hx hb dX1_codeDensely_1 rfl hl (by decide) rfl (fun ls hl => ?_)
  refine r_const hx hb dX1_codeDensely_2 ?_
  refine lv_istore_n (lv' := [(2, .int (iI 0)), (1, .int (iI 0)), (0, .ref (d 0))]) hx hb dX1_codeDensely_3 rfl hl (by decide) rfl (fun ls hl => ?_)
  have lp_4 : ∀ (fu : Nat) (x : Int) (i : Int) (B : Int → Int), (0 ≤ i ∧ i ≤ 10) → (x = denN (hasI pt lt) od i.toNat) → (B = denC (hasI pt lt) od cd i.toNat) → (10 - i).toNat < fu → ∀ (H : Heap) (locs : List Loc), va_P D vwCl [oD d lt mn vs, ai (cy 0) (d 1) 24 pt, ai (cy 0) (d 2) 24 tk, ai (cy 0) (d 3) 24 mr, ai (cy 0) (d 4) 10 od, ai (cy 0) (d 5) 10 pl, ai (cy 0) (d 6) 4 rm, ai (cy 0) (d 7) 10 B] H → va_D A [oD d lt mn vs, ai (cy 0) (d 1) 24 pt, ai (cy 0) (d 2) 24 tk, ai (cy 0) (d 3) 24 mr, ai (cy 0) (d 4) 10 od, ai (cy 0) (d 5) 10 pl, ai (cy 0) (d 6) 4 rm, ai (cy 0) (d 7) 10 B] → va_S A s.heap H locs → ∀ (ls : Array Slot), lv_has ls 4 [(0, .ref (d 0)), (1, .int (iI x)), (2, .int (iI i))] → W p l e rm_X1_codeDensely s m args below meth c H locs 0 0 Q (F0 m 4 ls []) := by
    intro fu
    induction fu with
    | zero =>
      intro x i B h1 h2 h3 hm
      exact absurd hm (Nat.not_lt_zero _)
    | succ fu ih_4 =>
      intro x i B h1 h2 h3 hm H locs hP hD hS ls hl
      have hx0 := denN_b (hasI pt lt) od i.toNat
      refine lv_iload_n hx hb dX1_codeDensely_4 rfl (lv_at hl 2 rfl) ?_
      refine r_bip hx hb (10) dX1_codeDensely_5 (by decide) ?_
      refine r_ge hx hb 41 dX1_codeDensely_7 (by decide) ⟨by omega, by omega⟩ ⟨by omega, by omega⟩ (fun c_7 => ?_) (fun c_7 => ?_)
      ·
        refine lv_iload_n hx hb dX1_codeDensely_41 rfl (lv_at hl 1 rfl) ?_
        obtain rfl : i = 10 := by omega
        subst h3
        exact hret [0, 1, 2, 3, 4, 5, 6, 7] () dX1_codeDensely_42 hP hD hS (by decide) rfl (h2)
      ·
        refine lv_aload_n hx hb dX1_codeDensely_10 rfl (lv_at hl 0 rfl) ?_
        refine va_get (D := D) (C := RX1) (T := TX1) (N := 10) (ci := 1) (v := .ref (d 4)) hx hb hts iw_X1_codeDensely_1 hown hK hP 0 rfl rfl 4 (by decide) (hts _ fl_X1_codeDensely_21) (fun _ h9 => h9) rfl dX1_codeDensely_11 ?_
        refine lv_iload_n hx hb dX1_codeDensely_14 rfl (lv_at hl 2 rfl) ?_
        refine r_ald hx hb hK hP 4 rfl rfl ⟨by omega, by omega, by omega⟩ dX1_codeDensely_15 ?_
        have b_15 := hod i
        refine lv_istore_n (lv' := [(3, .int (iI (od i))), (0, .ref (d 0)), (1, .int (iI x)), (2, .int (iI i))]) hx hb dX1_codeDensely_16 rfl hl (by decide) rfl (fun ls hl => ?_)
        refine lv_aload_n hx hb dX1_codeDensely_17 rfl (lv_at hl 1 rfl) ?_
        refine lv_iload_n hx hb dX1_codeDensely_18 rfl (lv_at hl 0 rfl) ?_
        have M_19 := k_X1_hasLetterAt l D cy d H.size lt mn vs pt tk mr od pl rm B (od i) (⟨⟨hlt0, hlt1⟩, hpt⟩) (⟨by omega, by omega⟩)
        refine kV_i (wr := []) (As := [.int (iI (od i))]) (rest := []) (q := (RX1, TX1, 10)) (ci := 1) ⟨hx, hb, hml, hown, hts⟩ M_19 0 rfl rfl (cwV 1 hts gX1_codeDensely_X1_hasLetterAt rfl rfl rfl (by decide +kernel) ⟨Nat.le_of_ble_eq_true rfl, Nat.le_of_ble_eq_true rfl⟩) hN hK hP hD hS hA [0, 1, 2, 3, 4, 5, 6, 7] [] rfl rfl (by decide) (by decide) (by decide) rfl hl.1 rfl (Nat.le_of_ble_eq_true rfl) dX1_codeDensely_19 ⟨Nat.le_of_ble_eq_true rfl, Nat.le_of_ble_eq_true rfl⟩ (fun r_19 u_19 H locs hw_19 hP hD hS => ?_)
        replace hP : va_P D vwCl [oD d lt mn vs, ai (cy 0) (d 1) 24 pt, ai (cy 0) (d 2) 24 tk, ai (cy 0) (d 3) 24 mr, ai (cy 0) (d 4) 10 od, ai (cy 0) (d 5) 10 pl, ai (cy 0) (d 6) 4 rm, ai (cy 0) (d 7) 10 B] H := hP
        replace hD : va_D A [oD d lt mn vs, ai (cy 0) (d 1) 24 pt, ai (cy 0) (d 2) 24 tk, ai (cy 0) (d 3) 24 mr, ai (cy 0) (d 4) 10 od, ai (cy 0) (d 5) 10 pl, ai (cy 0) (d 6) 4 rm, ai (cy 0) (d 7) 10 B] := hD
        have hb0 := hasI_b pt lt (od i)
        refine r_eq0 hx hb 35 dX1_codeDensely_22 (by decide) ⟨by omega, by omega⟩ (fun c_22 => ?_) (fun c_22 => ?_)
        ·
          refine r_inc (k := 3) (lv' := [(2, .int (iI (i + 1))), (3, .int (iI (od i))), (0, .ref (d 0)), (1, .int (iI x))]) hx hb dX1_codeDensely_35 hl rfl (by decide) rfl (fun ls hl => ?_)
          refine lv_goto (tgt := 4) hx hb dX1_codeDensely_38 (by decide) ?_
          have hb1 := hasI_b pt lt (od i)
          exact ih_4 x (i + 1) B (by omega) (by rw [denN_s h1.1]; split <;> omega) (by rw [denC_s h1.1]; split <;> first | (rw [h3, h2]; done) | (exact h3) | omega) (by omega) H locs (pick_P hP (is := [0, 1, 2, 3, 4, 5, 6, 7]) rfl) (hD.sub [0, 1, 2, 3, 4, 5, 6, 7] (by decide) rfl) hS ls (lv_sub hl [2, 3, 0] rfl)
        ·
          refine lv_aload_n hx hb dX1_codeDensely_25 rfl (lv_at hl 1 rfl) ?_
          refine va_get (D := D) (C := RX1) (T := TX1) (N := 10) (ci := 1) (v := .ref (d 7)) hx hb hts iw_X1_codeDensely_1 hown hK hP 0 rfl rfl 8 (by decide) (hts _ fl_X1_codeDensely_34) (fun _ h9 => h9) rfl dX1_codeDensely_26 ?_
          refine lv_iload_n hx hb dX1_codeDensely_29 rfl (lv_at hl 0 rfl) ?_
          refine lv_iload_n hx hb dX1_codeDensely_30 rfl (lv_at hl 2 rfl) ?_
          refine r_ast hx hb hK hP hD hS 7 rfl rfl ⟨by omega, by omega, by omega⟩ dX1_codeDensely_31 (fun H locs hP hD hS => ?_)
          replace hP : va_P D vwCl [oD d lt mn vs, ai (cy 0) (d 1) 24 pt, ai (cy 0) (d 2) 24 tk, ai (cy 0) (d 3) 24 mr, ai (cy 0) (d 4) 10 od, ai (cy 0) (d 5) 10 pl, ai (cy 0) (d 6) 4 rm, ai (cy 0) (d 7) 10 (ud B (od i) x)] H := hP
          replace hD : va_D A [oD d lt mn vs, ai (cy 0) (d 1) 24 pt, ai (cy 0) (d 2) 24 tk, ai (cy 0) (d 3) 24 mr, ai (cy 0) (d 4) 10 od, ai (cy 0) (d 5) 10 pl, ai (cy 0) (d 6) 4 rm, ai (cy 0) (d 7) 10 (ud B (od i) x)] := hD
          refine r_inc (k := 2) (lv' := [(1, .int (iI (x + 1))), (3, .int (iI (od i))), (0, .ref (d 0)), (2, .int (iI i))]) hx hb dX1_codeDensely_32 hl rfl (by decide) rfl (fun ls hl => ?_)
          refine r_inc (k := 3) (lv' := [(2, .int (iI (i + 1))), (1, .int (iI (x + 1))), (3, .int (iI (od i))), (0, .ref (d 0))]) hx hb dX1_codeDensely_35 hl rfl (by decide) rfl (fun ls hl => ?_)
          refine lv_goto (tgt := 4) hx hb dX1_codeDensely_38 (by decide) ?_
          have hb1 := hasI_b pt lt (od i)
          exact ih_4 (x + 1) (i + 1) (ud B (od i) x) (by omega) (by rw [denN_s h1.1]; split <;> omega) (by rw [denC_s h1.1]; split <;> first | (rw [h3, h2]; done) | (exact h3) | omega) (by omega) H locs (pick_P hP (is := [0, 1, 2, 3, 4, 5, 6, 7]) rfl) (hD.sub [0, 1, 2, 3, 4, 5, 6, 7] (by decide) rfl) hS ls (lv_sub hl [3, 1, 0] rfl)
  exact lp_4 _ 0 0 cd (by omega) (rfl) (rfl) (Nat.lt_succ_self _) H locs (pick_P hP (is := [0, 1, 2, 3, 4, 5, 6, 7]) rfl) (hD.sub [0, 1, 2, 3, 4, 5, 6, 7] (by decide) rfl) hS ls (lv_sub hl [2, 1, 0] rfl)
abbrev rm_X1_codesRise : Room := { frames := 1, cells := 0, slots := 0, locals := 22 }
theorem fl_X1_codesRise_21 : Cond.fieldLink RX1 21 "WalkPasses$Desk" "order" "[I" ∈ wsX1_codesRise := by decide +kernel
theorem fl_X1_codesRise_34 : Cond.fieldLink RX1 34 "WalkPasses$Desk" "codes" "[I" ∈ wsX1_codesRise := by decide +kernel
theorem iw_X1_codesRise_1 : ∀ w ∈ u_ws RX1 TX1 10, w ∈ wsX1_codesRise := by decide +kernel
set_option maxHeartbeats 4000000 in
set_option maxRecDepth 100000 in
theorem k_X1_codesRise (l : Launch) (D : va_G) (cy : Nat → ClassId) (d : Nat → Nat) (z : Nat) (lt mn vs : Int) (pt tk mr od pl rm cd : Int → Int) (hI : DI lt mn pt tk mr od pl rm cd) : CtI l yX1_codesRise wsX1_codesRise rm_X1_codesRise D (tyL cy) [.ref (d 0)] [oD d lt mn vs, ai (cy 0) (d 1) 24 pt, ai (cy 0) (d 2) 24 tk, ai (cy 0) (d 3) 24 mr, ai (cy 0) (d 4) 10 od, ai (cy 0) (d 5) 10 pl, ai (cy 0) (d 6) 4 rm, ai (cy 0) (d 7) 10 cd] z (fun (r : Int) (u : Unit) => r = rise (hasI pt lt) od cd 10 0 (-1)) (fun (u : Unit) => [oD d lt mn vs, ai (cy 0) (d 1) 24 pt, ai (cy 0) (d 2) 24 tk, ai (cy 0) (d 3) 24 mr, ai (cy 0) (d 4) 10 od, ai (cy 0) (d 5) 10 pl, ai (cy 0) (d 6) 4 rm, ai (cy 0) (d 7) 10 cd]) 0 0 := by
  refine ct_z (cc := cX1_codesRise) (maxL := 4) (by decide) rfl (Nat.le_of_ble_eq_true rfl) ?_
  intro p e s m args below meth c A Q H locs ls hx hb hml hown hin hts hK hN hP hD hS hA hl hret
  replace hl : lv_has ls 4 [(0, .ref (d 0))] := hl
  replace hown : s.vm.findClass RX1 = some m.cls := hown
  obtain ⟨⟨⟨hlt0, hlt1⟩, hmn0, hmn1⟩, ⟨hpt, htk, hmr⟩, ⟨hod, hpl, hpo, hop⟩, hrm, hcd⟩ := id hI
  refine r_const hx hb dX1_codesRise_0 ?_
  refine lv_istore_n (lv' := [(1, .int (iI (-1))), (0, .ref (d 0))]) hx hb dX1_codesRise_1 rfl hl (by decide) rfl (fun ls hl => ?_)
  refine r_const hx hb dX1_codesRise_2 ?_
  refine lv_istore_n (lv' := [(2, .int (iI 0)), (1, .int (iI (-1))), (0, .ref (d 0))]) hx hb dX1_codesRise_3 rfl hl (by decide) rfl (fun ls hl => ?_)
  have lp_4 : ∀ (fu : Nat) (x : Int) (i : Int), (0 ≤ i ∧ i ≤ 10) → (-1 ≤ x ∧ x ≤ 63) → (rise (hasI pt lt) od cd (10 - i).toNat i x = rise (hasI pt lt) od cd 10 0 (-1)) → (10 - i).toNat < fu → ∀ (H : Heap) (locs : List Loc), va_P D vwCl [oD d lt mn vs, ai (cy 0) (d 1) 24 pt, ai (cy 0) (d 2) 24 tk, ai (cy 0) (d 3) 24 mr, ai (cy 0) (d 4) 10 od, ai (cy 0) (d 5) 10 pl, ai (cy 0) (d 6) 4 rm, ai (cy 0) (d 7) 10 cd] H → va_D A [oD d lt mn vs, ai (cy 0) (d 1) 24 pt, ai (cy 0) (d 2) 24 tk, ai (cy 0) (d 3) 24 mr, ai (cy 0) (d 4) 10 od, ai (cy 0) (d 5) 10 pl, ai (cy 0) (d 6) 4 rm, ai (cy 0) (d 7) 10 cd] → va_S A s.heap H locs → ∀ (ls : Array Slot), lv_has ls 4 [(0, .ref (d 0)), (1, .int (iI x)), (2, .int (iI i))] → W p l e rm_X1_codesRise s m args below meth c H locs 0 0 Q (F0 m 4 ls []) := by
    intro fu
    induction fu with
    | zero =>
      intro x i h1 h3 h2 hm
      exact absurd hm (Nat.not_lt_zero _)
    | succ fu ih_4 =>
      intro x i h1 h3 h2 hm H locs hP hD hS ls hl
      refine lv_iload_n hx hb dX1_codesRise_4 rfl (lv_at hl 2 rfl) ?_
      refine r_bip hx hb (10) dX1_codesRise_5 (by decide) ?_
      refine r_ge hx hb 50 dX1_codesRise_7 (by decide) ⟨by omega, by omega⟩ ⟨by omega, by omega⟩ (fun c_7 => ?_) (fun c_7 => ?_)
      ·
        refine r_const hx hb dX1_codesRise_50 ?_
        exact hret [0, 1, 2, 3, 4, 5, 6, 7] () dX1_codesRise_51 hP hD hS (by decide) rfl (by omega) (by rw [← h2, show (10 - i).toNat = 0 by omega]; rfl)
      ·
        refine lv_aload_n hx hb dX1_codesRise_10 rfl (lv_at hl 0 rfl) ?_
        refine va_get (D := D) (C := RX1) (T := TX1) (N := 10) (ci := 1) (v := .ref (d 4)) hx hb hts iw_X1_codesRise_1 hown hK hP 0 rfl rfl 4 (by decide) (hts _ fl_X1_codesRise_21) (fun _ h9 => h9) rfl dX1_codesRise_11 ?_
        refine lv_iload_n hx hb dX1_codesRise_14 rfl (lv_at hl 2 rfl) ?_
        refine r_ald hx hb hK hP 4 rfl rfl ⟨by omega, by omega, by omega⟩ dX1_codesRise_15 ?_
        have b_15 := hod i
        refine lv_istore_n (lv' := [(3, .int (iI (od i))), (0, .ref (d 0)), (1, .int (iI x)), (2, .int (iI i))]) hx hb dX1_codesRise_16 rfl hl (by decide) rfl (fun ls hl => ?_)
        refine lv_aload_n hx hb dX1_codesRise_17 rfl (lv_at hl 1 rfl) ?_
        refine lv_iload_n hx hb dX1_codesRise_18 rfl (lv_at hl 0 rfl) ?_
        have M_19 := k_X1_hasLetterAt l D cy d H.size lt mn vs pt tk mr od pl rm cd (od i) (⟨⟨hlt0, hlt1⟩, hpt⟩) (⟨by omega, by omega⟩)
        refine kV_i (wr := []) (As := [.int (iI (od i))]) (rest := []) (q := (RX1, TX1, 10)) (ci := 1) ⟨hx, hb, hml, hown, hts⟩ M_19 0 rfl rfl (cwV 1 hts gX1_codesRise_X1_hasLetterAt rfl rfl rfl (by decide +kernel) ⟨Nat.le_of_ble_eq_true rfl, Nat.le_of_ble_eq_true rfl⟩) hN hK hP hD hS hA [0, 1, 2, 3, 4, 5, 6, 7] [] rfl rfl (by decide) (by decide) (by decide) rfl hl.1 rfl (Nat.le_of_ble_eq_true rfl) dX1_codesRise_19 ⟨Nat.le_of_ble_eq_true rfl, Nat.le_of_ble_eq_true rfl⟩ (fun r_19 u_19 H locs hw_19 hP hD hS => ?_)
        replace hP : va_P D vwCl [oD d lt mn vs, ai (cy 0) (d 1) 24 pt, ai (cy 0) (d 2) 24 tk, ai (cy 0) (d 3) 24 mr, ai (cy 0) (d 4) 10 od, ai (cy 0) (d 5) 10 pl, ai (cy 0) (d 6) 4 rm, ai (cy 0) (d 7) 10 cd] H := hP
        replace hD : va_D A [oD d lt mn vs, ai (cy 0) (d 1) 24 pt, ai (cy 0) (d 2) 24 tk, ai (cy 0) (d 3) 24 mr, ai (cy 0) (d 4) 10 od, ai (cy 0) (d 5) 10 pl, ai (cy 0) (d 6) 4 rm, ai (cy 0) (d 7) 10 cd] := hD
        have hb0 := hasI_b pt lt (od i)
        refine r_eq0 hx hb 44 dX1_codesRise_22 (by decide) ⟨by omega, by omega⟩ (fun c_22 => ?_) (fun c_22 => ?_)
        ·
          refine r_inc (k := 3) (lv' := [(2, .int (iI (i + 1))), (3, .int (iI (od i))), (0, .ref (d 0)), (1, .int (iI x))]) hx hb dX1_codesRise_44 hl rfl (by decide) rfl (fun ls hl => ?_)
          refine lv_goto (tgt := 4) hx hb dX1_codesRise_47 (by decide) ?_
          exact ih_4 x (i + 1) (by omega) (by omega) (by have h9 := rise_s (hs := hasI pt lt) (od := od) (cd := cd) (i := i) (a := x) (by omega); rw [h2] at h9; rw [h9]; split <;> first | rfl | (split <;> first | rfl | omega) | omega) (by omega) H locs (pick_P hP (is := [0, 1, 2, 3, 4, 5, 6, 7]) rfl) (hD.sub [0, 1, 2, 3, 4, 5, 6, 7] (by decide) rfl) hS ls (lv_sub hl [2, 3, 0] rfl)
        ·
          refine lv_aload_n hx hb dX1_codesRise_25 rfl (lv_at hl 1 rfl) ?_
          refine va_get (D := D) (C := RX1) (T := TX1) (N := 10) (ci := 1) (v := .ref (d 7)) hx hb hts iw_X1_codesRise_1 hown hK hP 0 rfl rfl 8 (by decide) (hts _ fl_X1_codesRise_34) (fun _ h9 => h9) rfl dX1_codesRise_26 ?_
          refine lv_iload_n hx hb dX1_codesRise_29 rfl (lv_at hl 0 rfl) ?_
          refine r_ald hx hb hK hP 7 rfl rfl ⟨by omega, by omega, by omega⟩ dX1_codesRise_30 ?_
          have b_30 := hcd (od i)
          refine lv_iload_n hx hb dX1_codesRise_31 rfl (lv_at hl 2 rfl) ?_
          refine r_gt hx hb 37 dX1_codesRise_32 (by decide) ⟨by omega, by omega⟩ ⟨by omega, by omega⟩ (fun c_32 => ?_) (fun c_32 => ?_)
          ·
            refine lv_aload_n hx hb dX1_codesRise_37 rfl (lv_at hl 1 rfl) ?_
            refine va_get (D := D) (C := RX1) (T := TX1) (N := 10) (ci := 1) (v := .ref (d 7)) hx hb hts iw_X1_codesRise_1 hown hK hP 0 rfl rfl 8 (by decide) (hts _ fl_X1_codesRise_34) (fun _ h9 => h9) rfl dX1_codesRise_38 ?_
            refine lv_iload_n hx hb dX1_codesRise_41 rfl (lv_at hl 0 rfl) ?_
            refine r_ald hx hb hK hP 7 rfl rfl ⟨by omega, by omega, by omega⟩ dX1_codesRise_42 ?_
            have b_42 := hcd (od i)
            refine lv_istore_n (lv' := [(1, .int (iI (cd (od i)))), (3, .int (iI (od i))), (0, .ref (d 0)), (2, .int (iI i))]) hx hb dX1_codesRise_43 rfl hl (by decide) rfl (fun ls hl => ?_)
            refine r_inc (k := 3) (lv' := [(2, .int (iI (i + 1))), (1, .int (iI (cd (od i)))), (3, .int (iI (od i))), (0, .ref (d 0))]) hx hb dX1_codesRise_44 hl rfl (by decide) rfl (fun ls hl => ?_)
            refine lv_goto (tgt := 4) hx hb dX1_codesRise_47 (by decide) ?_
            exact ih_4 (cd (od i)) (i + 1) (by omega) (by omega) (by have h9 := rise_s (hs := hasI pt lt) (od := od) (cd := cd) (i := i) (a := x) (by omega); rw [h2] at h9; rw [h9]; split <;> first | rfl | (split <;> first | rfl | omega) | omega) (by omega) H locs (pick_P hP (is := [0, 1, 2, 3, 4, 5, 6, 7]) rfl) (hD.sub [0, 1, 2, 3, 4, 5, 6, 7] (by decide) rfl) hS ls (lv_sub hl [3, 1, 0] rfl)
          ·
            refine r_const hx hb dX1_codesRise_35 ?_
            exact hret [0, 1, 2, 3, 4, 5, 6, 7] () dX1_codesRise_36 hP hD hS (by decide) rfl (by omega) (by rw [← h2, rise_s (by omega), if_pos (by omega), if_pos (by omega)])
  exact lp_4 _ (-1) 0 (by omega) (by omega) (rfl) (Nat.lt_succ_self _) H locs (pick_P hP (is := [0, 1, 2, 3, 4, 5, 6, 7]) rfl) (hD.sub [0, 1, 2, 3, 4, 5, 6, 7] (by decide) rfl) hS ls (lv_sub hl [2, 1, 0] rfl)
abbrev rm_X1_takeCodes : Room := { frames := 1, cells := 0, slots := 0, locals := 22 }
theorem fl_X1_takeCodes_34 : Cond.fieldLink RX1 34 "WalkPasses$Desk" "codes" "[I" ∈ wsX1_takeCodes := by decide +kernel
theorem iw_X1_takeCodes_1 : ∀ w ∈ u_ws RX1 TX1 10, w ∈ wsX1_takeCodes := by decide +kernel
set_option maxHeartbeats 4000000 in
set_option maxRecDepth 100000 in
theorem k_X1_takeCodes (l : Launch) (D : va_G) (cy : Nat → ClassId) (d : Nat → Nat) (a : Nat) (z : Nat) (lt mn vs : Int) (pt tk mr od pl rm cd : Int → Int) (pn : Int → Int) (hI : DI lt mn pt tk mr od pl rm cd) : CtV l yX1_takeCodes wsX1_takeCodes rm_X1_takeCodes D (tyL cy) [.ref (d 0), .ref (a)] [oD d lt mn vs, ai (cy 0) (d 1) 24 pt, ai (cy 0) (d 2) 24 tk, ai (cy 0) (d 3) 24 mr, ai (cy 0) (d 4) 10 od, ai (cy 0) (d 5) 10 pl, ai (cy 0) (d 6) 4 rm, ai (cy 0) (d 7) 10 cd, ai (cy 0) a 10 pn] z (fun (u : Unit) => True) (fun (u : Unit) => [oD d lt mn vs, ai (cy 0) (d 1) 24 pt, ai (cy 0) (d 2) 24 tk, ai (cy 0) (d 3) 24 mr, ai (cy 0) (d 4) 10 od, ai (cy 0) (d 5) 10 pl, ai (cy 0) (d 6) 4 rm, ai (cy 0) (d 7) 10 (tkC (hasI pt lt) pn cd 10), ai (cy 0) a 10 pn]) 0 0 := by
  refine ct_v (cc := cX1_takeCodes) (maxL := 3) (by decide) rfl (Nat.le_of_ble_eq_true rfl) ?_
  intro p e s m args below meth c A Q H locs ls hx hb hml hown hin hts hK hN hP hD hS hA hl hret
  replace hl : lv_has ls 3 [(0, .ref (d 0)), (1, .ref (a))] := hl
  replace hown : s.vm.findClass RX1 = some m.cls := hown
  obtain ⟨⟨⟨hlt0, hlt1⟩, hmn0, hmn1⟩, ⟨hpt, htk, hmr⟩, ⟨hod, hpl, hpo, hop⟩, hrm, hcd⟩ := id hI
  refine r_const hx hb dX1_takeCodes_0 ?_
  refine lv_istore_n (lv' := [(2, .int (iI 0)), (0, .ref (d 0)), (1, .ref (a))]) hx hb dX1_takeCodes_1 rfl hl (by decide) rfl (fun ls hl => ?_)
  have lp_2 : ∀ (fu : Nat) (i : Int) (B : Int → Int), (0 ≤ i ∧ i ≤ 10) → (B = tkC (hasI pt lt) pn cd i) → (10 - i).toNat < fu → ∀ (H : Heap) (locs : List Loc), va_P D vwCl [oD d lt mn vs, ai (cy 0) (d 1) 24 pt, ai (cy 0) (d 2) 24 tk, ai (cy 0) (d 3) 24 mr, ai (cy 0) (d 4) 10 od, ai (cy 0) (d 5) 10 pl, ai (cy 0) (d 6) 4 rm, ai (cy 0) (d 7) 10 B, ai (cy 0) a 10 pn] H → va_D A [oD d lt mn vs, ai (cy 0) (d 1) 24 pt, ai (cy 0) (d 2) 24 tk, ai (cy 0) (d 3) 24 mr, ai (cy 0) (d 4) 10 od, ai (cy 0) (d 5) 10 pl, ai (cy 0) (d 6) 4 rm, ai (cy 0) (d 7) 10 B, ai (cy 0) a 10 pn] → va_S A s.heap H locs → ∀ (ls : Array Slot), lv_has ls 3 [(0, .ref (d 0)), (1, .ref (a)), (2, .int (iI i))] → W p l e rm_X1_takeCodes s m args below meth c H locs 0 0 Q (F0 m 2 ls []) := by
    intro fu
    induction fu with
    | zero =>
      intro i B h1 h2 hm
      exact absurd hm (Nat.not_lt_zero _)
    | succ fu ih_2 =>
      intro i B h1 h2 hm H locs hP hD hS ls hl
      refine lv_iload_n hx hb dX1_takeCodes_2 rfl (lv_at hl 2 rfl) ?_
      refine r_bip hx hb (10) dX1_takeCodes_3 (by decide) ?_
      refine r_ge hx hb 31 dX1_takeCodes_5 (by decide) ⟨by omega, by omega⟩ ⟨by omega, by omega⟩ (fun c_5 => ?_) (fun c_5 => ?_)
      ·
        obtain rfl : i = 10 := by omega
        subst h2
        exact hret [0, 1, 2, 3, 4, 5, 6, 7, 8] () dX1_takeCodes_31 hP hD hS (by decide) rfl (by trivial)
      ·
        refine lv_aload_n hx hb dX1_takeCodes_8 rfl (lv_at hl 0 rfl) ?_
        refine lv_iload_n hx hb dX1_takeCodes_9 rfl (lv_at hl 2 rfl) ?_
        have M_10 := k_X1_hasLetterAt l D cy d H.size lt mn vs pt tk mr od pl rm B i (⟨⟨hlt0, hlt1⟩, hpt⟩) (⟨by omega, by omega⟩)
        refine kV_i (wr := [ai (cy 0) a 10 pn]) (As := [.int (iI i)]) (rest := []) (q := (RX1, TX1, 10)) (ci := 1) ⟨hx, hb, hml, hown, hts⟩ M_10 0 rfl rfl (cwV 1 hts gX1_takeCodes_X1_hasLetterAt rfl rfl rfl (by decide +kernel) ⟨Nat.le_of_ble_eq_true rfl, Nat.le_of_ble_eq_true rfl⟩) hN hK hP hD hS hA [0, 1, 2, 3, 4, 5, 6, 7] [8] rfl rfl (by decide) (by decide) (by decide) rfl hl.1 rfl (Nat.le_of_ble_eq_true rfl) dX1_takeCodes_10 ⟨Nat.le_of_ble_eq_true rfl, Nat.le_of_ble_eq_true rfl⟩ (fun r_10 u_10 H locs hw_10 hP hD hS => ?_)
        replace hP : va_P D vwCl [ai (cy 0) a 10 pn, oD d lt mn vs, ai (cy 0) (d 1) 24 pt, ai (cy 0) (d 2) 24 tk, ai (cy 0) (d 3) 24 mr, ai (cy 0) (d 4) 10 od, ai (cy 0) (d 5) 10 pl, ai (cy 0) (d 6) 4 rm, ai (cy 0) (d 7) 10 B] H := hP
        replace hD : va_D A [ai (cy 0) a 10 pn, oD d lt mn vs, ai (cy 0) (d 1) 24 pt, ai (cy 0) (d 2) 24 tk, ai (cy 0) (d 3) 24 mr, ai (cy 0) (d 4) 10 od, ai (cy 0) (d 5) 10 pl, ai (cy 0) (d 6) 4 rm, ai (cy 0) (d 7) 10 B] := hD
        have hb0 := hasI_b pt lt i
        refine r_eq0 hx hb 25 dX1_takeCodes_13 (by decide) ⟨by omega, by omega⟩ (fun c_13 => ?_) (fun c_13 => ?_)
        ·
          refine r_inc (k := 2) (lv' := [(2, .int (iI (i + 1))), (0, .ref (d 0)), (1, .ref (a))]) hx hb dX1_takeCodes_25 hl rfl (by decide) rfl (fun ls hl => ?_)
          refine lv_goto (tgt := 2) hx hb dX1_takeCodes_28 (by decide) ?_
          have hb1 := hasI_b pt lt i
          exact ih_2 (i + 1) B (by omega) (by first | (rw [h2, tkC_y h1.1 (by omega)]; done) | (rw [h2, tkC_n (by omega)]; done)) (by omega) H locs (pick_P hP (is := [1, 2, 3, 4, 5, 6, 7, 8, 0]) rfl) (hD.sub [1, 2, 3, 4, 5, 6, 7, 8, 0] (by decide) rfl) hS ls (lv_sub hl [1, 2, 0] rfl)
        ·
          refine lv_aload_n hx hb dX1_takeCodes_16 rfl (lv_at hl 0 rfl) ?_
          refine va_get (D := D) (C := RX1) (T := TX1) (N := 10) (ci := 1) (v := .ref (d 7)) hx hb hts iw_X1_takeCodes_1 hown hK hP 1 rfl rfl 8 (by decide) (hts _ fl_X1_takeCodes_34) (fun _ h9 => h9) rfl dX1_takeCodes_17 ?_
          refine lv_iload_n hx hb dX1_takeCodes_20 rfl (lv_at hl 2 rfl) ?_
          refine lv_aload_n hx hb dX1_takeCodes_21 rfl (lv_at hl 1 rfl) ?_
          refine lv_iload_n hx hb dX1_takeCodes_22 rfl (lv_at hl 2 rfl) ?_
          refine r_ald hx hb hK hP 0 rfl rfl ⟨by omega, by omega, by omega⟩ dX1_takeCodes_23 ?_
          refine r_ast hx hb hK hP hD hS 8 rfl rfl ⟨by omega, by omega, by omega⟩ dX1_takeCodes_24 (fun H locs hP hD hS => ?_)
          replace hP : va_P D vwCl [ai (cy 0) a 10 pn, oD d lt mn vs, ai (cy 0) (d 1) 24 pt, ai (cy 0) (d 2) 24 tk, ai (cy 0) (d 3) 24 mr, ai (cy 0) (d 4) 10 od, ai (cy 0) (d 5) 10 pl, ai (cy 0) (d 6) 4 rm, ai (cy 0) (d 7) 10 (ud B i (pn i))] H := hP
          replace hD : va_D A [ai (cy 0) a 10 pn, oD d lt mn vs, ai (cy 0) (d 1) 24 pt, ai (cy 0) (d 2) 24 tk, ai (cy 0) (d 3) 24 mr, ai (cy 0) (d 4) 10 od, ai (cy 0) (d 5) 10 pl, ai (cy 0) (d 6) 4 rm, ai (cy 0) (d 7) 10 (ud B i (pn i))] := hD
          refine r_inc (k := 2) (lv' := [(2, .int (iI (i + 1))), (0, .ref (d 0)), (1, .ref (a))]) hx hb dX1_takeCodes_25 hl rfl (by decide) rfl (fun ls hl => ?_)
          refine lv_goto (tgt := 2) hx hb dX1_takeCodes_28 (by decide) ?_
          have hb1 := hasI_b pt lt i
          exact ih_2 (i + 1) (ud B i (pn i)) (by omega) (by first | (rw [h2, tkC_y h1.1 (by omega)]; done) | (rw [h2, tkC_n (by omega)]; done)) (by omega) H locs (pick_P hP (is := [1, 2, 3, 4, 5, 6, 7, 8, 0]) rfl) (hD.sub [1, 2, 3, 4, 5, 6, 7, 8, 0] (by decide) rfl) hS ls (lv_sub hl [1, 2, 0] rfl)
  exact lp_2 _ 0 cd (by omega) ((tkC_0 _ _ _).symm) (Nat.lt_succ_self _) H locs (pick_P hP (is := [0, 1, 2, 3, 4, 5, 6, 7, 8]) rfl) (hD.sub [0, 1, 2, 3, 4, 5, 6, 7, 8] (by decide) rfl) hS ls (lv_sub hl [1, 2, 0] rfl)
abbrev rm_X1_copyRow : Room := { frames := 1, cells := 0, slots := 0, locals := 40 }
set_option maxHeartbeats 4000000 in
set_option maxRecDepth 100000 in
theorem k_X1_copyRow (l : Launch) (D : va_G) (cy : Nat → ClassId) (a b : Nat) (z : Nat) (n : Nat) (F G : Int → Int) (hn : n ≤ 1000) : CtV l yX1_copyRow wsX1_copyRow rm_X1_copyRow D (tyL cy) [.ref (a), .ref (b)] [ai (cy 0) a n F, ai (cy 0) b n G] z (fun (u : Unit) => True) (fun (u : Unit) => [ai (cy 0) a n F, ai (cy 0) b n F]) 0 0 := by
  refine ct_v (cc := cX1_copyRow) (maxL := 2) (by decide) rfl (Nat.le_of_ble_eq_true rfl) ?_
  intro p e s m args below meth c A Q H locs ls hx hb hml hown hin hts hK hN hP hD hS hA hl hret
  replace hl : lv_has ls 2 [(0, .ref (a)), (1, .ref (b))] := hl
  replace hown : s.vm.findClass RX1 = some m.cls := hown
  refine lv_aload_n hx hb dX1_copyRow_0 rfl (lv_at hl 0 rfl) ?_
  refine r_const hx hb dX1_copyRow_1 ?_
  refine lv_aload_n hx hb dX1_copyRow_2 rfl (lv_at hl 1 rfl) ?_
  refine r_const hx hb dX1_copyRow_3 ?_
  refine lv_aload_n hx hb dX1_copyRow_4 rfl (lv_at hl 1 rfl) ?_
  refine r_len hx hb hK hP 1 0 rfl rfl dX1_copyRow_5 ?_
  refine r_copy (own := RX1) (index := 61) hx hb (by rw [hml]; exact hl.1.symm) hown (hts _ (by decide +kernel)) (hts _ (by decide +kernel)) (hts _ (by decide +kernel)) (hts _ (by decide +kernel)) hK hP hD hS 0 1 rfl rfl rfl ⟨by omega, by omega, by omega, ⟨by omega, by omega⟩, by omega, by omega⟩ (Nat.le_of_ble_eq_true rfl) (Nat.le_of_ble_eq_true rfl) dX1_copyRow_6 (fun H locs hP hD hS => ?_)
  replace hP : va_P D vwCl [ai (cy 0) a n F, ai (cy 0) b n (cpy F G 0 0 (n : Int))] H := hP
  replace hD : va_D A [ai (cy 0) a n F, ai (cy 0) b n (cpy F G 0 0 (n : Int))] := hD
  replace hP := reF (q := 1) F hP rfl (fun j q1 q2 => by unfold cpy; rw [if_pos (by omega), show (0 : Int) + (j - 0) = j by omega])
  replace hD := reD (q := 1) F hD rfl
  exact hret [0, 1] () dX1_copyRow_9 hP hD hS (by decide) rfl (by trivial)
abbrev rm_X1_copyFrom : Room := { frames := 2, cells := 0, slots := 0, locals := 61 }
theorem fl_X1_copyFrom_9 : Cond.fieldLink RX1 9 "WalkPasses$Desk" "points" "[I" ∈ wsX1_copyFrom := by decide +kernel
theorem fl_X1_copyFrom_15 : Cond.fieldLink RX1 15 "WalkPasses$Desk" "thicks" "[I" ∈ wsX1_copyFrom := by decide +kernel
theorem fl_X1_copyFrom_18 : Cond.fieldLink RX1 18 "WalkPasses$Desk" "misreads" "[I" ∈ wsX1_copyFrom := by decide +kernel
theorem fl_X1_copyFrom_21 : Cond.fieldLink RX1 21 "WalkPasses$Desk" "order" "[I" ∈ wsX1_copyFrom := by decide +kernel
theorem fl_X1_copyFrom_24 : Cond.fieldLink RX1 24 "WalkPasses$Desk" "places" "[I" ∈ wsX1_copyFrom := by decide +kernel
theorem fl_X1_copyFrom_27 : Cond.fieldLink RX1 27 "WalkPasses$Desk" "many" "I" ∈ wsX1_copyFrom := by decide +kernel
theorem fl_X1_copyFrom_31 : Cond.fieldLink RX1 31 "WalkPasses$Desk" "rooms" "[I" ∈ wsX1_copyFrom := by decide +kernel
theorem fl_X1_copyFrom_34 : Cond.fieldLink RX1 34 "WalkPasses$Desk" "codes" "[I" ∈ wsX1_copyFrom := by decide +kernel
theorem fl_X1_copyFrom_43 : Cond.fieldLink RX1 43 "WalkPasses$Desk" "letters" "I" ∈ wsX1_copyFrom := by decide +kernel
theorem fl_X1_copyFrom_46 : Cond.fieldLink RX1 46 "WalkPasses$Desk" "version" "I" ∈ wsX1_copyFrom := by decide +kernel
theorem iw_X1_copyFrom_1 : ∀ w ∈ u_ws RX1 TX1 10, w ∈ wsX1_copyFrom := by decide +kernel
set_option maxHeartbeats 4000000 in
set_option maxRecDepth 100000 in
theorem k_X1_copyFrom (l : Launch) (D : va_G) (cy : Nat → ClassId) (d o : Nat → Nat) (z : Nat) (lt mn vs : Int) (pt tk mr od pl rm cd : Int → Int) (lt2 mn2 vs2 : Int) (pt2 tk2 mr2 od2 pl2 rm2 cd2 : Int → Int) : CtV l yX1_copyFrom wsX1_copyFrom rm_X1_copyFrom D (tyL cy) [.ref (d 0), .ref (o 0)] [oD d lt mn vs, ai (cy 0) (d 1) 24 pt, ai (cy 0) (d 2) 24 tk, ai (cy 0) (d 3) 24 mr, ai (cy 0) (d 4) 10 od, ai (cy 0) (d 5) 10 pl, ai (cy 0) (d 6) 4 rm, ai (cy 0) (d 7) 10 cd, oD o lt2 mn2 vs2, ai (cy 0) (o 1) 24 pt2, ai (cy 0) (o 2) 24 tk2, ai (cy 0) (o 3) 24 mr2, ai (cy 0) (o 4) 10 od2, ai (cy 0) (o 5) 10 pl2, ai (cy 0) (o 6) 4 rm2, ai (cy 0) (o 7) 10 cd2] z (fun (u : Unit) => True) (fun (u : Unit) => [oD d lt2 mn2 (vs + 1), ai (cy 0) (d 1) 24 pt2, ai (cy 0) (d 2) 24 tk2, ai (cy 0) (d 3) 24 mr2, ai (cy 0) (d 4) 10 od2, ai (cy 0) (d 5) 10 pl2, ai (cy 0) (d 6) 4 rm2, ai (cy 0) (d 7) 10 cd2, oD o lt2 mn2 vs2, ai (cy 0) (o 1) 24 pt2, ai (cy 0) (o 2) 24 tk2, ai (cy 0) (o 3) 24 mr2, ai (cy 0) (o 4) 10 od2, ai (cy 0) (o 5) 10 pl2, ai (cy 0) (o 6) 4 rm2, ai (cy 0) (o 7) 10 cd2]) 0 0 := by
  refine ct_v (cc := cX1_copyFrom) (maxL := 2) (by decide) rfl (Nat.le_of_ble_eq_true rfl) ?_
  intro p e s m args below meth c A Q H locs ls hx hb hml hown hin hts hK hN hP hD hS hA hl hret
  replace hl : lv_has ls 2 [(0, .ref (d 0)), (1, .ref (o 0))] := hl
  replace hown : s.vm.findClass RX1 = some m.cls := hown
  refine lv_aload_n hx hb dX1_copyFrom_0 rfl (lv_at hl 0 rfl) ?_
  refine lv_aload_n hx hb dX1_copyFrom_1 rfl (lv_at hl 1 rfl) ?_
  refine va_get (D := D) (C := RX1) (T := TX1) (N := 10) (ci := 1) (v := .int (iI lt2)) hx hb hts iw_X1_copyFrom_1 hown hK hP 8 rfl rfl 0 (by decide) (hts _ fl_X1_copyFrom_43) (fun _ h9 => h9) rfl dX1_copyFrom_2 ?_
  refine va_put (D := D) (C := RX1) (T := TX1) (N := 10) (ci := 1) (v := .int (iI lt2)) (ty := .int) hx hb hts iw_X1_copyFrom_1 tyX1 tyX1_ok nmX1 hown hK hP hD hS 0 rfl rfl 0 (by decide) (hts _ fl_X1_copyFrom_43) (fun _ h9 => h9) rfl (by decide +kernel) rfl rfl (Nat.le_of_ble_eq_true rfl) dX1_copyFrom_5 (fun H locs hP hD hS => ?_)
  replace hP : va_P D vwCl [oD d lt2 mn vs, ai (cy 0) (d 1) 24 pt, ai (cy 0) (d 2) 24 tk, ai (cy 0) (d 3) 24 mr, ai (cy 0) (d 4) 10 od, ai (cy 0) (d 5) 10 pl, ai (cy 0) (d 6) 4 rm, ai (cy 0) (d 7) 10 cd, oD o lt2 mn2 vs2, ai (cy 0) (o 1) 24 pt2, ai (cy 0) (o 2) 24 tk2, ai (cy 0) (o 3) 24 mr2, ai (cy 0) (o 4) 10 od2, ai (cy 0) (o 5) 10 pl2, ai (cy 0) (o 6) 4 rm2, ai (cy 0) (o 7) 10 cd2] H := hP
  replace hD : va_D A [oD d lt2 mn vs, ai (cy 0) (d 1) 24 pt, ai (cy 0) (d 2) 24 tk, ai (cy 0) (d 3) 24 mr, ai (cy 0) (d 4) 10 od, ai (cy 0) (d 5) 10 pl, ai (cy 0) (d 6) 4 rm, ai (cy 0) (d 7) 10 cd, oD o lt2 mn2 vs2, ai (cy 0) (o 1) 24 pt2, ai (cy 0) (o 2) 24 tk2, ai (cy 0) (o 3) 24 mr2, ai (cy 0) (o 4) 10 od2, ai (cy 0) (o 5) 10 pl2, ai (cy 0) (o 6) 4 rm2, ai (cy 0) (o 7) 10 cd2] := hD
  refine lv_aload_n hx hb dX1_copyFrom_8 rfl (lv_at hl 1 rfl) ?_
  refine va_get (D := D) (C := RX1) (T := TX1) (N := 10) (ci := 1) (v := .ref (o 1)) hx hb hts iw_X1_copyFrom_1 hown hK hP 8 rfl rfl 1 (by decide) (hts _ fl_X1_copyFrom_9) (fun _ h9 => h9) rfl dX1_copyFrom_9 ?_
  refine lv_aload_n hx hb dX1_copyFrom_12 rfl (lv_at hl 0 rfl) ?_
  refine va_get (D := D) (C := RX1) (T := TX1) (N := 10) (ci := 1) (v := .ref (d 1)) hx hb hts iw_X1_copyFrom_1 hown hK hP 0 rfl rfl 1 (by decide) (hts _ fl_X1_copyFrom_9) (fun _ h9 => h9) rfl dX1_copyFrom_13 ?_
  have M_16 := k_X1_copyRow l D cy (o 1) (d 1) H.size 24 pt2 pt (by decide)
  refine kS_v (wr := [oD d lt2 mn vs, ai (cy 0) (d 2) 24 tk, ai (cy 0) (d 3) 24 mr, ai (cy 0) (d 4) 10 od, ai (cy 0) (d 5) 10 pl, ai (cy 0) (d 6) 4 rm, ai (cy 0) (d 7) 10 cd, oD o lt2 mn2 vs2, ai (cy 0) (o 2) 24 tk2, ai (cy 0) (o 3) 24 mr2, ai (cy 0) (o 4) 10 od2, ai (cy 0) (o 5) 10 pl2, ai (cy 0) (o 6) 4 rm2, ai (cy 0) (o 7) 10 cd2]) (As := [.ref (o 1), .ref (d 1)]) (rest := []) ⟨hx, hb, hml, hown, hts⟩ M_16 (va_cwS 2 hts gX1_copyFrom_X1_copyRow rfl rfl rfl (by decide +kernel) ⟨Nat.le_of_ble_eq_true rfl, Nat.le_of_ble_eq_true rfl⟩) hN hK hP hD hS hA [9, 1] [0, 2, 3, 4, 5, 6, 7, 8, 10, 11, 12, 13, 14, 15] rfl rfl (by decide) (by decide) (by decide) rfl hl.1 rfl (Nat.le_of_ble_eq_true rfl) dX1_copyFrom_16 ⟨Nat.le_of_ble_eq_true rfl, Nat.le_of_ble_eq_true rfl⟩ (fun u_16 H locs hw_16 hP hD hS => ?_)
  replace hP : va_P D vwCl [oD d lt2 mn vs, ai (cy 0) (d 2) 24 tk, ai (cy 0) (d 3) 24 mr, ai (cy 0) (d 4) 10 od, ai (cy 0) (d 5) 10 pl, ai (cy 0) (d 6) 4 rm, ai (cy 0) (d 7) 10 cd, oD o lt2 mn2 vs2, ai (cy 0) (o 2) 24 tk2, ai (cy 0) (o 3) 24 mr2, ai (cy 0) (o 4) 10 od2, ai (cy 0) (o 5) 10 pl2, ai (cy 0) (o 6) 4 rm2, ai (cy 0) (o 7) 10 cd2, ai (cy 0) (o 1) 24 pt2, ai (cy 0) (d 1) 24 pt2] H := hP
  replace hD : va_D A [oD d lt2 mn vs, ai (cy 0) (d 2) 24 tk, ai (cy 0) (d 3) 24 mr, ai (cy 0) (d 4) 10 od, ai (cy 0) (d 5) 10 pl, ai (cy 0) (d 6) 4 rm, ai (cy 0) (d 7) 10 cd, oD o lt2 mn2 vs2, ai (cy 0) (o 2) 24 tk2, ai (cy 0) (o 3) 24 mr2, ai (cy 0) (o 4) 10 od2, ai (cy 0) (o 5) 10 pl2, ai (cy 0) (o 6) 4 rm2, ai (cy 0) (o 7) 10 cd2, ai (cy 0) (o 1) 24 pt2, ai (cy 0) (d 1) 24 pt2] := hD
  refine lv_aload_n hx hb dX1_copyFrom_19 rfl (lv_at hl 1 rfl) ?_
  refine va_get (D := D) (C := RX1) (T := TX1) (N := 10) (ci := 1) (v := .ref (o 2)) hx hb hts iw_X1_copyFrom_1 hown hK hP 7 rfl rfl 2 (by decide) (hts _ fl_X1_copyFrom_15) (fun _ h9 => h9) rfl dX1_copyFrom_20 ?_
  refine lv_aload_n hx hb dX1_copyFrom_23 rfl (lv_at hl 0 rfl) ?_
  refine va_get (D := D) (C := RX1) (T := TX1) (N := 10) (ci := 1) (v := .ref (d 2)) hx hb hts iw_X1_copyFrom_1 hown hK hP 0 rfl rfl 2 (by decide) (hts _ fl_X1_copyFrom_15) (fun _ h9 => h9) rfl dX1_copyFrom_24 ?_
  have M_27 := k_X1_copyRow l D cy (o 2) (d 2) H.size 24 tk2 tk (by decide)
  refine kS_v (wr := [oD d lt2 mn vs, ai (cy 0) (d 3) 24 mr, ai (cy 0) (d 4) 10 od, ai (cy 0) (d 5) 10 pl, ai (cy 0) (d 6) 4 rm, ai (cy 0) (d 7) 10 cd, oD o lt2 mn2 vs2, ai (cy 0) (o 3) 24 mr2, ai (cy 0) (o 4) 10 od2, ai (cy 0) (o 5) 10 pl2, ai (cy 0) (o 6) 4 rm2, ai (cy 0) (o 7) 10 cd2, ai (cy 0) (o 1) 24 pt2, ai (cy 0) (d 1) 24 pt2]) (As := [.ref (o 2), .ref (d 2)]) (rest := []) ⟨hx, hb, hml, hown, hts⟩ M_27 (va_cwS 2 hts gX1_copyFrom_X1_copyRow rfl rfl rfl (by decide +kernel) ⟨Nat.le_of_ble_eq_true rfl, Nat.le_of_ble_eq_true rfl⟩) hN hK hP hD hS hA [8, 1] [0, 2, 3, 4, 5, 6, 7, 9, 10, 11, 12, 13, 14, 15] rfl rfl (by decide) (by decide) (by decide) rfl hl.1 rfl (Nat.le_of_ble_eq_true rfl) dX1_copyFrom_27 ⟨Nat.le_of_ble_eq_true rfl, Nat.le_of_ble_eq_true rfl⟩ (fun u_27 H locs hw_27 hP hD hS => ?_)
  replace hP : va_P D vwCl [oD d lt2 mn vs, ai (cy 0) (d 3) 24 mr, ai (cy 0) (d 4) 10 od, ai (cy 0) (d 5) 10 pl, ai (cy 0) (d 6) 4 rm, ai (cy 0) (d 7) 10 cd, oD o lt2 mn2 vs2, ai (cy 0) (o 3) 24 mr2, ai (cy 0) (o 4) 10 od2, ai (cy 0) (o 5) 10 pl2, ai (cy 0) (o 6) 4 rm2, ai (cy 0) (o 7) 10 cd2, ai (cy 0) (o 1) 24 pt2, ai (cy 0) (d 1) 24 pt2, ai (cy 0) (o 2) 24 tk2, ai (cy 0) (d 2) 24 tk2] H := hP
  replace hD : va_D A [oD d lt2 mn vs, ai (cy 0) (d 3) 24 mr, ai (cy 0) (d 4) 10 od, ai (cy 0) (d 5) 10 pl, ai (cy 0) (d 6) 4 rm, ai (cy 0) (d 7) 10 cd, oD o lt2 mn2 vs2, ai (cy 0) (o 3) 24 mr2, ai (cy 0) (o 4) 10 od2, ai (cy 0) (o 5) 10 pl2, ai (cy 0) (o 6) 4 rm2, ai (cy 0) (o 7) 10 cd2, ai (cy 0) (o 1) 24 pt2, ai (cy 0) (d 1) 24 pt2, ai (cy 0) (o 2) 24 tk2, ai (cy 0) (d 2) 24 tk2] := hD
  refine lv_aload_n hx hb dX1_copyFrom_30 rfl (lv_at hl 1 rfl) ?_
  refine va_get (D := D) (C := RX1) (T := TX1) (N := 10) (ci := 1) (v := .ref (o 3)) hx hb hts iw_X1_copyFrom_1 hown hK hP 6 rfl rfl 3 (by decide) (hts _ fl_X1_copyFrom_18) (fun _ h9 => h9) rfl dX1_copyFrom_31 ?_
  refine lv_aload_n hx hb dX1_copyFrom_34 rfl (lv_at hl 0 rfl) ?_
  refine va_get (D := D) (C := RX1) (T := TX1) (N := 10) (ci := 1) (v := .ref (d 3)) hx hb hts iw_X1_copyFrom_1 hown hK hP 0 rfl rfl 3 (by decide) (hts _ fl_X1_copyFrom_18) (fun _ h9 => h9) rfl dX1_copyFrom_35 ?_
  have M_38 := k_X1_copyRow l D cy (o 3) (d 3) H.size 24 mr2 mr (by decide)
  refine kS_v (wr := [oD d lt2 mn vs, ai (cy 0) (d 4) 10 od, ai (cy 0) (d 5) 10 pl, ai (cy 0) (d 6) 4 rm, ai (cy 0) (d 7) 10 cd, oD o lt2 mn2 vs2, ai (cy 0) (o 4) 10 od2, ai (cy 0) (o 5) 10 pl2, ai (cy 0) (o 6) 4 rm2, ai (cy 0) (o 7) 10 cd2, ai (cy 0) (o 1) 24 pt2, ai (cy 0) (d 1) 24 pt2, ai (cy 0) (o 2) 24 tk2, ai (cy 0) (d 2) 24 tk2]) (As := [.ref (o 3), .ref (d 3)]) (rest := []) ⟨hx, hb, hml, hown, hts⟩ M_38 (va_cwS 2 hts gX1_copyFrom_X1_copyRow rfl rfl rfl (by decide +kernel) ⟨Nat.le_of_ble_eq_true rfl, Nat.le_of_ble_eq_true rfl⟩) hN hK hP hD hS hA [7, 1] [0, 2, 3, 4, 5, 6, 8, 9, 10, 11, 12, 13, 14, 15] rfl rfl (by decide) (by decide) (by decide) rfl hl.1 rfl (Nat.le_of_ble_eq_true rfl) dX1_copyFrom_38 ⟨Nat.le_of_ble_eq_true rfl, Nat.le_of_ble_eq_true rfl⟩ (fun u_38 H locs hw_38 hP hD hS => ?_)
  replace hP : va_P D vwCl [oD d lt2 mn vs, ai (cy 0) (d 4) 10 od, ai (cy 0) (d 5) 10 pl, ai (cy 0) (d 6) 4 rm, ai (cy 0) (d 7) 10 cd, oD o lt2 mn2 vs2, ai (cy 0) (o 4) 10 od2, ai (cy 0) (o 5) 10 pl2, ai (cy 0) (o 6) 4 rm2, ai (cy 0) (o 7) 10 cd2, ai (cy 0) (o 1) 24 pt2, ai (cy 0) (d 1) 24 pt2, ai (cy 0) (o 2) 24 tk2, ai (cy 0) (d 2) 24 tk2, ai (cy 0) (o 3) 24 mr2, ai (cy 0) (d 3) 24 mr2] H := hP
  replace hD : va_D A [oD d lt2 mn vs, ai (cy 0) (d 4) 10 od, ai (cy 0) (d 5) 10 pl, ai (cy 0) (d 6) 4 rm, ai (cy 0) (d 7) 10 cd, oD o lt2 mn2 vs2, ai (cy 0) (o 4) 10 od2, ai (cy 0) (o 5) 10 pl2, ai (cy 0) (o 6) 4 rm2, ai (cy 0) (o 7) 10 cd2, ai (cy 0) (o 1) 24 pt2, ai (cy 0) (d 1) 24 pt2, ai (cy 0) (o 2) 24 tk2, ai (cy 0) (d 2) 24 tk2, ai (cy 0) (o 3) 24 mr2, ai (cy 0) (d 3) 24 mr2] := hD
  refine lv_aload_n hx hb dX1_copyFrom_41 rfl (lv_at hl 1 rfl) ?_
  refine va_get (D := D) (C := RX1) (T := TX1) (N := 10) (ci := 1) (v := .ref (o 4)) hx hb hts iw_X1_copyFrom_1 hown hK hP 5 rfl rfl 4 (by decide) (hts _ fl_X1_copyFrom_21) (fun _ h9 => h9) rfl dX1_copyFrom_42 ?_
  refine lv_aload_n hx hb dX1_copyFrom_45 rfl (lv_at hl 0 rfl) ?_
  refine va_get (D := D) (C := RX1) (T := TX1) (N := 10) (ci := 1) (v := .ref (d 4)) hx hb hts iw_X1_copyFrom_1 hown hK hP 0 rfl rfl 4 (by decide) (hts _ fl_X1_copyFrom_21) (fun _ h9 => h9) rfl dX1_copyFrom_46 ?_
  have M_49 := k_X1_copyRow l D cy (o 4) (d 4) H.size 10 od2 od (by decide)
  refine kS_v (wr := [oD d lt2 mn vs, ai (cy 0) (d 5) 10 pl, ai (cy 0) (d 6) 4 rm, ai (cy 0) (d 7) 10 cd, oD o lt2 mn2 vs2, ai (cy 0) (o 5) 10 pl2, ai (cy 0) (o 6) 4 rm2, ai (cy 0) (o 7) 10 cd2, ai (cy 0) (o 1) 24 pt2, ai (cy 0) (d 1) 24 pt2, ai (cy 0) (o 2) 24 tk2, ai (cy 0) (d 2) 24 tk2, ai (cy 0) (o 3) 24 mr2, ai (cy 0) (d 3) 24 mr2]) (As := [.ref (o 4), .ref (d 4)]) (rest := []) ⟨hx, hb, hml, hown, hts⟩ M_49 (va_cwS 2 hts gX1_copyFrom_X1_copyRow rfl rfl rfl (by decide +kernel) ⟨Nat.le_of_ble_eq_true rfl, Nat.le_of_ble_eq_true rfl⟩) hN hK hP hD hS hA [6, 1] [0, 2, 3, 4, 5, 7, 8, 9, 10, 11, 12, 13, 14, 15] rfl rfl (by decide) (by decide) (by decide) rfl hl.1 rfl (Nat.le_of_ble_eq_true rfl) dX1_copyFrom_49 ⟨Nat.le_of_ble_eq_true rfl, Nat.le_of_ble_eq_true rfl⟩ (fun u_49 H locs hw_49 hP hD hS => ?_)
  replace hP : va_P D vwCl [oD d lt2 mn vs, ai (cy 0) (d 5) 10 pl, ai (cy 0) (d 6) 4 rm, ai (cy 0) (d 7) 10 cd, oD o lt2 mn2 vs2, ai (cy 0) (o 5) 10 pl2, ai (cy 0) (o 6) 4 rm2, ai (cy 0) (o 7) 10 cd2, ai (cy 0) (o 1) 24 pt2, ai (cy 0) (d 1) 24 pt2, ai (cy 0) (o 2) 24 tk2, ai (cy 0) (d 2) 24 tk2, ai (cy 0) (o 3) 24 mr2, ai (cy 0) (d 3) 24 mr2, ai (cy 0) (o 4) 10 od2, ai (cy 0) (d 4) 10 od2] H := hP
  replace hD : va_D A [oD d lt2 mn vs, ai (cy 0) (d 5) 10 pl, ai (cy 0) (d 6) 4 rm, ai (cy 0) (d 7) 10 cd, oD o lt2 mn2 vs2, ai (cy 0) (o 5) 10 pl2, ai (cy 0) (o 6) 4 rm2, ai (cy 0) (o 7) 10 cd2, ai (cy 0) (o 1) 24 pt2, ai (cy 0) (d 1) 24 pt2, ai (cy 0) (o 2) 24 tk2, ai (cy 0) (d 2) 24 tk2, ai (cy 0) (o 3) 24 mr2, ai (cy 0) (d 3) 24 mr2, ai (cy 0) (o 4) 10 od2, ai (cy 0) (d 4) 10 od2] := hD
  refine lv_aload_n hx hb dX1_copyFrom_52 rfl (lv_at hl 1 rfl) ?_
  refine va_get (D := D) (C := RX1) (T := TX1) (N := 10) (ci := 1) (v := .ref (o 5)) hx hb hts iw_X1_copyFrom_1 hown hK hP 4 rfl rfl 5 (by decide) (hts _ fl_X1_copyFrom_24) (fun _ h9 => h9) rfl dX1_copyFrom_53 ?_
  refine lv_aload_n hx hb dX1_copyFrom_56 rfl (lv_at hl 0 rfl) ?_
  refine va_get (D := D) (C := RX1) (T := TX1) (N := 10) (ci := 1) (v := .ref (d 5)) hx hb hts iw_X1_copyFrom_1 hown hK hP 0 rfl rfl 5 (by decide) (hts _ fl_X1_copyFrom_24) (fun _ h9 => h9) rfl dX1_copyFrom_57 ?_
  have M_60 := k_X1_copyRow l D cy (o 5) (d 5) H.size 10 pl2 pl (by decide)
  refine kS_v (wr := [oD d lt2 mn vs, ai (cy 0) (d 6) 4 rm, ai (cy 0) (d 7) 10 cd, oD o lt2 mn2 vs2, ai (cy 0) (o 6) 4 rm2, ai (cy 0) (o 7) 10 cd2, ai (cy 0) (o 1) 24 pt2, ai (cy 0) (d 1) 24 pt2, ai (cy 0) (o 2) 24 tk2, ai (cy 0) (d 2) 24 tk2, ai (cy 0) (o 3) 24 mr2, ai (cy 0) (d 3) 24 mr2, ai (cy 0) (o 4) 10 od2, ai (cy 0) (d 4) 10 od2]) (As := [.ref (o 5), .ref (d 5)]) (rest := []) ⟨hx, hb, hml, hown, hts⟩ M_60 (va_cwS 2 hts gX1_copyFrom_X1_copyRow rfl rfl rfl (by decide +kernel) ⟨Nat.le_of_ble_eq_true rfl, Nat.le_of_ble_eq_true rfl⟩) hN hK hP hD hS hA [5, 1] [0, 2, 3, 4, 6, 7, 8, 9, 10, 11, 12, 13, 14, 15] rfl rfl (by decide) (by decide) (by decide) rfl hl.1 rfl (Nat.le_of_ble_eq_true rfl) dX1_copyFrom_60 ⟨Nat.le_of_ble_eq_true rfl, Nat.le_of_ble_eq_true rfl⟩ (fun u_60 H locs hw_60 hP hD hS => ?_)
  replace hP : va_P D vwCl [oD d lt2 mn vs, ai (cy 0) (d 6) 4 rm, ai (cy 0) (d 7) 10 cd, oD o lt2 mn2 vs2, ai (cy 0) (o 6) 4 rm2, ai (cy 0) (o 7) 10 cd2, ai (cy 0) (o 1) 24 pt2, ai (cy 0) (d 1) 24 pt2, ai (cy 0) (o 2) 24 tk2, ai (cy 0) (d 2) 24 tk2, ai (cy 0) (o 3) 24 mr2, ai (cy 0) (d 3) 24 mr2, ai (cy 0) (o 4) 10 od2, ai (cy 0) (d 4) 10 od2, ai (cy 0) (o 5) 10 pl2, ai (cy 0) (d 5) 10 pl2] H := hP
  replace hD : va_D A [oD d lt2 mn vs, ai (cy 0) (d 6) 4 rm, ai (cy 0) (d 7) 10 cd, oD o lt2 mn2 vs2, ai (cy 0) (o 6) 4 rm2, ai (cy 0) (o 7) 10 cd2, ai (cy 0) (o 1) 24 pt2, ai (cy 0) (d 1) 24 pt2, ai (cy 0) (o 2) 24 tk2, ai (cy 0) (d 2) 24 tk2, ai (cy 0) (o 3) 24 mr2, ai (cy 0) (d 3) 24 mr2, ai (cy 0) (o 4) 10 od2, ai (cy 0) (d 4) 10 od2, ai (cy 0) (o 5) 10 pl2, ai (cy 0) (d 5) 10 pl2] := hD
  refine lv_aload_n hx hb dX1_copyFrom_63 rfl (lv_at hl 0 rfl) ?_
  refine lv_aload_n hx hb dX1_copyFrom_64 rfl (lv_at hl 1 rfl) ?_
  refine va_get (D := D) (C := RX1) (T := TX1) (N := 10) (ci := 1) (v := .int (iI mn2)) hx hb hts iw_X1_copyFrom_1 hown hK hP 3 rfl rfl 6 (by decide) (hts _ fl_X1_copyFrom_27) (fun _ h9 => h9) rfl dX1_copyFrom_65 ?_
  refine va_put (D := D) (C := RX1) (T := TX1) (N := 10) (ci := 1) (v := .int (iI mn2)) (ty := .int) hx hb hts iw_X1_copyFrom_1 tyX1 tyX1_ok nmX1 hown hK hP hD hS 0 rfl rfl 6 (by decide) (hts _ fl_X1_copyFrom_27) (fun _ h9 => h9) rfl (by decide +kernel) rfl rfl (Nat.le_of_ble_eq_true rfl) dX1_copyFrom_68 (fun H locs hP hD hS => ?_)
  replace hP : va_P D vwCl [oD d lt2 mn2 vs, ai (cy 0) (d 6) 4 rm, ai (cy 0) (d 7) 10 cd, oD o lt2 mn2 vs2, ai (cy 0) (o 6) 4 rm2, ai (cy 0) (o 7) 10 cd2, ai (cy 0) (o 1) 24 pt2, ai (cy 0) (d 1) 24 pt2, ai (cy 0) (o 2) 24 tk2, ai (cy 0) (d 2) 24 tk2, ai (cy 0) (o 3) 24 mr2, ai (cy 0) (d 3) 24 mr2, ai (cy 0) (o 4) 10 od2, ai (cy 0) (d 4) 10 od2, ai (cy 0) (o 5) 10 pl2, ai (cy 0) (d 5) 10 pl2] H := hP
  replace hD : va_D A [oD d lt2 mn2 vs, ai (cy 0) (d 6) 4 rm, ai (cy 0) (d 7) 10 cd, oD o lt2 mn2 vs2, ai (cy 0) (o 6) 4 rm2, ai (cy 0) (o 7) 10 cd2, ai (cy 0) (o 1) 24 pt2, ai (cy 0) (d 1) 24 pt2, ai (cy 0) (o 2) 24 tk2, ai (cy 0) (d 2) 24 tk2, ai (cy 0) (o 3) 24 mr2, ai (cy 0) (d 3) 24 mr2, ai (cy 0) (o 4) 10 od2, ai (cy 0) (d 4) 10 od2, ai (cy 0) (o 5) 10 pl2, ai (cy 0) (d 5) 10 pl2] := hD
  refine lv_aload_n hx hb dX1_copyFrom_71 rfl (lv_at hl 1 rfl) ?_
  refine va_get (D := D) (C := RX1) (T := TX1) (N := 10) (ci := 1) (v := .ref (o 6)) hx hb hts iw_X1_copyFrom_1 hown hK hP 3 rfl rfl 7 (by decide) (hts _ fl_X1_copyFrom_31) (fun _ h9 => h9) rfl dX1_copyFrom_72 ?_
  refine lv_aload_n hx hb dX1_copyFrom_75 rfl (lv_at hl 0 rfl) ?_
  refine va_get (D := D) (C := RX1) (T := TX1) (N := 10) (ci := 1) (v := .ref (d 6)) hx hb hts iw_X1_copyFrom_1 hown hK hP 0 rfl rfl 7 (by decide) (hts _ fl_X1_copyFrom_31) (fun _ h9 => h9) rfl dX1_copyFrom_76 ?_
  have M_79 := k_X1_copyRow l D cy (o 6) (d 6) H.size 4 rm2 rm (by decide)
  refine kS_v (wr := [oD d lt2 mn2 vs, ai (cy 0) (d 7) 10 cd, oD o lt2 mn2 vs2, ai (cy 0) (o 7) 10 cd2, ai (cy 0) (o 1) 24 pt2, ai (cy 0) (d 1) 24 pt2, ai (cy 0) (o 2) 24 tk2, ai (cy 0) (d 2) 24 tk2, ai (cy 0) (o 3) 24 mr2, ai (cy 0) (d 3) 24 mr2, ai (cy 0) (o 4) 10 od2, ai (cy 0) (d 4) 10 od2, ai (cy 0) (o 5) 10 pl2, ai (cy 0) (d 5) 10 pl2]) (As := [.ref (o 6), .ref (d 6)]) (rest := []) ⟨hx, hb, hml, hown, hts⟩ M_79 (va_cwS 2 hts gX1_copyFrom_X1_copyRow rfl rfl rfl (by decide +kernel) ⟨Nat.le_of_ble_eq_true rfl, Nat.le_of_ble_eq_true rfl⟩) hN hK hP hD hS hA [4, 1] [0, 2, 3, 5, 6, 7, 8, 9, 10, 11, 12, 13, 14, 15] rfl rfl (by decide) (by decide) (by decide) rfl hl.1 rfl (Nat.le_of_ble_eq_true rfl) dX1_copyFrom_79 ⟨Nat.le_of_ble_eq_true rfl, Nat.le_of_ble_eq_true rfl⟩ (fun u_79 H locs hw_79 hP hD hS => ?_)
  replace hP : va_P D vwCl [oD d lt2 mn2 vs, ai (cy 0) (d 7) 10 cd, oD o lt2 mn2 vs2, ai (cy 0) (o 7) 10 cd2, ai (cy 0) (o 1) 24 pt2, ai (cy 0) (d 1) 24 pt2, ai (cy 0) (o 2) 24 tk2, ai (cy 0) (d 2) 24 tk2, ai (cy 0) (o 3) 24 mr2, ai (cy 0) (d 3) 24 mr2, ai (cy 0) (o 4) 10 od2, ai (cy 0) (d 4) 10 od2, ai (cy 0) (o 5) 10 pl2, ai (cy 0) (d 5) 10 pl2, ai (cy 0) (o 6) 4 rm2, ai (cy 0) (d 6) 4 rm2] H := hP
  replace hD : va_D A [oD d lt2 mn2 vs, ai (cy 0) (d 7) 10 cd, oD o lt2 mn2 vs2, ai (cy 0) (o 7) 10 cd2, ai (cy 0) (o 1) 24 pt2, ai (cy 0) (d 1) 24 pt2, ai (cy 0) (o 2) 24 tk2, ai (cy 0) (d 2) 24 tk2, ai (cy 0) (o 3) 24 mr2, ai (cy 0) (d 3) 24 mr2, ai (cy 0) (o 4) 10 od2, ai (cy 0) (d 4) 10 od2, ai (cy 0) (o 5) 10 pl2, ai (cy 0) (d 5) 10 pl2, ai (cy 0) (o 6) 4 rm2, ai (cy 0) (d 6) 4 rm2] := hD
  refine lv_aload_n hx hb dX1_copyFrom_82 rfl (lv_at hl 1 rfl) ?_
  refine va_get (D := D) (C := RX1) (T := TX1) (N := 10) (ci := 1) (v := .ref (o 7)) hx hb hts iw_X1_copyFrom_1 hown hK hP 2 rfl rfl 8 (by decide) (hts _ fl_X1_copyFrom_34) (fun _ h9 => h9) rfl dX1_copyFrom_83 ?_
  refine lv_aload_n hx hb dX1_copyFrom_86 rfl (lv_at hl 0 rfl) ?_
  refine va_get (D := D) (C := RX1) (T := TX1) (N := 10) (ci := 1) (v := .ref (d 7)) hx hb hts iw_X1_copyFrom_1 hown hK hP 0 rfl rfl 8 (by decide) (hts _ fl_X1_copyFrom_34) (fun _ h9 => h9) rfl dX1_copyFrom_87 ?_
  have M_90 := k_X1_copyRow l D cy (o 7) (d 7) H.size 10 cd2 cd (by decide)
  refine kS_v (wr := [oD d lt2 mn2 vs, oD o lt2 mn2 vs2, ai (cy 0) (o 1) 24 pt2, ai (cy 0) (d 1) 24 pt2, ai (cy 0) (o 2) 24 tk2, ai (cy 0) (d 2) 24 tk2, ai (cy 0) (o 3) 24 mr2, ai (cy 0) (d 3) 24 mr2, ai (cy 0) (o 4) 10 od2, ai (cy 0) (d 4) 10 od2, ai (cy 0) (o 5) 10 pl2, ai (cy 0) (d 5) 10 pl2, ai (cy 0) (o 6) 4 rm2, ai (cy 0) (d 6) 4 rm2]) (As := [.ref (o 7), .ref (d 7)]) (rest := []) ⟨hx, hb, hml, hown, hts⟩ M_90 (va_cwS 2 hts gX1_copyFrom_X1_copyRow rfl rfl rfl (by decide +kernel) ⟨Nat.le_of_ble_eq_true rfl, Nat.le_of_ble_eq_true rfl⟩) hN hK hP hD hS hA [3, 1] [0, 2, 4, 5, 6, 7, 8, 9, 10, 11, 12, 13, 14, 15] rfl rfl (by decide) (by decide) (by decide) rfl hl.1 rfl (Nat.le_of_ble_eq_true rfl) dX1_copyFrom_90 ⟨Nat.le_of_ble_eq_true rfl, Nat.le_of_ble_eq_true rfl⟩ (fun u_90 H locs hw_90 hP hD hS => ?_)
  replace hP : va_P D vwCl [oD d lt2 mn2 vs, oD o lt2 mn2 vs2, ai (cy 0) (o 1) 24 pt2, ai (cy 0) (d 1) 24 pt2, ai (cy 0) (o 2) 24 tk2, ai (cy 0) (d 2) 24 tk2, ai (cy 0) (o 3) 24 mr2, ai (cy 0) (d 3) 24 mr2, ai (cy 0) (o 4) 10 od2, ai (cy 0) (d 4) 10 od2, ai (cy 0) (o 5) 10 pl2, ai (cy 0) (d 5) 10 pl2, ai (cy 0) (o 6) 4 rm2, ai (cy 0) (d 6) 4 rm2, ai (cy 0) (o 7) 10 cd2, ai (cy 0) (d 7) 10 cd2] H := hP
  replace hD : va_D A [oD d lt2 mn2 vs, oD o lt2 mn2 vs2, ai (cy 0) (o 1) 24 pt2, ai (cy 0) (d 1) 24 pt2, ai (cy 0) (o 2) 24 tk2, ai (cy 0) (d 2) 24 tk2, ai (cy 0) (o 3) 24 mr2, ai (cy 0) (d 3) 24 mr2, ai (cy 0) (o 4) 10 od2, ai (cy 0) (d 4) 10 od2, ai (cy 0) (o 5) 10 pl2, ai (cy 0) (d 5) 10 pl2, ai (cy 0) (o 6) 4 rm2, ai (cy 0) (d 6) 4 rm2, ai (cy 0) (o 7) 10 cd2, ai (cy 0) (d 7) 10 cd2] := hD
  refine lv_aload_n hx hb dX1_copyFrom_93 rfl (lv_at hl 0 rfl) ?_
  refine lv_dup hx hb dX1_copyFrom_94 rfl ?_
  refine va_get (D := D) (C := RX1) (T := TX1) (N := 10) (ci := 1) (v := .int (iI vs)) hx hb hts iw_X1_copyFrom_1 hown hK hP 0 rfl rfl 9 (by decide) (hts _ fl_X1_copyFrom_46) (fun _ h9 => h9) rfl dX1_copyFrom_95 ?_
  refine r_const hx hb dX1_copyFrom_98 ?_
  refine r_add hx hb dX1_copyFrom_99 ?_
  refine va_put (D := D) (C := RX1) (T := TX1) (N := 10) (ci := 1) (v := .int (iI (vs + 1))) (ty := .int) hx hb hts iw_X1_copyFrom_1 tyX1 tyX1_ok nmX1 hown hK hP hD hS 0 rfl rfl 9 (by decide) (hts _ fl_X1_copyFrom_46) (fun _ h9 => h9) rfl (by decide +kernel) rfl rfl (Nat.le_of_ble_eq_true rfl) dX1_copyFrom_100 (fun H locs hP hD hS => ?_)
  replace hP : va_P D vwCl [oD d lt2 mn2 (vs + 1), oD o lt2 mn2 vs2, ai (cy 0) (o 1) 24 pt2, ai (cy 0) (d 1) 24 pt2, ai (cy 0) (o 2) 24 tk2, ai (cy 0) (d 2) 24 tk2, ai (cy 0) (o 3) 24 mr2, ai (cy 0) (d 3) 24 mr2, ai (cy 0) (o 4) 10 od2, ai (cy 0) (d 4) 10 od2, ai (cy 0) (o 5) 10 pl2, ai (cy 0) (d 5) 10 pl2, ai (cy 0) (o 6) 4 rm2, ai (cy 0) (d 6) 4 rm2, ai (cy 0) (o 7) 10 cd2, ai (cy 0) (d 7) 10 cd2] H := hP
  replace hD : va_D A [oD d lt2 mn2 (vs + 1), oD o lt2 mn2 vs2, ai (cy 0) (o 1) 24 pt2, ai (cy 0) (d 1) 24 pt2, ai (cy 0) (o 2) 24 tk2, ai (cy 0) (d 2) 24 tk2, ai (cy 0) (o 3) 24 mr2, ai (cy 0) (d 3) 24 mr2, ai (cy 0) (o 4) 10 od2, ai (cy 0) (d 4) 10 od2, ai (cy 0) (o 5) 10 pl2, ai (cy 0) (d 5) 10 pl2, ai (cy 0) (o 6) 4 rm2, ai (cy 0) (d 6) 4 rm2, ai (cy 0) (o 7) 10 cd2, ai (cy 0) (d 7) 10 cd2] := hD
  exact hret [0, 3, 5, 7, 9, 11, 13, 15, 1, 2, 4, 6, 8, 10, 12, 14] () dX1_copyFrom_103 hP hD hS (by decide) rfl (by trivial)
