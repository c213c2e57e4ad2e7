theorem GI_up  {lt : Int} {mn : Int} {vs : Int} {pt : Int → Int} {tk : Int → Int} {mr : Int → Int} {od : Int → Int} {pl : Int → Int} {rm : Int → Int} {cd : Int → Int} {kp : Int} {kv : Int} {pn : Int} {le : Int} {ti : Int} {bc : Int → Int} {fp : Int → Int} {fc : Int → Int} {fp2 : Int → Int} {fc2 : Int → Int} {f0 : Int} {f1 : Int} {im : Int → Int} {kf : Int → Int} {alt : Int} {amn : Int} {apt : Int → Int} {atk : Int → Int} {amr : Int → Int} {aod : Int → Int} {apl : Int → Int} {arm : Int → Int} {acd : Int → Int} {blt : Int} {bmn : Int} {bpt : Int → Int} {btk : Int → Int} {bmr : Int → Int} {bod : Int → Int} {bpl : Int → Int} {brm : Int → Int} {bcd : Int → Int} {i : Int} (h : GI lt mn vs pt tk mr od pl rm cd kp kv pn le ti bc fp fc fp2 fc2 f0 f1 im kf alt amn apt atk amr aod apl arm acd blt bmn bpt btk bmr bod bpl brm bcd i) : GI lt mn vs pt tk mr od pl rm cd kp kv pn le ti bc fp fc fp2 fc2 f0 f1 im kf alt amn apt atk amr aod apl arm acd blt bmn bpt btk bmr bod bpl brm bcd (i + 3) := ⟨h.1, h.2.1, ⟨h.2.2.1.1, by have := h.2.2.1.2; omega⟩, h.2.2.2⟩
set_option maxHeartbeats 4000000 in
set_option maxRecDepth 100000 in
theorem law_loop {p : Program} {l : Launch} {e : Env} {s : State} {m : MethodId} {below : List Frame} {meth : Method} {c : Code} {b L : Nat} {xs : Nat → Int32} {D : va_G} {cy : Nat → ClassId} {xo d e0 e1 ps bs fb pb wt fw mo : Nat → Nat} (C0 : lw_At p s m meth c b L xs) (hK : va_K D vwCl (tyL cy) s) (hN : nestOK s) (hL : L ≤ 1536) {A : Nat → Prop} (hA : ∀ q : Nat, s.heap.size ≤ q → A q) (hbA : ¬ A b) (hAl : ∀ q : Nat, A q → s.heap.size ≤ q) : ∀ (n : Nat) (i : Int), 0 ≤ i ∧ i ≤ L → ((L : Int) - i).toNat < n → ∀ (f0 f1 lt mn vs alt amn avs blt bmn bvs cm kp kv pn le ti sz be cm2 sz2 be2 rn sn co bp ag pn2 : Int) (pt tk mr od pl rm cd apt atk amr aod apl arm acd bpt btk bmr bod bpl brm bcd or sa so g0 g1 g2 g3 ht ld bc fp fc orb sab sob g0b g1b g2b g3b htb ldb wq l0 l1 l2 li fp2 fc2 im kf rv sw gt sam ldm cq rq : Int → Int), GI lt mn vs pt tk mr od pl rm cd kp kv pn le ti bc fp fc fp2 fc2 f0 f1 im kf alt amn apt atk amr aod apl arm acd blt bmn bpt btk bmr bod bpl brm bcd i → ∀ (H : Heap) (locs : List Loc), va_P D vwCl (LW cy xo d e0 e1 ps bs fb pb wt fw mo f0 f1 lt mn vs alt amn avs blt bmn bvs cm kp kv pn le ti sz be cm2 sz2 be2 rn sn co bp ag pn2 pt tk mr od pl rm cd apt atk amr aod apl arm acd bpt btk bmr bod bpl brm bcd or sa so g0 g1 g2 g3 ht ld bc fp fc orb sab sob g0b g1b g2b g3b htb ldb wq l0 l1 l2 li fp2 fc2 im kf rv sw gt sam ldm cq rq) H → va_D A (LW cy xo d e0 e1 ps bs fb pb wt fw mo f0 f1 lt mn vs alt amn avs blt bmn bvs cm kp kv pn le ti sz be cm2 sz2 be2 rn sn co bp ag pn2 pt tk mr od pl rm cd apt atk amr aod apl arm acd bpt btk bmr bod bpl brm bcd or sa so g0 g1 g2 g3 ht ld bc fp fc orb sab sob g0b g1b g2b g3b htb ldb wq l0 l1 l2 li fp2 fc2 im kf rv sw gt sam ldm cq rq) → va_S A s.heap H locs → ∀ (ls : Array Slot), lv_has ls 4 [(3, .int (iI i)), (2, .ref (mo 0)), (1, .ref (xo 0)), (0, .ref b)] → W p l e room_1 s m #[Value.ref b] below meth c H locs 74 1227 (lw_Z below #[Value.ref b] s) (F0 m 18 ls []) := by
  obtain ⟨hx, hb, hr, hml, hown, hts0, hX, hbl, hlocks, hgv⟩ := id C0
  intro n
  induction n with
  | zero =>
    intro i hi hm
    exact absurd hm (Nat.not_lt_zero _)
  | succ n ih =>
    intro i hi hm f0 f1 lt mn vs alt amn avs blt bmn bvs cm kp kv pn le ti sz be cm2 sz2 be2 rn sn co bp ag pn2 pt tk mr od pl rm cd apt atk amr aod apl arm acd bpt btk bmr bod bpl brm bcd or sa so g0 g1 g2 g3 ht ld bc fp fc orb sab sob g0b g1b g2b g3b htb ldb wq l0 l1 l2 li fp2 fc2 im kf rv sw gt sam ldm cq rq hg H locs hP hD hS ls hl
    refine lv_iload_n hx hb dL_law_18 rfl (lv_at hl 0 rfl) ?_
    refine lv_aload_n hx hb dL_law_19 rfl (lv_at hl 3 rfl) ?_
    refine r_slen hx hb hX hbl hbA hS dL_law_20 ?_
    refine r_const hx hb dL_law_21 ?_
    refine r_sub hx hb dL_law_22 ?_
    refine r_gt hx hb 728 dL_law_23 (by decide) ⟨by omega, by omega⟩ ⟨by omega, by omega⟩ (fun c_23 => ?_) (fun c_23 => ?_)
    · refine lv_iconst (v := 1) hx hb dL_law_728 (by decide) ?_
      refine va_forget (fun q hq => hAl _ (hS.2.2 q hq)) ?_
      refine W.widen (k := 600000) (n := 7302250) (Nat.le_of_ble_eq_true rfl) (Nat.le_of_ble_eq_true rfl) ?_
      exact lw_ret hx hb hr hlocks dL_law_729
    · have hi3 : i + 3 ≤ L := by omega
      have hnx : ∀ (f0 f1 lt mn vs alt amn avs blt bmn bvs cm kp kv pn le ti sz be cm2 sz2 be2 rn sn co bp ag pn2 : Int) (pt tk mr od pl rm cd apt atk amr aod apl arm acd bpt btk bmr bod bpl brm bcd or sa so g0 g1 g2 g3 ht ld bc fp fc orb sab sob g0b g1b g2b g3b htb ldb wq l0 l1 l2 li fp2 fc2 im kf rv sw gt sam ldm cq rq : Int → Int), GI lt mn vs pt tk mr od pl rm cd kp kv pn le ti bc fp fc fp2 fc2 f0 f1 im kf alt amn apt atk amr aod apl arm acd blt bmn bpt btk bmr bod bpl brm bcd (i + 3) → ∀ (H : Heap) (locs : List Loc), va_P D vwCl (LW cy xo d e0 e1 ps bs fb pb wt fw mo f0 f1 lt mn vs alt amn avs blt bmn bvs cm kp kv pn le ti sz be cm2 sz2 be2 rn sn co bp ag pn2 pt tk mr od pl rm cd apt atk amr aod apl arm acd bpt btk bmr bod bpl brm bcd or sa so g0 g1 g2 g3 ht ld bc fp fc orb sab sob g0b g1b g2b g3b htb ldb wq l0 l1 l2 li fp2 fc2 im kf rv sw gt sam ldm cq rq) H → va_D A (LW cy xo d e0 e1 ps bs fb pb wt fw mo f0 f1 lt mn vs alt amn avs blt bmn bvs cm kp kv pn le ti sz be cm2 sz2 be2 rn sn co bp ag pn2 pt tk mr od pl rm cd apt atk amr aod apl arm acd bpt btk bmr bod bpl brm bcd or sa so g0 g1 g2 g3 ht ld bc fp fc orb sab sob g0b g1b g2b g3b htb ldb wq l0 l1 l2 li fp2 fc2 im kf rv sw gt sam ldm cq rq) → va_S A s.heap H locs → ∀ (ls : Array Slot), lv_has ls 4 [(3, .int (iI i)), (2, .ref (mo 0)), (1, .ref (xo 0)), (0, .ref b)] → W p l e room_1 s m #[Value.ref b] below meth c H locs 74 1227 (lw_Z below #[Value.ref b] s) (F0 m 722 ls []) := by
        intro f0 f1 lt mn vs alt amn avs blt bmn bvs cm kp kv pn le ti sz be cm2 sz2 be2 rn sn co bp ag pn2 pt tk mr od pl rm cd apt atk amr aod apl arm acd bpt btk bmr bod bpl brm bcd or sa so g0 g1 g2 g3 ht ld bc fp fc orb sab sob g0b g1b g2b g3b htb ldb wq l0 l1 l2 li fp2 fc2 im kf rv sw gt sam ldm cq rq hg H locs hP hD hS ls hl
        refine r_inc (k := 0) (lv' := [(3, .int (iI (i + 3))), (2, .ref (mo 0)), (1, .ref (xo 0)), (0, .ref b)]) hx hb dL_law_722 hl rfl (by decide) rfl (fun ls hl => ?_)
        refine lv_goto (tgt := 18) hx hb dL_law_725 (by decide) ?_
        exact ih (i + 3) ⟨by omega, by omega⟩ (by omega) f0 f1 lt mn vs alt amn avs blt bmn bvs cm kp kv pn le ti sz be cm2 sz2 be2 rn sn co bp ag pn2 pt tk mr od pl rm cd apt atk amr aod apl arm acd bpt btk bmr bod bpl brm bcd or sa so g0 g1 g2 g3 ht ld bc fp fc orb sab sob g0b g1b g2b g3b htb ldb wq l0 l1 l2 li fp2 fc2 im kf rv sw gt sam ldm cq rq hg H locs hP hD hS ls hl
      refine lv_aload_n hx hb dL_law_26 rfl (lv_at hl 3 rfl) ?_
      refine lv_iload_n hx hb dL_law_27 rfl (lv_at hl 0 rfl) ?_
      refine r_sld hx hb hX hbl hbA hS ⟨by omega, by omega, by omega⟩ dL_law_28 ?_
      refine r_bip hx hb (31) dL_law_29 (by decide) ?_
      refine r_and hx hb dL_law_31 ?_
      obtain ⟨z, hz⟩ : ∃ z, z = zand (sx xs i) 31 := ⟨_, rfl⟩
      rw [← hz]
      have hzr : inR z := by rw [hz]; exact inR_of _
      by_cases cz : z < 0 ∨ 21 < z
      · refine lv_tableOut (tgt := 722) hx hb dL_law_32 (by rw [iI_toInt hzr]; exact cz) (by decide) ?_
        exact hnx f0 f1 lt mn vs alt amn avs blt bmn bvs cm kp kv pn le ti sz be cm2 sz2 be2 rn sn co bp ag pn2 pt tk mr od pl rm cd apt atk amr aod apl arm acd bpt btk bmr bod bpl brm bcd or sa so g0 g1 g2 g3 ht ld bc fp fc orb sab sob g0b g1b g2b g3b htb ldb wq l0 l1 l2 li fp2 fc2 im kf rv sw gt sam ldm cq rq (GI_up hg) H locs hP hD hS ls hl
      by_cases cz_0 : z = 0
      · refine lv_tableIn (tgt := 136) hx hb dL_law_32 (by rw [iI_toInt hzr]; omega) (by rw [iI_toInt hzr]; omega) (off := 104) (by rw [iI_toInt hzr, cz_0]; rfl) (by decide) ?_
        exact lawc_0 C0 hK hN hL hA hbA i ⟨hi.1, hi3⟩ f0 f1 lt mn vs alt amn avs blt bmn bvs cm kp kv pn le ti sz be cm2 sz2 be2 rn sn co bp ag pn2 pt tk mr od pl rm cd apt atk amr aod apl arm acd bpt btk bmr bod bpl brm bcd or sa so g0 g1 g2 g3 ht ld bc fp fc orb sab sob g0b g1b g2b g3b htb ldb wq l0 l1 l2 li fp2 fc2 im kf rv sw gt sam ldm cq rq hg H locs hP hD hS ls hl hnx
      by_cases cz_1 : z = 1
      · refine lv_tableIn (tgt := 169) hx hb dL_law_32 (by rw [iI_toInt hzr]; omega) (by rw [iI_toInt hzr]; omega) (off := 137) (by rw [iI_toInt hzr, cz_1]; rfl) (by decide) ?_
        exact lawc_1 C0 hK hN hL hA hbA i ⟨hi.1, hi3⟩ f0 f1 lt mn vs alt amn avs blt bmn bvs cm kp kv pn le ti sz be cm2 sz2 be2 rn sn co bp ag pn2 pt tk mr od pl rm cd apt atk amr aod apl arm acd bpt btk bmr bod bpl brm bcd or sa so g0 g1 g2 g3 ht ld bc fp fc orb sab sob g0b g1b g2b g3b htb ldb wq l0 l1 l2 li fp2 fc2 im kf rv sw gt sam ldm cq rq hg H locs hP hD hS ls hl hnx
      by_cases cz_2 : z = 2
      · refine lv_tableIn (tgt := 202) hx hb dL_law_32 (by rw [iI_toInt hzr]; omega) (by rw [iI_toInt hzr]; omega) (off := 170) (by rw [iI_toInt hzr, cz_2]; rfl) (by decide) ?_
        exact lawc_2 C0 hK hN hL hA hbA i ⟨hi.1, hi3⟩ f0 f1 lt mn vs alt amn avs blt bmn bvs cm kp kv pn le ti sz be cm2 sz2 be2 rn sn co bp ag pn2 pt tk mr od pl rm cd apt atk amr aod apl arm acd bpt btk bmr bod bpl brm bcd or sa so g0 g1 g2 g3 ht ld bc fp fc orb sab sob g0b g1b g2b g3b htb ldb wq l0 l1 l2 li fp2 fc2 im kf rv sw gt sam ldm cq rq hg H locs hP hD hS ls hl hnx
      by_cases cz_3 : z = 3
      · refine lv_tableIn (tgt := 225) hx hb dL_law_32 (by rw [iI_toInt hzr]; omega) (by rw [iI_toInt hzr]; omega) (off := 193) (by rw [iI_toInt hzr, cz_3]; rfl) (by decide) ?_
        exact lawc_3 C0 hK hN hL hA hbA i ⟨hi.1, hi3⟩ f0 f1 lt mn vs alt amn avs blt bmn bvs cm kp kv pn le ti sz be cm2 sz2 be2 rn sn co bp ag pn2 pt tk mr od pl rm cd apt atk amr aod apl arm acd bpt btk bmr bod bpl brm bcd or sa so g0 g1 g2 g3 ht ld bc fp fc orb sab sob g0b g1b g2b g3b htb ldb wq l0 l1 l2 li fp2 fc2 im kf rv sw gt sam ldm cq rq hg H locs hP hD hS ls hl hnx
      by_cases cz_4 : z = 4
      · refine lv_tableIn (tgt := 258) hx hb dL_law_32 (by rw [iI_toInt hzr]; omega) (by rw [iI_toInt hzr]; omega) (off := 226) (by rw [iI_toInt hzr, cz_4]; rfl) (by decide) ?_
        exact lawc_4 C0 hK hN hL hA hbA i ⟨hi.1, hi3⟩ f0 f1 lt mn vs alt amn avs blt bmn bvs cm kp kv pn le ti sz be cm2 sz2 be2 rn sn co bp ag pn2 pt tk mr od pl rm cd apt atk amr aod apl arm acd bpt btk bmr bod bpl brm bcd or sa so g0 g1 g2 g3 ht ld bc fp fc orb sab sob g0b g1b g2b g3b htb ldb wq l0 l1 l2 li fp2 fc2 im kf rv sw gt sam ldm cq rq hg H locs hP hD hS ls hl hnx
      by_cases cz_5 : z = 5
      · refine lv_tableIn (tgt := 281) hx hb dL_law_32 (by rw [iI_toInt hzr]; omega) (by rw [iI_toInt hzr]; omega) (off := 249) (by rw [iI_toInt hzr, cz_5]; rfl) (by decide) ?_
        exact lawc_5 C0 hK hN hL hA hbA i ⟨hi.1, hi3⟩ f0 f1 lt mn vs alt amn avs blt bmn bvs cm kp kv pn le ti sz be cm2 sz2 be2 rn sn co bp ag pn2 pt tk mr od pl rm cd apt atk amr aod apl arm acd bpt btk bmr bod bpl brm bcd or sa so g0 g1 g2 g3 ht ld bc fp fc orb sab sob g0b g1b g2b g3b htb ldb wq l0 l1 l2 li fp2 fc2 im kf rv sw gt sam ldm cq rq hg H locs hP hD hS ls hl hnx
      by_cases cz_6 : z = 6
      · refine lv_tableIn (tgt := 304) hx hb dL_law_32 (by rw [iI_toInt hzr]; omega) (by rw [iI_toInt hzr]; omega) (off := 272) (by rw [iI_toInt hzr, cz_6]; rfl) (by decide) ?_
        exact lawc_6 C0 hK hN hL hA hbA i ⟨hi.1, hi3⟩ f0 f1 lt mn vs alt amn avs blt bmn bvs cm kp kv pn le ti sz be cm2 sz2 be2 rn sn co bp ag pn2 pt tk mr od pl rm cd apt atk amr aod apl arm acd bpt btk bmr bod bpl brm bcd or sa so g0 g1 g2 g3 ht ld bc fp fc orb sab sob g0b g1b g2b g3b htb ldb wq l0 l1 l2 li fp2 fc2 im kf rv sw gt sam ldm cq rq hg H locs hP hD hS ls hl hnx
      by_cases cz_7 : z = 7
      · refine lv_tableIn (tgt := 337) hx hb dL_law_32 (by rw [iI_toInt hzr]; omega) (by rw [iI_toInt hzr]; omega) (off := 305) (by rw [iI_toInt hzr, cz_7]; rfl) (by decide) ?_
        exact lawc_7 C0 hK hN hL hA hbA i ⟨hi.1, hi3⟩ f0 f1 lt mn vs alt amn avs blt bmn bvs cm kp kv pn le ti sz be cm2 sz2 be2 rn sn co bp ag pn2 pt tk mr od pl rm cd apt atk amr aod apl arm acd bpt btk bmr bod bpl brm bcd or sa so g0 g1 g2 g3 ht ld bc fp fc orb sab sob g0b g1b g2b g3b htb ldb wq l0 l1 l2 li fp2 fc2 im kf rv sw gt sam ldm cq rq hg H locs hP hD hS ls hl hnx
      by_cases cz_8 : z = 8
      · refine lv_tableIn (tgt := 370) hx hb dL_law_32 (by rw [iI_toInt hzr]; omega) (by rw [iI_toInt hzr]; omega) (off := 338) (by rw [iI_toInt hzr, cz_8]; rfl) (by decide) ?_
        exact lawc_8 C0 hK hN hL hA hbA i ⟨hi.1, hi3⟩ f0 f1 lt mn vs alt amn avs blt bmn bvs cm kp kv pn le ti sz be cm2 sz2 be2 rn sn co bp ag pn2 pt tk mr od pl rm cd apt atk amr aod apl arm acd bpt btk bmr bod bpl brm bcd or sa so g0 g1 g2 g3 ht ld bc fp fc orb sab sob g0b g1b g2b g3b htb ldb wq l0 l1 l2 li fp2 fc2 im kf rv sw gt sam ldm cq rq hg H locs hP hD hS ls hl hnx
      by_cases cz_9 : z = 9
      · refine lv_tableIn (tgt := 383) hx hb dL_law_32 (by rw [iI_toInt hzr]; omega) (by rw [iI_toInt hzr]; omega) (off := 351) (by rw [iI_toInt hzr, cz_9]; rfl) (by decide) ?_
        exact lawc_9 C0 hK hN hL hA hbA i ⟨hi.1, hi3⟩ f0 f1 lt mn vs alt amn avs blt bmn bvs cm kp kv pn le ti sz be cm2 sz2 be2 rn sn co bp ag pn2 pt tk mr od pl rm cd apt atk amr aod apl arm acd bpt btk bmr bod bpl brm bcd or sa so g0 g1 g2 g3 ht ld bc fp fc orb sab sob g0b g1b g2b g3b htb ldb wq l0 l1 l2 li fp2 fc2 im kf rv sw gt sam ldm cq rq hg H locs hP hD hS ls hl hnx
      by_cases cz_10 : z = 10
      · refine lv_tableIn (tgt := 416) hx hb dL_law_32 (by rw [iI_toInt hzr]; omega) (by rw [iI_toInt hzr]; omega) (off := 384) (by rw [iI_toInt hzr, cz_10]; rfl) (by decide) ?_
        exact lawc_10 C0 hK hN hL hA hbA i ⟨hi.1, hi3⟩ f0 f1 lt mn vs alt amn avs blt bmn bvs cm kp kv pn le ti sz be cm2 sz2 be2 rn sn co bp ag pn2 pt tk mr od pl rm cd apt atk amr aod apl arm acd bpt btk bmr bod bpl brm bcd or sa so g0 g1 g2 g3 ht ld bc fp fc orb sab sob g0b g1b g2b g3b htb ldb wq l0 l1 l2 li fp2 fc2 im kf rv sw gt sam ldm cq rq hg H locs hP hD hS ls hl hnx
      by_cases cz_11 : z = 11
      · refine lv_tableIn (tgt := 449) hx hb dL_law_32 (by rw [iI_toInt hzr]; omega) (by rw [iI_toInt hzr]; omega) (off := 417) (by rw [iI_toInt hzr, cz_11]; rfl) (by decide) ?_
        exact lawc_11 C0 hK hN hL hA hbA i ⟨hi.1, hi3⟩ f0 f1 lt mn vs alt amn avs blt bmn bvs cm kp kv pn le ti sz be cm2 sz2 be2 rn sn co bp ag pn2 pt tk mr od pl rm cd apt atk amr aod apl arm acd bpt btk bmr bod bpl brm bcd or sa so g0 g1 g2 g3 ht ld bc fp fc orb sab sob g0b g1b g2b g3b htb ldb wq l0 l1 l2 li fp2 fc2 im kf rv sw gt sam ldm cq rq hg H locs hP hD hS ls hl hnx
      by_cases cz_12 : z = 12
      · refine lv_tableIn (tgt := 482) hx hb dL_law_32 (by rw [iI_toInt hzr]; omega) (by rw [iI_toInt hzr]; omega) (off := 450) (by rw [iI_toInt hzr, cz_12]; rfl) (by decide) ?_
        exact lawc_12 C0 hK hN hL hA hbA i ⟨hi.1, hi3⟩ f0 f1 lt mn vs alt amn avs blt bmn bvs cm kp kv pn le ti sz be cm2 sz2 be2 rn sn co bp ag pn2 pt tk mr od pl rm cd apt atk amr aod apl arm acd bpt btk bmr bod bpl brm bcd or sa so g0 g1 g2 g3 ht ld bc fp fc orb sab sob g0b g1b g2b g3b htb ldb wq l0 l1 l2 li fp2 fc2 im kf rv sw gt sam ldm cq rq hg H locs hP hD hS ls hl hnx
      by_cases cz_13 : z = 13
      · refine lv_tableIn (tgt := 515) hx hb dL_law_32 (by rw [iI_toInt hzr]; omega) (by rw [iI_toInt hzr]; omega) (off := 483) (by rw [iI_toInt hzr, cz_13]; rfl) (by decide) ?_
        exact lawc_13 C0 hK hN hL hA hbA i ⟨hi.1, hi3⟩ f0 f1 lt mn vs alt amn avs blt bmn bvs cm kp kv pn le ti sz be cm2 sz2 be2 rn sn co bp ag pn2 pt tk mr od pl rm cd apt atk amr aod apl arm acd bpt btk bmr bod bpl brm bcd or sa so g0 g1 g2 g3 ht ld bc fp fc orb sab sob g0b g1b g2b g3b htb ldb wq l0 l1 l2 li fp2 fc2 im kf rv sw gt sam ldm cq rq hg H locs hP hD hS ls hl hnx
      by_cases cz_14 : z = 14
      · refine lv_tableIn (tgt := 548) hx hb dL_law_32 (by rw [iI_toInt hzr]; omega) (by rw [iI_toInt hzr]; omega) (off := 516) (by rw [iI_toInt hzr, cz_14]; rfl) (by decide) ?_
        exact lawc_14 C0 hK hN hL hA hbA i ⟨hi.1, hi3⟩ f0 f1 lt mn vs alt amn avs blt bmn bvs cm kp kv pn le ti sz be cm2 sz2 be2 rn sn co bp ag pn2 pt tk mr od pl rm cd apt atk amr aod apl arm acd bpt btk bmr bod bpl brm bcd or sa so g0 g1 g2 g3 ht ld bc fp fc orb sab sob g0b g1b g2b g3b htb ldb wq l0 l1 l2 li fp2 fc2 im kf rv sw gt sam ldm cq rq hg H locs hP hD hS ls hl hnx
      by_cases cz_15 : z = 15
      · refine lv_tableIn (tgt := 561) hx hb dL_law_32 (by rw [iI_toInt hzr]; omega) (by rw [iI_toInt hzr]; omega) (off := 529) (by rw [iI_toInt hzr, cz_15]; rfl) (by decide) ?_
        exact lawc_15 C0 hK hN hL hA hbA i ⟨hi.1, hi3⟩ f0 f1 lt mn vs alt amn avs blt bmn bvs cm kp kv pn le ti sz be cm2 sz2 be2 rn sn co bp ag pn2 pt tk mr od pl rm cd apt atk amr aod apl arm acd bpt btk bmr bod bpl brm bcd or sa so g0 g1 g2 g3 ht ld bc fp fc orb sab sob g0b g1b g2b g3b htb ldb wq l0 l1 l2 li fp2 fc2 im kf rv sw gt sam ldm cq rq hg H locs hP hD hS ls hl hnx
      by_cases cz_16 : z = 16
      · refine lv_tableIn (tgt := 594) hx hb dL_law_32 (by rw [iI_toInt hzr]; omega) (by rw [iI_toInt hzr]; omega) (off := 562) (by rw [iI_toInt hzr, cz_16]; rfl) (by decide) ?_
        exact lawc_16 C0 hK hN hL hA hbA i ⟨hi.1, hi3⟩ f0 f1 lt mn vs alt amn avs blt bmn bvs cm kp kv pn le ti sz be cm2 sz2 be2 rn sn co bp ag pn2 pt tk mr od pl rm cd apt atk amr aod apl arm acd bpt btk bmr bod bpl brm bcd or sa so g0 g1 g2 g3 ht ld bc fp fc orb sab sob g0b g1b g2b g3b htb ldb wq l0 l1 l2 li fp2 fc2 im kf rv sw gt sam ldm cq rq hg H locs hP hD hS ls hl hnx
      by_cases cz_17 : z = 17
      · refine lv_tableIn (tgt := 617) hx hb dL_law_32 (by rw [iI_toInt hzr]; omega) (by rw [iI_toInt hzr]; omega) (off := 585) (by rw [iI_toInt hzr, cz_17]; rfl) (by decide) ?_
        exact lawc_17 C0 hK hN hL hA hbA i ⟨hi.1, hi3⟩ f0 f1 lt mn vs alt amn avs blt bmn bvs cm kp kv pn le ti sz be cm2 sz2 be2 rn sn co bp ag pn2 pt tk mr od pl rm cd apt atk amr aod apl arm acd bpt btk bmr bod bpl brm bcd or sa so g0 g1 g2 g3 ht ld bc fp fc orb sab sob g0b g1b g2b g3b htb ldb wq l0 l1 l2 li fp2 fc2 im kf rv sw gt sam ldm cq rq hg H locs hP hD hS ls hl hnx
      by_cases cz_18 : z = 18
      · refine lv_tableIn (tgt := 630) hx hb dL_law_32 (by rw [iI_toInt hzr]; omega) (by rw [iI_toInt hzr]; omega) (off := 598) (by rw [iI_toInt hzr, cz_18]; rfl) (by decide) ?_
        exact lawc_18 C0 hK hN hL hA hbA i ⟨hi.1, hi3⟩ f0 f1 lt mn vs alt amn avs blt bmn bvs cm kp kv pn le ti sz be cm2 sz2 be2 rn sn co bp ag pn2 pt tk mr od pl rm cd apt atk amr aod apl arm acd bpt btk bmr bod bpl brm bcd or sa so g0 g1 g2 g3 ht ld bc fp fc orb sab sob g0b g1b g2b g3b htb ldb wq l0 l1 l2 li fp2 fc2 im kf rv sw gt sam ldm cq rq hg H locs hP hD hS ls hl hnx
      by_cases cz_19 : z = 19
      · refine lv_tableIn (tgt := 653) hx hb dL_law_32 (by rw [iI_toInt hzr]; omega) (by rw [iI_toInt hzr]; omega) (off := 621) (by rw [iI_toInt hzr, cz_19]; rfl) (by decide) ?_
        exact lawc_19 C0 hK hN hL hA hbA i ⟨hi.1, hi3⟩ f0 f1 lt mn vs alt amn avs blt bmn bvs cm kp kv pn le ti sz be cm2 sz2 be2 rn sn co bp ag pn2 pt tk mr od pl rm cd apt atk amr aod apl arm acd bpt btk bmr bod bpl brm bcd or sa so g0 g1 g2 g3 ht ld bc fp fc orb sab sob g0b g1b g2b g3b htb ldb wq l0 l1 l2 li fp2 fc2 im kf rv sw gt sam ldm cq rq hg H locs hP hD hS ls hl hnx
      by_cases cz_20 : z = 20
      · refine lv_tableIn (tgt := 676) hx hb dL_law_32 (by rw [iI_toInt hzr]; omega) (by rw [iI_toInt hzr]; omega) (off := 644) (by rw [iI_toInt hzr, cz_20]; rfl) (by decide) ?_
        exact lawc_20 C0 hK hN hL hA hbA i ⟨hi.1, hi3⟩ f0 f1 lt mn vs alt amn avs blt bmn bvs cm kp kv pn le ti sz be cm2 sz2 be2 rn sn co bp ag pn2 pt tk mr od pl rm cd apt atk amr aod apl arm acd bpt btk bmr bod bpl brm bcd or sa so g0 g1 g2 g3 ht ld bc fp fc orb sab sob g0b g1b g2b g3b htb ldb wq l0 l1 l2 li fp2 fc2 im kf rv sw gt sam ldm cq rq hg H locs hP hD hS ls hl hnx
      by_cases cz_21 : z = 21
      · refine lv_tableIn (tgt := 699) hx hb dL_law_32 (by rw [iI_toInt hzr]; omega) (by rw [iI_toInt hzr]; omega) (off := 667) (by rw [iI_toInt hzr, cz_21]; rfl) (by decide) ?_
        exact lawc_21 C0 hK hN hL hA hbA i ⟨hi.1, hi3⟩ f0 f1 lt mn vs alt amn avs blt bmn bvs cm kp kv pn le ti sz be cm2 sz2 be2 rn sn co bp ag pn2 pt tk mr od pl rm cd apt atk amr aod apl arm acd bpt btk bmr bod bpl brm bcd or sa so g0 g1 g2 g3 ht ld bc fp fc orb sab sob g0b g1b g2b g3b htb ldb wq l0 l1 l2 li fp2 fc2 im kf rv sw gt sam ldm cq rq hg H locs hP hD hS ls hl hnx
      exact absurd cz (by omega)
