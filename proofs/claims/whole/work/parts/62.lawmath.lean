/-! ===== the law: what stays true from call to call ===== -/
section LM
variable {lt mn vs : Int} {pt tk mr od pl rm cd : Int → Int}
theorem DI_cd {c2 : Int → Int} (hI : DI lt mn pt tk mr od pl rm cd) (h : ∀ j, 0 ≤ c2 j ∧ c2 j ≤ 63) : DI lt mn pt tk mr od pl rm c2 := ⟨hI.1, hI.2.1, hI.2.2.1, hI.2.2.2.1, h⟩
theorem DI_rm {r2 : Int → Int} (hI : DI lt mn pt tk mr od pl rm cd) (h : ∀ j, 0 ≤ r2 j ∧ r2 j ≤ 99) : DI lt mn pt tk mr od pl r2 cd := ⟨hI.1, hI.2.1, hI.2.2.1, h, hI.2.2.2.2⟩
theorem DI_mn {m2 : Int} (hI : DI lt mn pt tk mr od pl rm cd) (h : 2 ≤ m2 ∧ m2 ≤ 4) : DI lt m2 pt tk mr od pl rm cd := ⟨⟨hI.1.1, h⟩, hI.2⟩
theorem DI_mr {r2 : Int → Int} (hI : DI lt mn pt tk mr od pl rm cd) (h : ∀ j, 0 ≤ r2 j ∧ r2 j ≤ 1) : DI lt mn pt tk r2 od pl rm cd := ⟨hI.1, ⟨hI.2.1.1, hI.2.1.2.1, h⟩, hI.2.2⟩
theorem DI_add {q t : Int} (hI : DI lt mn pt tk mr od pl rm cd) (hq : 0 ≤ q ∧ q ≤ 9) (ht : 1 ≤ t ∧ t ≤ 9) (hl : lt < 24) : DI (lt + 1) mn (ud pt lt q) (ud tk lt t) (ud mr lt 0) od pl rm cd :=
  ⟨⟨⟨by have := hI.1.1; omega, by omega⟩, hI.1.2⟩, ⟨ud_b hI.2.1.1 hq.1 hq.2, ud_b hI.2.1.2.1 (by omega) ht.2, ud_b hI.2.1.2.2 (by omega) (by omega)⟩, hI.2.2⟩
theorem DI_drop {i n : Int} (hI : DI lt mn pt tk mr od pl rm cd) (h : 0 ≤ i ∧ i < lt) : DI (lt - 1) mn (shf pt i n) (shf tk i n) (shf mr i n) od pl rm cd :=
  ⟨⟨⟨by omega, by have := hI.1.1; omega⟩, hI.1.2⟩, ⟨shf_b hI.2.1.1, shf_b hI.2.1.2.1, shf_b hI.2.1.2.2⟩, hI.2.2⟩
theorem DI_swap {a b : Int} (hI : DI lt mn pt tk mr od pl rm cd) (ha : 0 ≤ a ∧ a ≤ 9) (hb : 0 ≤ b ∧ b ≤ 9) : DI lt mn pt tk mr (ud (ud od (pl b) a) (pl a) b) (ud (ud pl a (pl b)) b (pl a)) rm cd := by
  obtain ⟨h1, h2, ⟨hod, hpl, hpo, hop⟩, h4⟩ := hI
  have ea := hop a ha.1 ha.2
  have eb := hop b hb.1 hb.2
  refine ⟨h1, h2, ⟨ud_b (ud_b hod ha.1 ha.2) hb.1 hb.2, ud_b (ud_b hpl (hpl b).1 (hpl b).2) (hpl a).1 (hpl a).2, fun i i0 i1 => ?_, fun q q0 q1 => ?_⟩, h4⟩
  · have ei := hpo i i0 i1
    by_cases c1 : i = pl a
    · subst c1
      rw [ud_at, ud_at]
    · rw [ud_ne c1]
      by_cases c2 : i = pl b
      · subst c2
        have hab : a ≠ b := fun z => c1 (by rw [z])
        rw [ud_at, ud_ne hab, ud_at]
      · have n1 : od i ≠ a := fun z => c1 (by rw [← z, ei])
        have n2 : od i ≠ b := fun z => c2 (by rw [← z, ei])
        rw [ud_ne c2, ud_ne n2, ud_ne n1, ei]
  · have eq := hop q q0 q1
    by_cases c1 : q = b
    · subst c1
      rw [ud_at, ud_at]
    · rw [ud_ne c1]
      by_cases c2 : q = a
      · subst c2
        have n : pl b ≠ pl q := fun z => c1 (by rw [← eq, ← z, eb])
        rw [ud_at, ud_ne n, ud_at]
      · have n1 : pl q ≠ pl a := fun z => c2 (by rw [← eq, z, ea])
        have n2 : pl q ≠ pl b := fun z => c1 (by rw [← eq, z, eb])
        rw [ud_ne c2, ud_ne n1, ud_ne n2, eq]
theorem denC_b {hs od cd : Int → Int} (h : ∀ j, 0 ≤ cd j ∧ cd j ≤ 63) : ∀ k : Nat, k ≤ 10 → ∀ j, 0 ≤ denC hs od cd k j ∧ denC hs od cd k j ≤ 63
  | 0, _ => h
  | k + 1, hk => by
    have h1 := denC_b (hs := hs) (od := od) h k (by omega)
    have h2 := denN_b hs od k
    unfold denC
    split
    · exact ud_b h1 (by omega) (by omega)
    · exact h1
theorem BI_ch {lt2 mn2 : Int} {pt2 tk2 mr2 od2 rm2 : Int → Int} {kp kv pn le ti : Int} {bc fp fc : Int → Int} (h : BI lt mn vs pt tk mr od rm kp kv pn le ti bc fp fc) : BI lt2 mn2 (vs + 1) pt2 tk2 mr2 od2 rm2 kp kv pn le ti bc fp fc :=
  ⟨h.1, ⟨h.2.1.1, h.2.1.2.1, by have := h.2.1.2.2; omega⟩, fun _ q => absurd q (by have := h.2.1.2.2; omega)⟩
/-- the least run without spill, two ways -/
theorem few_eq {r1 r2 : Int} (hI : DI lt mn pt tk mr od pl rm cd) (h1 : ((1 ≤ r1 ∧ r1 ≤ 3) ∧ clF lt mn pt tk mr od rm r1 ∧ ∀ j, 1 ≤ j → j < r1 → ¬ clF lt mn pt tk mr od rm j) ∨ (r1 = -6 ∧ ∀ j, 1 ≤ j → j ≤ 3 → ¬ clF lt mn pt tk mr od rm j))
    (h2 : ((1 ≤ r2 ∧ r2 ≤ 3) ∧ (pw mn r2.toNat ≤ 16 ∧ clM lt mn pt tk mr od rm r2) ∧ ∀ j, 1 ≤ j → j < r2 → ¬ (pw mn j.toNat ≤ 16 ∧ clM lt mn pt tk mr od rm j)) ∨ (r2 = -6 ∧ ∀ j, 1 ≤ j → j ≤ 3 → ¬ (pw mn j.toNat ≤ 16 ∧ clM lt mn pt tk mr od rm j))) : r2 = r1 := by
  have e : ∀ j, 1 ≤ j → j ≤ 3 → (clF lt mn pt tk mr od rm j ↔ (pw mn j.toNat ≤ 16 ∧ clM lt mn pt tk mr od rm j)) := fun j j0 j1 => by
    have hp := pw_b hI.1.2.1 hI.1.2.2 (n := j.toNat) (by omega)
    unfold clF
    rw [cl_iff hI (fun s => (hI.2.2.2.1 s).1) (by omega)]
  rcases h1 with ⟨a1, a2, a3⟩ | ⟨a1, a2⟩
  · rcases h2 with ⟨b1, b2, b3⟩ | ⟨b1, b2⟩
    · have n1 : ¬ r1 < r2 := fun z => b3 r1 a1.1 z ((e r1 a1.1 a1.2).mp a2)
      have n2 : ¬ r2 < r1 := fun z => a3 r2 b1.1 z ((e r2 b1.1 b1.2).mpr b2)
      omega
    · exact absurd ((e r1 a1.1 a1.2).mp a2) (b2 r1 a1.1 a1.2)
  · rcases h2 with ⟨b1, b2, b3⟩ | ⟨b1, b2⟩
    · exact absurd ((e r2 b1.1 b1.2).mpr b2) (a2 r2 b1.1 b1.2)
    · omega
theorem needs_eq {k r1 r2 g : Int} {P M : Int → Prop} (hM : ∀ v, 0 ≤ v → (M v ↔ P v)) (hm : ∀ v w, v ≤ w → P v → P w)
    (h1 : ((k < 1 ∨ 3 < k) ∧ r1 = -2) ∨ ((1 ≤ k ∧ k ≤ 3) ∧ 16 < pw mn k.toNat ∧ r1 = -5) ∨ (((1 ≤ k ∧ k ≤ 3) ∧ pw mn k.toNat ≤ 16) ∧ (((1 ≤ r1 ∧ r1 ≤ 99) ∧ P r1 ∧ ∀ v, 1 ≤ v → v < r1 → ¬ P v) ∨ (r1 = -6 ∧ ∀ v, 1 ≤ v → v ≤ 99 → ¬ P v))))
    (h2 : ((k < 1 ∨ 3 < k) ∧ r2 = -2) ∨ ((1 ≤ k ∧ k ≤ 3) ∧ 16 < pw mn k.toNat ∧ r2 = -5) ∨ (((1 ≤ k ∧ k ≤ 3) ∧ pw mn k.toNat ≤ 16) ∧ (1 ≤ g ∧ g ≤ 100) ∧ (g = 100 ∨ M g) ∧ (g = 1 ∨ ¬ M (g - 1)) ∧ ((g < 100 ∧ r2 = g) ∨ (g = 100 ∧ r2 = -6)))) : r2 = r1 := by
  rcases h1 with ⟨a1, a2⟩ | ⟨a1, a2, a3⟩ | ⟨a1, a2⟩
  · rcases h2 with ⟨b1, b2⟩ | ⟨b1, b2, b3⟩ | ⟨b1, b2⟩ <;> omega
  · rcases h2 with ⟨b1, b2⟩ | ⟨b1, b2, b3⟩ | ⟨b1, b2⟩ <;> omega
  · rcases h2 with ⟨b1, b2⟩ | ⟨b1, b2, b3⟩ | ⟨b1, b2, b3, b4, b5⟩
    · omega
    · omega
    · rcases a2 with ⟨c1, c2, c3⟩ | ⟨c1, c2⟩
      · rcases b5 with ⟨d1, d2⟩ | ⟨d1, d2⟩
        · have hg : P g := by
            rcases b3 with z | z
            · omega
            · exact (hM g (by omega)).mp z
          have n1 : ¬ g < r1 := fun z => c3 g b2.1 z hg
          have n2 : ¬ r1 < g := fun z => by
            rcases b4 with y | y
            · omega
            · exact y ((hM (g - 1) (by omega)).mpr (hm r1 (g - 1) (by omega) c2))
          omega
        · rcases b4 with y | y
          · omega
          · exact absurd ((hM (g - 1) (by omega)).mpr (hm r1 (g - 1) (by omega) c2)) y
      · rcases b5 with ⟨d1, d2⟩ | ⟨d1, d2⟩
        · have hg : P g := by
            rcases b3 with z | z
            · omega
            · exact (hM g (by omega)).mp z
          exact absurd hg (c2 g b2.1 (by omega))
        · omega
end LM
/-- kept images: the class's desks and the reference's row -/
abbrev Im1 (f : Int) (k : Int) (im : Int → Int) (lt mn : Int) (pt tk mr od pl rm cd : Int → Int) : Prop := (f = 0 ∨ f = 1) ∧ (f = 1 → DI lt mn pt tk mr od pl rm cd ∧ ∀ j, 0 ≤ j → j < 98 → im (98 * k + j) = stF lt mn pt tk mr od rm cd j)
theorem Im1_new {k : Int} {im : Int → Int} {lt mn : Int} {pt tk mr od pl rm cd : Int → Int} (hI : DI lt mn pt tk mr od pl rm cd) : Im1 1 k (putR (stF lt mn pt tk mr od rm cd) im (98 * k) 98) lt mn pt tk mr od pl rm cd := ⟨Or.inr rfl, fun _ => ⟨hI, fun j j0 j1 => by unfold putR; rw [if_pos (by omega), show 98 * k + j - 98 * k = j by omega]⟩⟩
theorem Im1_old {f k k2 : Int} {im F : Int → Int} {lt mn : Int} {pt tk mr od pl rm cd : Int → Int} (hk : k ≠ k2) (h : Im1 f k im lt mn pt tk mr od pl rm cd) : Im1 f k (putR F im (98 * k2) 98) lt mn pt tk mr od pl rm cd := ⟨h.1, fun q => ⟨(h.2 q).1, fun j j0 j1 => by rw [← (h.2 q).2 j j0 j1]; unfold putR; rw [if_neg (by omega)]⟩⟩
