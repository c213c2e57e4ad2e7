theorem fit_cv {pt tk mr fp fc ro : Int → Int} {lt mn n i : Int} {UL : List Int} {k : Nat} (hU : lst fp n.toNat = UL) (h0 : 0 ≤ i) (h1 : i < n) : okA (fun i => wS pt tk mr lt (fp i)) (fun i => fc (fp i)) ro mn k i ↔ okA (fun i => wS pt tk mr lt (lg UL i)) (lg (cds fp fc n)) ro mn k i := by
  constructor
  · refine okA_congr h0 (fun t q1 q2 => ⟨?_, (cds_lg q1 (by omega)).symm⟩)
    show wS pt tk mr lt (fp t) = wS pt tk mr lt (lg UL t)
    rw [lst_lg hU q1 (by omega)]
  · refine okA_congr h0 (fun t q1 q2 => ⟨?_, cds_lg q1 (by omega)⟩)
    show wS pt tk mr lt (lg UL t) = wS pt tk mr lt (fp t)
    rw [lst_lg hU q1 (by omega)]
theorem cf_no {w c ro : Int → Int} {mn k i : Int} {B0 B1 B2 : Int → Int} (h0 : 0 ≤ i) (h2 : ∀ j, 0 ≤ j → j < k → tsel B0 B1 B2 j = ldS w c mn j.toNat i.toNat) (h : ∃ j : Int, 0 ≤ j ∧ j < k ∧ ro (c i / pw mn j.toNat % mn) < tsel B0 B1 B2 j (c i / pw mn j.toNat % mn) + w i) : ¬ okA w c ro mn k.toNat i := by
  intro q
  obtain ⟨j, g0, g1, g2⟩ := h
  have := q j.toNat (by omega)
  rw [ldS_at h0, ← h2 j g0 g1] at this
  omega
theorem cf_yes {w c ro : Int → Int} {mn k i : Int} {B0 B1 B2 C0 C1 C2 : Int → Int} (h0 : 0 ≤ i) (h2 : ∀ j, 0 ≤ j → j < k → tsel B0 B1 B2 j = ldS w c mn j.toNat i.toNat) (h : ∀ j : Int, 0 ≤ j → j < k → tsel C0 C1 C2 j = ud (tsel B0 B1 B2 j) (c i / pw mn j.toNat % mn) (tsel B0 B1 B2 j (c i / pw mn j.toNat % mn) + w i) ∧ tsel B0 B1 B2 j (c i / pw mn j.toNat % mn) + w i ≤ ro (c i / pw mn j.toNat % mn)) : (∀ j, 0 ≤ j → j < k → tsel C0 C1 C2 j = ldS w c mn j.toNat (i + 1).toNat) ∧ okA w c ro mn k.toNat i := by
  refine ⟨fun j q1 q2 => ?_, fun j hj => ?_⟩
  · rw [(h j q1 q2).1, h2 j q1 q2, ldS_s h0]
  · have := (h j (by omega) (by omega)).2
    rw [h2 j (by omega) (by omega), show ((j : Int)).toNat = j by omega] at this
    rw [ldS_at h0]
    exact this
theorem lr_end {b : Int} {ALL PR : List (List Int)} {mo n le : Int} {L : List Int} (h : SrI b ALL PR mo L) (hA : ALL.length ≤ 12870) (hl : 1 ≤ le) (hn : n ≤ PR.length + (100 - le)) (hq : 12969 ≤ n ∨ mo = 0 ∨ le ≤ 1) : PR = ALL ∨ le = 1 := by
  rcases h with ⟨h0, h1, -⟩ | ⟨-, h1⟩
  · have h2 := congrArg List.length h1
    rw [List.length_append] at h2
    omega
  · exact Or.inl h1
