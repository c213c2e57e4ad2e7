/-! ===== the reference's passes and those of the specification ===== -/
theorem pas_perm (st tk rm : Int → Int) (row : List Int) : List.Perm ((pas st tk rm row).2.1 ++ (pas st tk rm row).2.2) row := by
  have key : ∀ (row : List Int) (x : (Int → Int) × List Int × List Int), List.Perm ((row.foldl (stp st tk rm) x).2.1 ++ (row.foldl (stp st tk rm) x).2.2) (x.2.1 ++ x.2.2 ++ row) := by
    intro row
    induction row with
    | nil => intro x; simp
    | cons a row ih =>
      intro x
      rw [List.foldl_cons]
      refine (ih (stp st tk rm x a)).trans ?_
      unfold stp
      split
      · show List.Perm ((x.2.1 ++ [a]) ++ x.2.2 ++ row) (x.2.1 ++ x.2.2 ++ a :: row)
        rw [List.append_assoc, List.append_assoc, List.append_assoc]
        refine List.Perm.append_left _ ?_
        show List.Perm (a :: (x.2.2 ++ row)) (x.2.2 ++ a :: row)
        exact List.perm_middle.symm
      · show List.Perm (x.2.1 ++ (x.2.2 ++ [a]) ++ row) (x.2.1 ++ x.2.2 ++ a :: row)
        rw [← List.append_assoc, List.append_assoc]
        exact List.Perm.refl _
  have h := key row (fun _ => 0, [], [])
  simp only [List.nil_append] at h
  exact h
theorem pas_nd {st tk rm : Int → Int} {row : List Int} (h : row.Nodup) : (pas st tk rm row).2.1.Nodup ∧ ∀ l, l ∈ (pas st tk rm row).2.1 → l ∉ (pas st tk rm row).2.2 := by
  have h1 : ((pas st tk rm row).2.1 ++ (pas st tk rm row).2.2).Nodup := (pas_perm st tk rm row).nodup_iff.mpr h
  rw [List.nodup_append] at h1
  exact ⟨h1.1, fun l g1 g2 => h1.2.2 l g1 l g2 rfl⟩
theorem cat_nd (st : Int → Int) {L : List Int} (h : L.Nodup) : ∀ n, (catL (pil st L) n).Nodup
  | 0 => List.nodup_nil
  | n + 1 => by
    have e := catL_s (LS := pil st L) (s := (n : Int)) (by omega)
    rw [show ((n : Int) + 1).toNat = n + 1 by omega, show ((n : Int)).toNat = n by omega] at e
    rw [e, List.nodup_append]
    refine ⟨cat_nd st h n, h.filter _, fun a ha b hb hab => ?_⟩
    subst hab
    obtain ⟨s, h0, h1, h2⟩ := cat_mem.mp ha
    have g1 := (pil_mem.mp h2).2
    have g2 := (pil_mem.mp hb).2
    omega
theorem lst_id_nd : ∀ n : Nat, (lst (fun i => i) n).Nodup
  | 0 => List.nodup_nil
  | n + 1 => by
    rw [lst_s, List.nodup_append]
    refine ⟨lst_id_nd n, by simp, fun a ha b hb hab => ?_⟩
    subst hab
    rw [List.mem_singleton] at hb
    unfold lst at ha
    obtain ⟨i, hi, rfl⟩ := List.mem_map.mp ha
    rw [List.mem_range] at hi
    have hb' : ((i : Nat) : Int) = (n : Int) := hb
    omega
theorem rn_nd (lt mn : Int) (pt tk mr rm cd : Int → Int) : ∀ j, (rnS lt mn pt tk mr rm cd j).1.Nodup
  | 0 => (lst_id_nd _).filter _
  | j + 1 => cat_nd _ (pas_nd (rn_nd lt mn pt tk mr rm cd j)).1 _
theorem rn_z (lt mn : Int) (pt tk mr rm cd : Int → Int) : ∀ j l, l ∈ (rnS lt mn pt tk mr rm cd j).1 → mr l = 0 ∧ (rnS lt mn pt tk mr rm cd j).2.1 l = 0
  | 0, l, h => by
    have := of_decide_eq_true (List.mem_filter.mp h).2
    exact ⟨this, this⟩
  | j + 1, l, h => by
    obtain ⟨s, -, -, hx⟩ := cat_mem.mp h
    have h1 := (pil_mem.mp hx).1
    have h2 := rn_z lt mn pt tk mr rm cd j l ((pas_inv _ tk rm _).2.1 l h1)
    refine ⟨h2.1, ?_⟩
    show (if l ∈ _ then _ else _) = _
    rw [if_neg ((pas_nd (rn_nd lt mn pt tk mr rm cd j)).2 l h1)]
    exact h2.2
/-- with misread letters among them -/
def mst (st tk rm mr : Int → Int) (x : (Int → Int) × List Int × List Int) (l : Int) : (Int → Int) × List Int × List Int := if mr l = 1 then (x.1, x.2.1, x.2.2 ++ [l]) else stp st tk rm x l
def mps (st tk rm mr : Int → Int) (row : List Int) : (Int → Int) × List Int × List Int := row.foldl (mst st tk rm mr) (fun _ => 0, [], [])
theorem mps_s {st tk rm mr F : Int → Int} {i : Int} (h : 0 ≤ i) : mps st tk rm mr (lst F (i + 1).toNat) = mst st tk rm mr (mps st tk rm mr (lst F i.toNat)) (F i) := by
  rw [lst_si h]
  unfold mps
  rw [List.foldl_append]
  rfl
theorem mps_pas (st tk rm mr : Int → Int) (hmr : ∀ j, 0 ≤ mr j ∧ mr j ≤ 1) (row : List Int) : (mps st tk rm mr row).1 = (pas st tk rm (row.filter (fun l => decide (mr l = 0)))).1 ∧ (mps st tk rm mr row).2.1 = (pas st tk rm (row.filter (fun l => decide (mr l = 0)))).2.1 ∧ ∀ l, l ∈ (mps st tk rm mr row).2.2 ↔ l ∈ (pas st tk rm (row.filter (fun l => decide (mr l = 0)))).2.2 ∨ (l ∈ row ∧ mr l = 1) := by
  have key : ∀ (row : List Int) (x y : (Int → Int) × List Int × List Int), x.1 = y.1 → x.2.1 = y.2.1 → (row.foldl (mst st tk rm mr) x).1 = ((row.filter (fun l => decide (mr l = 0))).foldl (stp st tk rm) y).1 ∧ (row.foldl (mst st tk rm mr) x).2.1 = ((row.filter (fun l => decide (mr l = 0))).foldl (stp st tk rm) y).2.1 ∧ ∀ P : Int → Prop, (∀ l, l ∈ x.2.2 ↔ l ∈ y.2.2 ∨ P l) → ∀ l, l ∈ (row.foldl (mst st tk rm mr) x).2.2 ↔ l ∈ ((row.filter (fun l => decide (mr l = 0))).foldl (stp st tk rm) y).2.2 ∨ P l ∨ (l ∈ row ∧ mr l = 1) := by
    intro row
    induction row with
    | nil =>
      intro x y h1 h2
      refine ⟨h1, h2, fun P hP l => ?_⟩
      simp only [List.foldl_nil, List.filter_nil, List.not_mem_nil, false_and, or_false]
      exact hP l
    | cons a row ih =>
      intro x y h1 h2
      have ha := hmr a
      by_cases hm : mr a = 1
      · have e1 : mst st tk rm mr x a = (x.1, x.2.1, x.2.2 ++ [a]) := if_pos hm
        have e2 : (a :: row).filter (fun l => decide (mr l = 0)) = row.filter (fun l => decide (mr l = 0)) := by
          rw [List.filter_cons, if_neg (by simp [hm])]
        rw [List.foldl_cons, e1, e2]
        obtain ⟨g1, g2, g3⟩ := ih (x.1, x.2.1, x.2.2 ++ [a]) y h1 h2
        refine ⟨g1, g2, fun P hP l => ?_⟩
        rw [g3 (fun l => P l ∨ l = a) (fun l => by rw [List.mem_append, List.mem_singleton, hP l]; simp [or_assoc]) l]
        rw [List.mem_cons]
        constructor
        · rintro (q | (q | q) | q)
          · exact Or.inl q
          · exact Or.inr (Or.inl q)
          · exact Or.inr (Or.inr ⟨Or.inl q, q ▸ hm⟩)
          · exact Or.inr (Or.inr ⟨Or.inr q.1, q.2⟩)
        · rintro (q | q | ⟨q | q, q2⟩)
          · exact Or.inl q
          · exact Or.inr (Or.inl (Or.inl q))
          · exact Or.inr (Or.inl (Or.inr q))
          · exact Or.inr (Or.inr ⟨q, q2⟩)
      · have hm0 : mr a = 0 := by omega
        have e1 : mst st tk rm mr x a = stp st tk rm x a := if_neg hm
        have e2 : (a :: row).filter (fun l => decide (mr l = 0)) = a :: row.filter (fun l => decide (mr l = 0)) := by
          rw [List.filter_cons, if_pos (by simp [hm0])]
        rw [List.foldl_cons, e1, e2, List.foldl_cons]
        have hs1 : (stp st tk rm x a).1 = (stp st tk rm y a).1 := by unfold stp; rw [h1]; split <;> first | rfl | exact h1
        have hs2 : (stp st tk rm x a).2.1 = (stp st tk rm y a).2.1 := by unfold stp; rw [h1, h2]; split <;> rfl
        obtain ⟨g1, g2, g3⟩ := ih (stp st tk rm x a) (stp st tk rm y a) hs1 hs2
        refine ⟨g1, g2, fun P hP l => ?_⟩
        rw [g3 P (fun l => by
          unfold stp
          rw [h1]
          split
          · exact hP l
          · show l ∈ x.2.2 ++ [a] ↔ l ∈ y.2.2 ++ [a] ∨ P l
            rw [List.mem_append, List.mem_append, hP l]
            constructor
            · rintro ((q | q) | q)
              · exact Or.inl (Or.inl q)
              · exact Or.inr q
              · exact Or.inl (Or.inr q)
            · rintro ((q | q) | q)
              · exact Or.inl (Or.inl q)
              · exact Or.inr q
              · exact Or.inl (Or.inr q)) l]
        rw [List.mem_cons]
        constructor
        · rintro (q | q | q)
          · exact Or.inl q
          · exact Or.inr (Or.inl q)
          · exact Or.inr (Or.inr ⟨Or.inr q.1, q.2⟩)
        · rintro (q | q | ⟨q | q, q2⟩)
          · exact Or.inl q
          · exact Or.inr (Or.inl q)
          · rw [q] at q2; omega
          · exact Or.inr (Or.inr ⟨q, q2⟩)
  obtain ⟨h1, h2, h3⟩ := key row (fun _ => 0, [], []) (fun _ => 0, [], []) rfl rfl
  refine ⟨h1, h2, fun l => ?_⟩
  have := h3 (fun _ => False) (fun l => by simp) l
  rw [false_or] at this
  exact this
theorem mps_in {st tk rm mr : Int → Int} (hmr : ∀ j, 0 ≤ mr j ∧ mr j ≤ 1) {row : List Int} {l : Int} (h : l ∈ (mps st tk rm mr row).2.2) : l ∈ row := by
  rcases ((mps_pas st tk rm mr hmr row).2.2 l).mp h with q | q
  · exact (List.mem_filter.mp ((pas_inv st tk rm _).2.2 l q)).1
  · exact q.1
theorem mps_ld {st tk rm mr : Int → Int} (hmr : ∀ j, 0 ≤ mr j ∧ mr j ≤ 1) (htk : ∀ j, 0 ≤ tk j ∧ tk j ≤ 9) (hrm : ∀ j, 0 ≤ rm j ∧ rm j ≤ 99) (row : List Int) : ∀ s, 0 ≤ (mps st tk rm mr row).1 s ∧ (mps st tk rm mr row).1 s ≤ 99 := by
  rw [(mps_pas st tk rm mr hmr row).1]
  exact pas_ld st tk rm _ htk hrm
/-- what the reference holds after the letters of a row came to pass j -/
def MpP (st tk rm mr : Int → Int) (R : List Int) (j : Int) (sa SA GT LD : Int → Int) : Prop :=
  LD = (mps st tk rm mr R).1 ∧ (mps st tk rm mr R).2.1 = R.filter (fun l => decide (GT l ≠ -6)) ∧ (∀ l ∈ R, GT l ≠ -6 → GT l = st l) ∧ (∀ l, SA l = if l ∈ R then (if l ∈ (mps st tk rm mr R).2.2 then j else 0) else sa l)
theorem MpP_0 (st tk rm mr : Int → Int) (j : Int) (sa GT : Int → Int) : MpP st tk rm mr [] j sa sa GT (fun _ => 0) := ⟨rfl, rfl, fun l h => absurd h List.not_mem_nil, fun l => by rw [if_neg List.not_mem_nil]⟩
theorem MpP_s {st tk rm mr F : Int → Int} {i j r v : Int} {sa SA GT LD LD2 : Int → Int} (hmr : ∀ j, 0 ≤ mr j ∧ mr j ≤ 1) (h0 : 0 ≤ i) (hnd : F i ∉ lst F i.toNat) (h : MpP st tk rm mr (lst F i.toNat) j sa SA GT LD) (hst : st (F i) ≠ -6)
    (hr : (mr (F i) = 1 ∧ r = -6 ∧ LD2 = LD) ∨ (mr (F i) ≠ 1 ∧ rm (st (F i)) < LD (st (F i)) + tk (F i) ∧ r = -6 ∧ LD2 = LD) ∨ (mr (F i) ≠ 1 ∧ LD (st (F i)) + tk (F i) ≤ rm (st (F i)) ∧ r = st (F i) ∧ LD2 = ud LD (st (F i)) (LD (st (F i)) + tk (F i))))
    (hv : (r = -6 ∧ v = j) ∨ (r ≠ -6 ∧ v = 0)) : MpP st tk rm mr (lst F (i + 1).toNat) j sa (ud SA (F i) v) (ud GT (F i) r) LD2 := by
  obtain ⟨h1, h2, h3, h4⟩ := h
  have hsp : F i ∉ (mps st tk rm mr (lst F i.toNat)).2.2 := fun q => hnd (mps_in hmr q)
  have hf : (lst F i.toNat).filter (fun l => decide (ud GT (F i) r l ≠ -6)) = (lst F i.toNat).filter (fun l => decide (GT l ≠ -6)) := by
    apply List.filter_congr
    intro l hl
    rw [ud_ne (fun (q : l = F i) => hnd (by rw [← q]; exact hl))]
  have hfull : (lst F (i + 1).toNat).filter (fun l => decide (ud GT (F i) r l ≠ -6)) = (lst F i.toNat).filter (fun l => decide (GT l ≠ -6)) ++ (if r ≠ -6 then [F i] else []) := by
    rw [lst_si h0, List.filter_append, hf]
    congr 1
    by_cases q : r = -6
    · rw [if_neg (by omega)]; simp [ud_at, q]
    · rw [if_pos q]; simp [ud_at, q]
  have hm : ∀ l, l ∈ lst F (i + 1).toNat ↔ l ∈ lst F i.toNat ∨ l = F i := fun l => by rw [lst_si h0, List.mem_append, List.mem_singleton]
  have hG : ∀ l ∈ lst F (i + 1).toNat, ud GT (F i) r l ≠ -6 → (r ≠ -6 → r = st (F i)) → ud GT (F i) r l = st l := fun l hl hq hrr => by
    by_cases q : l = F i
    · subst q
      rw [ud_at] at hq ⊢
      exact hrr hq
    · rw [ud_ne q] at hq ⊢
      exact h3 l (((hm l).mp hl).resolve_right q) hq
  rcases hr with ⟨g1, g2, g3⟩ | ⟨g1, g2, g3, g4⟩ | ⟨g1, g2, g3, g4⟩
  · have e : mps st tk rm mr (lst F (i + 1).toNat) = ((mps st tk rm mr (lst F i.toNat)).1, (mps st tk rm mr (lst F i.toNat)).2.1, (mps st tk rm mr (lst F i.toNat)).2.2 ++ [F i]) := by
      rw [mps_s h0]
      exact if_pos g1
    refine ⟨by rw [e, g3]; exact h1, by rw [e, hfull, if_neg (by omega), List.append_nil]; exact h2, fun l hl hq => hG l hl hq (fun q => absurd g2 q), fun l => ?_⟩
    rw [e]
    show ud SA (F i) v l = if l ∈ lst F (i + 1).toNat then (if l ∈ (mps st tk rm mr (lst F i.toNat)).2.2 ++ [F i] then j else 0) else sa l
    by_cases q : l = F i
    · subst q
      rw [ud_at, if_pos ((hm _).mpr (Or.inr rfl)), if_pos (by simp)]
      omega
    · rw [ud_ne q, h4 l]
      simp [hm, q]
  · have e : mps st tk rm mr (lst F (i + 1).toNat) = ((mps st tk rm mr (lst F i.toNat)).1, (mps st tk rm mr (lst F i.toNat)).2.1, (mps st tk rm mr (lst F i.toNat)).2.2 ++ [F i]) := by
      rw [mps_s h0]
      unfold mst stp
      rw [if_neg g1, if_neg (by rw [← h1]; omega)]
    refine ⟨by rw [e, g4]; exact h1, by rw [e, hfull, if_neg (by omega), List.append_nil]; exact h2, fun l hl hq => hG l hl hq (fun q => absurd g3 q), fun l => ?_⟩
    rw [e]
    show ud SA (F i) v l = if l ∈ lst F (i + 1).toNat then (if l ∈ (mps st tk rm mr (lst F i.toNat)).2.2 ++ [F i] then j else 0) else sa l
    by_cases q : l = F i
    · subst q
      rw [ud_at, if_pos ((hm _).mpr (Or.inr rfl)), if_pos (by simp)]
      omega
    · rw [ud_ne q, h4 l]
      simp [hm, q]
  · have e : mps st tk rm mr (lst F (i + 1).toNat) = (ud (mps st tk rm mr (lst F i.toNat)).1 (st (F i)) ((mps st tk rm mr (lst F i.toNat)).1 (st (F i)) + tk (F i)), (mps st tk rm mr (lst F i.toNat)).2.1 ++ [F i], (mps st tk rm mr (lst F i.toNat)).2.2) := by
      rw [mps_s h0]
      unfold mst stp
      rw [if_neg g1, if_pos (by rw [← h1]; exact g2)]
    have hr6 : r ≠ -6 := by rw [g3]; exact hst
    refine ⟨by rw [e, g4, h1], by rw [e, hfull, if_pos hr6]; show _ ++ _ = _; rw [h2], fun l hl hq => hG l hl hq (fun _ => g3), fun l => ?_⟩
    rw [e]
    show ud SA (F i) v l = if l ∈ lst F (i + 1).toNat then (if l ∈ (mps st tk rm mr (lst F i.toNat)).2.2 then j else 0) else sa l
    by_cases q : l = F i
    · subst q
      rw [ud_at, if_pos ((hm _).mpr (Or.inr rfl)), if_neg hsp]
      omega
    · rw [ud_ne q, h4 l]
      simp [hm, q]
/-- those of stacker s among the swept -/
theorem MpP_pil {st tk rm mr : Int → Int} {R : List Int} {j s : Int} {sa SA GT LD : Int → Int} (h : MpP st tk rm mr R j sa SA GT LD) (hs : 0 ≤ s) : R.filter (fun l => decide (GT l = s)) = pil st (mps st tk rm mr R).2.1 s := by
  unfold pil
  rw [h.2.1, List.filter_filter]
  apply List.filter_congr
  intro l hl
  have h3 := h.2.2.1 l hl
  by_cases q : GT l = s
  · have q2 : GT l ≠ -6 := by omega
    have q3 := h3 q2
    rw [decide_eq_true q, decide_eq_true q2, ← q3, decide_eq_true q]; rfl
  · by_cases q2 : GT l = -6
    · rw [decide_eq_false q, decide_eq_false (p := GT l ≠ -6) (fun z => z q2), Bool.and_false]
    · have q3 := h3 q2
      rw [decide_eq_false q, ← q3, decide_eq_false q]; rfl
theorem RnP_ms {lt mn : Int} {pt tk mr rm cd : Int → Int} {n : Nat} {R : List Int} {jj cn : Int} {sa SA GT LD B : Int → Int} (hmr : ∀ j, 0 ≤ mr j ∧ mr j ≤ 1) (hR : (n = 0 ∧ R = lst (fun i => i) lt.toNat) ∨ (1 ≤ n ∧ R = (rnS lt mn pt tk mr rm cd n).1 ∧ ∀ l, 0 ≤ l → l < lt → sa l = (rnS lt mn pt tk mr rm cd n).2.1 l)) (hj : jj = ((n + 1 : Nat) : Int)) (h : MpP (stk pt cd mn n) tk rm mr R jj sa SA GT LD) (hw : 0 ≤ cn ∧ lst B cn.toNat = catL (pil (stk pt cd mn n) (mps (stk pt cd mn n) tk rm mr R).2.1) mn.toNat) : RnP lt mn pt tk mr rm cd (n + 1) cn B SA LD := by
  have hmp := mps_pas (stk pt cd mn n) tk rm mr hmr R
  have hfil : R.filter (fun l => decide (mr l = 0)) = (rnS lt mn pt tk mr rm cd n).1 := by
    rcases hR with ⟨h0, h1⟩ | ⟨h0, h1, -⟩
    · subst h0; rw [h1]; rfl
    · rw [h1, List.filter_eq_self]
      intro l hl
      exact decide_eq_true (rn_z lt mn pt tk mr rm cd n l hl).1
  rw [hfil] at hmp
  obtain ⟨m1, m2, m3⟩ := hmp
  obtain ⟨s1, s2, s3, s4⟩ := h
  refine ⟨hw.1, by rw [hw.2, m2]; rfl, fun l q1 q2 => ?_, fun _ => by rw [s1, m1]; rfl⟩
  rw [s4 l]
  show _ = if l ∈ (pas (stk pt cd mn n) tk rm (rnS lt mn pt tk mr rm cd n).1).2.2 then ((n + 1 : Nat) : Int) else (rnS lt mn pt tk mr rm cd n).2.1 l
  rcases hR with ⟨h0, h1⟩ | ⟨h0, h1, h2⟩
  · subst h0
    have hlR : l ∈ R := by
      rw [h1]
      exact lst_mem (F := fun i => i) rfl q1 (by omega)
    rw [if_pos hlR]
    by_cases z : l ∈ (mps (stk pt cd mn 0) tk rm mr R).2.2
    · rw [if_pos z]
      rcases (m3 l).mp z with y | ⟨-, y⟩
      · rw [if_pos y]; omega
      · have : (rnS lt mn pt tk mr rm cd 0).2.1 l = mr l := rfl
        rw [this, y]
        split <;> omega
    · have z2 := fun w => z ((m3 l).mpr w)
      rw [if_neg z, if_neg (fun w => z2 (Or.inl w))]
      have : (rnS lt mn pt tk mr rm cd 0).2.1 l = mr l := rfl
      rw [this]
      have g := hmr l
      by_cases y : mr l = 1
      · exact absurd (Or.inr ⟨hlR, y⟩) z2
      · omega
  · by_cases hlR : l ∈ R
    · have z0 := rn_z lt mn pt tk mr rm cd n l (h1 ▸ hlR)
      rw [if_pos hlR]
      by_cases z : l ∈ (mps (stk pt cd mn n) tk rm mr R).2.2
      · rw [if_pos z]
        rcases (m3 l).mp z with y | ⟨-, y⟩
        · rw [if_pos y]; omega
        · omega
      · rw [if_neg z, if_neg (fun w => z ((m3 l).mpr (Or.inl w))), z0.2]
    · rw [if_neg hlR, if_neg (fun w => hlR (by rw [h1]; exact (pas_inv _ tk rm _).2.2 l w)), h2 l q1 q2]

theorem flt_len {F : Int → Int} {P : Int → Bool} {a b : Nat} (h : a ≤ b) : ((lst F a).filter P).length ≤ ((lst F b).filter P).length := by
  obtain ⟨d, rfl⟩ : ∃ d, b = a + d := ⟨b - a, by omega⟩
  clear h
  induction d with
  | zero => exact Nat.le_refl _
  | succ d ih =>
    rw [show a + (d + 1) = (a + d) + 1 by omega, lst_s, List.filter_append, List.length_append]
    omega
theorem sum_add (F G : Int → Int) : ∀ n, sumTo (fun i => F i + G i) n = sumTo F n + sumTo G n
  | 0 => rfl
  | n + 1 => by
    show sumTo (fun i => F i + G i) n + (F n + G n) = (sumTo F n + F n) + (sumTo G n + G n)
    rw [sum_add F G n]
    omega
theorem sum_zero : ∀ n, sumTo (fun _ => 0) n = 0
  | 0 => rfl
  | n + 1 => by show sumTo (fun _ => 0) n + 0 = 0; rw [sum_zero n]; rfl
theorem sum_swap (f : Int → Int → Int) (m : Nat) : ∀ n, sumTo (fun i => sumTo (fun j => f i j) m) n = sumTo (fun j => sumTo (fun i => f i j) n) m
  | 0 => (sum_zero m).symm
  | n + 1 => by
    show sumTo (fun i => sumTo (fun j => f i j) m) n + sumTo (fun j => f n j) m = sumTo (fun j => sumTo (fun i => f i j) n + f n j) m
    rw [sum_swap f m n, sum_add]
theorem sum_cut {f : Int → Int} {b : Int} (h0 : 0 ≤ b) : ∀ {n : Nat}, b ≤ n → (∀ i : Int, b ≤ i → f i = 0) → sumTo f n = sumTo f b.toNat
  | 0, h, _ => by rw [show b.toNat = 0 by omega]
  | n + 1, h, hf => by
    by_cases e : b = ((n + 1 : Nat) : Int)
    · rw [e]; rfl
    · show sumTo f n + f n = _
      rw [hf n (by omega), sum_cut h0 (n := n) (by omega) hf]
      omega
/-- the reference counts the same pairs, the front one first -/
theorem wrM (v : Int → Int) (n : Nat) : sumTo (fun i => sumTo (fun j => if i < j ∧ v j < v i then 1 else 0) n) n = wrS v n := by
  rw [sum_swap (fun i j => if i < j ∧ v j < v i then 1 else 0)]
  unfold wrS
  refine sumTo_congr (fun j h0 h1 => ?_)
  rw [sum_cut (b := j) h0 (by omega) (fun i hi => by rw [if_neg (by omega)])]
  refine sumTo_congr (fun i g0 g1 => ?_)
  by_cases q : v j < v i
  · rw [if_pos ⟨by omega, q⟩, if_pos q]
  · rw [if_neg (fun z => q z.2), if_neg q]
theorem nd_at {F : Int → Int} {n i : Int} (h : (lst F n.toNat).Nodup) (h0 : 0 ≤ i) (h1 : i < n) : F i ∉ lst F i.toNat := by
  intro q
  have hk : ∀ d : Nat, ((lst F (i.toNat + d)).Nodup) → d ≥ 1 → False := by
    intro d
    induction d with
    | zero => intro _ hd; omega
    | succ d ih =>
      intro hn _
      rw [show i.toNat + (d + 1) = (i.toNat + d) + 1 by omega, lst_s, List.nodup_append] at hn
      by_cases hd : d = 0
      · subst hd
        rw [Nat.add_zero] at hn
        refine hn.2.2 (F i) q (F ((i.toNat : Nat) : Int)) (by simp) ?_
        rw [Int.toNat_of_nonneg h0]
      · exact ih hn.1 (by omega)
  refine hk (n.toNat - i.toNat) ?_ (by omega)
  rw [show i.toNat + (n.toNat - i.toNat) = n.toNat by omega]
  exact h
theorem gr_facts {lt mn j n1 : Int} {pt tk mr rm cd R1 SA LD : Int → Int} (hlt0 : 0 ≤ lt) (hlt1 : lt ≤ 24) (g2 : (j = 1 ∧ n1 = lt ∧ lst R1 n1.toNat = lst (fun i => i) lt.toNat) ∨ (2 ≤ j ∧ RnP lt mn pt tk mr rm cd (j - 1).toNat n1 R1 SA LD)) : (0 ≤ n1 ∧ n1 ≤ 24) ∧ (∀ i, 0 ≤ i → i < n1 → 0 ≤ R1 i ∧ R1 i < lt) ∧ (lst R1 n1.toNat).Nodup ∧ (((j - 1).toNat = 0 ∧ lst R1 n1.toNat = lst (fun i => i) lt.toNat) ∨ (1 ≤ (j - 1).toNat ∧ lst R1 n1.toNat = (rnS lt mn pt tk mr rm cd (j - 1).toNat).1 ∧ ∀ l, 0 ≤ l → l < lt → SA l = (rnS lt mn pt tk mr rm cd (j - 1).toNat).2.1 l)) := by
  rcases g2 with ⟨h1, h2, h3⟩ | ⟨h1, h2⟩
  · subst h2
    refine ⟨⟨hlt0, hlt1⟩, fun i q1 q2 => ?_, by rw [h3]; exact lst_id_nd _, Or.inl ⟨by omega, h3⟩⟩
    have e := lst_lg (F := R1) h3 q1 (by omega)
    have e2 := lst_lg (F := fun i : Int => i) (n := n1.toNat) rfl q1 (by omega)
    rw [e, ← e2]
    exact ⟨q1, q2⟩
  · have hc := RnP_cm h2
    have hl := rn_len lt mn pt tk mr rm cd hlt0 (j - 1).toNat
    exact ⟨by omega, RnP_or h2, by rw [h2.2.1]; exact rn_nd lt mn pt tk mr rm cd _, Or.inr ⟨by omega, h2.2.1, h2.2.2.1⟩⟩

/-- the state of the reference depends on what is in it -/
theorem stF_same {lt mn : Int} {pt tk mr od rm rm' cd cd' : Int → Int} (h1 : ∀ s, 0 ≤ s → s < 4 → rm s = rm' s) (h2 : ∀ q, 0 ≤ q → q ≤ 9 → cd q = cd' q) : ∀ j : Int, 0 ≤ j → j < (98 : Nat) → stF lt mn pt tk mr od rm cd j = stF lt mn pt tk mr od rm' cd' j := fun j q1 q2 => by
  unfold stF
  (repeat' split) <;> first | rfl | (exact h2 _ (by omega) (by omega)) | (exact h1 _ (by omega) (by omega))
