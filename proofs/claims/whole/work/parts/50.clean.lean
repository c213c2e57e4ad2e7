/-! ===== nothing is spilled but what is misread: by runs and by weights ===== -/
def totL (st tk : Int → Int) (s : Int) : List Int → Int
  | [] => 0
  | l :: r => (if st l = s then tk l else 0) + totL st tk s r
theorem totL_app (st tk : Int → Int) (s : Int) : ∀ a b, totL st tk s (a ++ b) = totL st tk s a + totL st tk s b
  | [], b => by show totL st tk s b = 0 + _; omega
  | l :: a, b => by
    show _ + totL st tk s (a ++ b) = _ + totL st tk s a + totL st tk s b
    rw [totL_app st tk s a b]
    omega
theorem totL_nn {st tk : Int → Int} (htk : ∀ j, 0 ≤ tk j) (s : Int) : ∀ a, 0 ≤ totL st tk s a
  | [] => Int.le_refl 0
  | l :: a => by
    have := totL_nn (st := st) htk s a
    have := htk l
    show 0 ≤ (if st l = s then tk l else 0) + totL st tk s a
    split <;> omega
theorem totL_perm {st tk : Int → Int} {s : Int} {a b : List Int} (h : List.Perm a b) : totL st tk s a = totL st tk s b := by
  induction h with
  | nil => rfl
  | cons x _ ih => show _ + totL st tk s _ = _ + totL st tk s _; rw [ih]
  | swap x y l =>
    show (if st y = s then tk y else 0) + ((if st x = s then tk x else 0) + totL st tk s l) = (if st x = s then tk x else 0) + ((if st y = s then tk y else 0) + totL st tk s l)
    omega
  | trans _ _ h1 h2 => rw [h1, h2]
theorem pas_full {st tk rm : Int → Int} (htk : ∀ j, 0 ≤ tk j) {row : List Int} (h : ∀ s, totL st tk s row ≤ rm s) : (pas st tk rm row).2.1 = row ∧ (pas st tk rm row).2.2 = [] := by
  have key : ∀ (R : List Int) (x : (Int → Int) × List Int × List Int), (∀ s, x.1 s + totL st tk s R ≤ rm s) → (R.foldl (stp st tk rm) x).2.1 = x.2.1 ++ R ∧ (R.foldl (stp st tk rm) x).2.2 = x.2.2 := by
    intro R
    induction R with
    | nil => intro x _; exact ⟨(List.append_nil _).symm, rfl⟩
    | cons l R ih =>
      intro x hx
      have h1 := hx (st l)
      have h2 := totL_nn (st := st) htk (st l) R
      have h3 : totL st tk (st l) (l :: R) = tk l + totL st tk (st l) R := by
        show (if st l = st l then tk l else 0) + _ = _
        rw [if_pos rfl]
      have e : stp st tk rm x l = (ud x.1 (st l) (x.1 (st l) + tk l), x.2.1 ++ [l], x.2.2) := if_pos (by omega)
      rw [List.foldl_cons, e]
      have := ih (ud x.1 (st l) (x.1 (st l) + tk l), x.2.1 ++ [l], x.2.2) (fun s => by
        have hs := hx s
        by_cases q : s = st l
        · subst q
          show ud x.1 (st l) (x.1 (st l) + tk l) (st l) + _ ≤ _
          rw [ud_at]
          omega
        · show ud x.1 (st l) (x.1 (st l) + tk l) s + _ ≤ _
          rw [ud_ne q]
          have h4 : totL st tk s (l :: R) = 0 + totL st tk s R := by
            show (if st l = s then tk l else 0) + _ = _
            rw [if_neg (Ne.symm q)]
          omega)
      rw [this.1, this.2]
      exact ⟨by simp, rfl⟩
  have := key row (fun _ => 0, [], []) (fun s => by have := h s; show 0 + _ ≤ _; omega)
  exact ⟨by rw [show pas st tk rm row = row.foldl (stp st tk rm) (fun _ => 0, [], []) from rfl, this.1]; rfl, this.2⟩
theorem pas_fits {st tk rm : Int → Int} (hrm : ∀ s, 0 ≤ rm s) {row : List Int} (h : (pas st tk rm row).2.2 = []) : ∀ s, totL st tk s row ≤ rm s := by
  have grow : ∀ (R : List Int) (x : (Int → Int) × List Int × List Int), x.2.2.length ≤ (R.foldl (stp st tk rm) x).2.2.length := by
    intro R
    induction R with
    | nil => intro x; exact Nat.le_refl _
    | cons l R ih =>
      intro x
      rw [List.foldl_cons]
      refine Nat.le_trans ?_ (ih _)
      unfold stp
      split
      · exact Nat.le_refl _
      · rw [List.length_append]; omega
  have key : ∀ (R : List Int) (x : (Int → Int) × List Int × List Int), (R.foldl (stp st tk rm) x).2.2.length = x.2.2.length → (∀ s, x.1 s ≤ rm s) → ∀ s, x.1 s + totL st tk s R ≤ rm s := by
    intro R
    induction R with
    | nil => intro x _ hx s; show x.1 s + 0 ≤ _; have := hx s; omega
    | cons l R ih =>
      intro x hx hs s
      rw [List.foldl_cons] at hx
      by_cases q : x.1 (st l) + tk l ≤ rm (st l)
      · have e : stp st tk rm x l = (ud x.1 (st l) (x.1 (st l) + tk l), x.2.1 ++ [l], x.2.2) := if_pos q
        rw [e] at hx
        have h1 := ih _ hx (fun s => by
          by_cases z : s = st l
          · subst z; show ud x.1 (st l) _ (st l) ≤ _; rw [ud_at]; exact q
          · show ud x.1 (st l) _ s ≤ _; rw [ud_ne z]; exact hs s) s
        have h1' : ud x.1 (st l) (x.1 (st l) + tk l) s + totL st tk s R ≤ rm s := h1
        show x.1 s + ((if st l = s then tk l else 0) + totL st tk s R) ≤ rm s
        by_cases z : s = st l
        · subst z
          rw [ud_at] at h1'
          rw [if_pos rfl]
          omega
        · rw [ud_ne z] at h1'
          rw [if_neg (Ne.symm z)]
          omega
      · have e : stp st tk rm x l = (x.1, x.2.1, x.2.2 ++ [l]) := if_neg q
        rw [e] at hx
        have := grow R (x.1, x.2.1, x.2.2 ++ [l])
        rw [hx] at this
        have t2 : (x.2.2 ++ [l]).length ≤ x.2.2.length := this
        rw [List.length_append, List.length_singleton] at t2
        omega
  intro s
  have := key row (fun _ => 0, [], []) (by show (pas st tk rm row).2.2.length = _; rw [h]) (fun s => hrm s) s
  have t : 0 + totL st tk s row ≤ rm s := this
  omega
theorem swp_perm {st : Int → Int} {mn : Int} {L : List Int} (hm : 0 ≤ mn) (h : ∀ l ∈ L, 0 ≤ st l ∧ st l < mn) : List.Perm (swp st mn L) L := by
  have key : ∀ n : Nat, List.Perm (catL (pil st L) n) (L.filter (fun l => decide (0 ≤ st l ∧ st l < n))) := by
    intro n
    induction n with
    | zero =>
      rw [catL_0]
      have : (L.filter (fun l => decide (0 ≤ st l ∧ st l < ((0 : Nat) : Int)))) = [] := by
        rw [List.filter_eq_nil_iff]
        intro l _ z
        have := of_decide_eq_true z
        omega
      rw [this]
    | succ n ih =>
      have e := catL_s (LS := pil st L) (s := (n : Int)) (by omega)
      rw [show ((n : Int) + 1).toNat = n + 1 by omega, show ((n : Int)).toNat = n by omega] at e
      rw [e]
      have hp := List.filter_append_perm (fun l => decide (0 ≤ st l ∧ st l < (n : Int))) (L.filter (fun l => decide (0 ≤ st l ∧ st l < ((n + 1 : Nat) : Int))))
      rw [List.filter_filter, List.filter_filter] at hp
      have e1 : L.filter (fun l => decide (0 ≤ st l ∧ st l < (n : Int)) && decide (0 ≤ st l ∧ st l < ((n + 1 : Nat) : Int))) = L.filter (fun l => decide (0 ≤ st l ∧ st l < (n : Int))) := by
        apply List.filter_congr
        intro l _
        by_cases z : 0 ≤ st l ∧ st l < (n : Int)
        · rw [decide_eq_true z, decide_eq_true (show 0 ≤ st l ∧ st l < ((n + 1 : Nat) : Int) by omega)]; rfl
        · rw [decide_eq_false z]; rfl
      have e2 : L.filter (fun l => !decide (0 ≤ st l ∧ st l < (n : Int)) && decide (0 ≤ st l ∧ st l < ((n + 1 : Nat) : Int))) = pil st L (n : Int) := by
        unfold pil
        apply List.filter_congr
        intro l _
        by_cases z : st l = (n : Int)
        · rw [decide_eq_true z, decide_eq_false (show ¬ (0 ≤ st l ∧ st l < (n : Int)) by omega), decide_eq_true (show 0 ≤ st l ∧ st l < ((n + 1 : Nat) : Int) by omega)]; rfl
        · rw [decide_eq_false z]
          by_cases w : 0 ≤ st l ∧ st l < (n : Int)
          · rw [decide_eq_true w]; rfl
          · rw [decide_eq_false w, decide_eq_false (show ¬ (0 ≤ st l ∧ st l < ((n + 1 : Nat) : Int)) by omega)]; rfl
      rw [e1, e2] at hp
      exact (ih.append_right _).trans hp
  have h1 := key mn.toNat
  have h2 : L.filter (fun l => decide (0 ≤ st l ∧ st l < ((mn.toNat : Nat) : Int))) = L := by
    rw [List.filter_eq_self]
    intro l hl
    have := h l hl
    exact decide_eq_true (by omega)
  rw [h2] at h1
  exact h1
theorem stk_b {pt cd : Int → Int} {mn : Int} (hm : 2 ≤ mn) (j : Nat) (l : Int) : 0 ≤ stk pt cd mn j l ∧ stk pt cd mn j l < mn := ⟨Int.emod_nonneg _ (by omega), Int.emod_lt_of_pos _ (by omega)⟩
/-- a run that loses nothing -/
theorem rn_full {lt mn : Int} {pt tk mr rm cd : Int → Int} (hm : 2 ≤ mn) (htk : ∀ j, 0 ≤ tk j) : ∀ (k : Nat), (∀ j, j < k → ∀ s, totL (stk pt cd mn j) tk s (rw0 mr lt) ≤ rm s) → List.Perm (rnS lt mn pt tk mr rm cd k).1 (rw0 mr lt)
  | 0, _ => List.Perm.refl _
  | k + 1, h => by
    have ih := rn_full (lt := lt) (pt := pt) (mr := mr) (rm := rm) (cd := cd) hm htk k (fun j hj => h j (by omega))
    have hp := pas_full (st := stk pt cd mn k) (rm := rm) htk (row := (rnS lt mn pt tk mr rm cd k).1) (fun s => by rw [totL_perm ih]; exact h k (by omega) s)
    show List.Perm (swp (stk pt cd mn k) mn (pas (stk pt cd mn k) tk rm (rnS lt mn pt tk mr rm cd k).1).2.1) _
    rw [hp.1]
    exact (swp_perm (by omega) (fun l _ => stk_b hm k l)).trans ih
theorem rn_loss {lt mn : Int} {pt tk mr rm cd : Int → Int} (hm : 2 ≤ mn) (hrm : ∀ s, 0 ≤ rm s) : ∀ (k : Nat), (rnS lt mn pt tk mr rm cd k).1.length = (rw0 mr lt).length → List.Perm (rnS lt mn pt tk mr rm cd k).1 (rw0 mr lt) ∧ ∀ j, j < k → ∀ s, totL (stk pt cd mn j) tk s (rw0 mr lt) ≤ rm s
  | 0, _ => ⟨List.Perm.refl _, fun j hj => by omega⟩
  | k + 1, h => by
    have h1 := rn_dec lt mn pt tk mr rm cd k
    have h2 := rn_mono lt mn pt tk mr rm cd 0 k
    rw [Nat.zero_add] at h2
    have h2' : (rnS lt mn pt tk mr rm cd k).1.length ≤ (rw0 mr lt).length := h2
    obtain ⟨ih1, ih2⟩ := rn_loss (lt := lt) (mr := mr) (pt := pt) (tk := tk) (cd := cd) hm hrm k (by omega)
    have h3 := (pas_inv (stk pt cd mn k) tk rm (rnS lt mn pt tk mr rm cd k).1).1
    have h4 := (swp_perm (st := stk pt cd mn k) (mn := mn) (L := (pas (stk pt cd mn k) tk rm (rnS lt mn pt tk mr rm cd k).1).2.1) (by omega) (fun l _ => stk_b hm k l)).length_eq
    have h5 : (swp (stk pt cd mn k) mn (pas (stk pt cd mn k) tk rm (rnS lt mn pt tk mr rm cd k).1).2.1).length = (rw0 mr lt).length := h
    have hsp : (pas (stk pt cd mn k) tk rm (rnS lt mn pt tk mr rm cd k).1).2.2 = [] := List.length_eq_zero_iff.mp (by omega)
    have hf := pas_fits hrm hsp
    have hf2 : ∀ s, totL (stk pt cd mn k) tk s (rw0 mr lt) ≤ rm s := fun s => by rw [← totL_perm ih1]; exact hf s
    refine ⟨?_, fun j hj s => ?_⟩
    · have hpp := pas_perm (stk pt cd mn k) tk rm (rnS lt mn pt tk mr rm cd k).1
      rw [hsp, List.append_nil] at hpp
      exact ((swp_perm (by omega) (fun l _ => stk_b hm k l)).trans hpp).trans ih1
    · by_cases e : j = k
      · subst e; exact hf2 s
      · exact ih2 j (by omega) s
theorem rw0_len {mr : Int → Int} (hmr : ∀ j, 0 ≤ mr j ∧ mr j ≤ 1) : ∀ n : Nat, (((lst (fun i => i) n).filter (fun l => decide (mr l = 0))).length : Int) = n - sumTo mr n
  | 0 => rfl
  | n + 1 => by
    have ih := rw0_len hmr n
    have hm := hmr (n : Int)
    rw [lst_s, List.filter_append, List.length_append]
    show _ = ((n + 1 : Nat) : Int) - (sumTo mr n + mr n)
    rcases (show mr (n : Int) = 0 ∨ mr (n : Int) = 1 by omega) with q | q
    · have : ([(n : Int)].filter (fun l => decide (mr l = 0))).length = 1 := by simp [q]
      rw [this, q]
      omega
    · have : ([(n : Int)].filter (fun l => decide (mr l = 0))).length = 0 := by simp [q]
      rw [this, q]
      omega
theorem tot_sum (st tk mr : Int → Int) (s : Int) : ∀ n : Nat, totL st tk s ((lst (fun i => i) n).filter (fun l => decide (mr l = 0))) = sumTo (fun l => if mr l = 0 ∧ st l = s then tk l else 0) n
  | 0 => rfl
  | n + 1 => by
    rw [lst_s, List.filter_append, totL_app, tot_sum st tk mr s n]
    show _ = sumTo _ n + (if mr (n : Int) = 0 ∧ st (n : Int) = s then tk (n : Int) else 0)
    congr 1
    by_cases q : mr (n : Int) = 0
    · have : [(n : Int)].filter (fun l => decide (mr l = 0)) = [(n : Int)] := by simp [q]
      rw [this]
      show (if st (n : Int) = s then tk (n : Int) else 0) + 0 = _
      by_cases z : st (n : Int) = s
      · rw [if_pos z, if_pos ⟨q, z⟩]; omega
      · rw [if_neg z, if_neg (fun w => z w.2)]; rfl
    · have : [(n : Int)].filter (fun l => decide (mr l = 0)) = [] := by simp [q]
      rw [this, if_neg (fun w => q w.1)]
      rfl
theorem cst_eq {lt mn : Int} {pt tk mr rm : Int → Int} {UL L : List Int} {k : Int} (hlt : 0 ≤ lt) (hmr : ∀ j, 0 ≤ mr j ∧ mr j ≤ 1) : sumTo mr lt.toNat ≤ cst lt mn pt tk mr rm UL k L ∧ (cst lt mn pt tk mr rm UL k L = sumTo mr lt.toNat ↔ (rnS lt mn pt tk mr rm (asg UL L) k.toNat).1.length = (rw0 mr lt).length) := by
  have h1 := rw0_len hmr lt.toNat
  have h2 := rn_mono lt mn pt tk mr rm (asg UL L) 0 k.toNat
  rw [Nat.zero_add] at h2
  have h2' : (rnS lt mn pt tk mr rm (asg UL L) k.toNat).1.length ≤ (rw0 mr lt).length := h2
  have h3 : ((rw0 mr lt).length : Int) = lt.toNat - sumTo mr lt.toNat := h1
  unfold cst
  omega
/-- by weights of points -/
theorem ld_pts {UL L : List Int} {f : Int → Int} {q x s : Int} (hn : UL.Nodup) (hl : L.length = UL.length) (hq : q ∈ UL) : sumTo (fun i => if f (lg L i) = s ∧ lg UL i = q then x else 0) UL.length = if f (asg UL L q) = s then x else 0 := by
  obtain ⟨t, ht, hq2⟩ := List.getElem_of_mem hq
  have hU : UL[t]? = some q := by rw [List.getElem?_eq_getElem ht, hq2]
  have hLt : t < L.length := by omega
  have hag := asg_get UL L t q L[t] hn hU (List.getElem?_eq_getElem hLt)
  have lgU : ∀ i : Nat, i < UL.length → (lg UL (i : Int) = q ↔ i = t) := fun i hi => by
    unfold lg
    rw [Int.toNat_natCast, List.getD_eq_getElem?_getD, List.getElem?_eq_getElem hi]
    show UL[i] = q ↔ _
    constructor
    · intro e
      rw [← hq2] at e
      have hpw := List.pairwise_iff_getElem.mp hn
      rcases Nat.lt_trichotomy i t with z | z | z
      · exact absurd e (hpw i t hi ht z)
      · exact z
      · exact absurd e.symm (hpw t i ht hi z)
    · rintro rfl; exact hq2
  have lgL : lg L (t : Int) = L[t] := by
    unfold lg
    rw [Int.toNat_natCast, List.getD_eq_getElem?_getD, List.getElem?_eq_getElem hLt]
    rfl
  have key : ∀ n : Nat, n ≤ UL.length → sumTo (fun i => if f (lg L i) = s ∧ lg UL i = q then x else 0) n = if t < n ∧ f (asg UL L q) = s then x else 0 := by
    intro n
    induction n with
    | zero => intro _; rw [if_neg (by omega)]; rfl
    | succ n ih =>
      intro hn2
      show sumTo _ n + (if f (lg L (n : Int)) = s ∧ lg UL (n : Int) = q then x else 0) = _
      rw [ih (by omega)]
      by_cases e : n = t
      · subst e
        rw [if_neg (by omega), lgL, ← hag]
        by_cases z : f (asg UL L q) = s
        · rw [if_pos ⟨z, (lgU n (by omega)).mpr rfl⟩, if_pos ⟨by omega, z⟩]; omega
        · rw [if_neg (fun w => z w.1), if_neg (fun w => z w.2)]; rfl
      · rw [if_neg (c := f (lg L (n : Int)) = s ∧ lg UL (n : Int) = q) (fun w => e ((lgU n (by omega)).mp w.2))]
        by_cases z : t < n ∧ f (asg UL L q) = s
        · rw [if_pos z, if_pos ⟨by omega, z.2⟩]; omega
        · rw [if_neg z, if_neg (fun w => z ⟨by omega, w.2⟩)]; rfl
  rw [key UL.length (Nat.le_refl _)]
  by_cases z : f (asg UL L q) = s
  · rw [if_pos ⟨ht, z⟩, if_pos z]
  · rw [if_neg (fun w => z w.2), if_neg z]
theorem ldS_tot {lt mn : Int} {pt tk mr : Int → Int} {UL L : List Int} {j : Nat} {s : Int} (hn : UL.Nodup) (hl : L.length = UL.length) (hp : ∀ l, 0 ≤ l → l < lt → pt l ∈ UL) : ldS (fun i => wS pt tk mr lt (lg UL i)) (lg L) mn j UL.length s = totL (stk pt (asg UL L) mn j) tk s (rw0 mr lt) := by
  unfold rw0
  rw [tot_sum]
  unfold ldS wS
  have e1 : ∀ i : Int, (if lg L i / pw mn j % mn = s then sumTo (fun l => if mr l = 0 ∧ pt l = lg UL i then tk l else 0) lt.toNat else 0) = sumTo (fun l => if mr l = 0 then (if lg L i / pw mn j % mn = s ∧ lg UL i = pt l then tk l else 0) else 0) lt.toNat := fun i => by
    by_cases z : lg L i / pw mn j % mn = s
    · rw [if_pos z]
      refine sumTo_congr (fun l _ _ => ?_)
      by_cases w : mr l = 0
      · rw [if_pos w]
        by_cases y : pt l = lg UL i
        · rw [if_pos ⟨w, y⟩, if_pos ⟨z, y.symm⟩]
        · rw [if_neg (fun q => y q.2), if_neg (fun q => y q.2.symm)]
      · rw [if_neg (fun q => w q.1), if_neg w]
    · rw [if_neg z]
      rw [sumTo_congr (G := fun _ => 0) (fun l _ _ => by
        by_cases w : mr l = 0
        · rw [if_pos w, if_neg (fun q => z q.1)]
        · rw [if_neg w]), sum_zero]
  rw [show (fun i => if lg L i / pw mn j % mn = s then sumTo (fun l => if mr l = 0 ∧ pt l = lg UL i then tk l else 0) lt.toNat else 0) = (fun i => sumTo (fun l => if mr l = 0 then (if lg L i / pw mn j % mn = s ∧ lg UL i = pt l then tk l else 0) else 0) lt.toNat) from funext e1]
  rw [sum_swap (fun i l => if mr l = 0 then (if lg L i / pw mn j % mn = s ∧ lg UL i = pt l then tk l else 0) else 0)]
  refine sumTo_congr (fun l h0 h1 => ?_)
  by_cases w : mr l = 0
  · have e2 := ld_pts (UL := UL) (L := L) (f := fun c => c / pw mn j % mn) (q := pt l) (x := tk l) (s := s) hn hl (hp l h0 (by omega))
    rw [sumTo_congr (G := fun i => if lg L i / pw mn j % mn = s ∧ lg UL i = pt l then tk l else 0) (fun i _ _ => by rw [if_pos w]), e2]
    show (if asg UL L (pt l) / pw mn j % mn = s then tk l else 0) = if mr l = 0 ∧ asg UL L (pt l) / pw mn j % mn = s then tk l else 0
    by_cases y : asg UL L (pt l) / pw mn j % mn = s
    · rw [if_pos y, if_pos ⟨w, y⟩]
    · rw [if_neg y, if_neg (fun q => y q.2)]
  · rw [sumTo_congr (G := fun _ => 0) (fun i _ _ => by rw [if_neg w]), sum_zero, if_neg (fun q => w q.1)]
theorem ldS_mono {w c : Int → Int} {mn : Int} {j : Nat} {s : Int} (hw : ∀ i, 0 ≤ w i) {a b : Nat} (h : a ≤ b) : ldS w c mn j a s ≤ ldS w c mn j b s := by
  obtain ⟨d, rfl⟩ : ∃ d, b = a + d := ⟨b - a, by omega⟩
  clear h
  induction d with
  | zero => exact Int.le_refl _
  | succ d ih =>
    have := hw ((a + d : Nat) : Int)
    show _ ≤ sumTo _ (a + d) + (if c ((a + d : Nat) : Int) / pw mn j % mn = s then w ((a + d : Nat) : Int) else 0)
    unfold ldS at ih
    unfold ldS
    split <;> omega
theorem Fit_iff {w ro : Int → Int} {mn : Int} {k : Nat} {L : List Int} (hw : ∀ i, 0 ≤ w i) (hro : ∀ s, 0 ≤ ro s) : FitL w ro mn k L ↔ ∀ j, j < k → ∀ s, ldS w (lg L) mn j L.length s ≤ ro s := by
  constructor
  · intro h j hj s
    have key : ∀ n : Nat, n ≤ L.length → ldS w (lg L) mn j n s ≤ ro s := by
      intro n
      induction n with
      | zero => intro _; exact hro s
      | succ n ih =>
        intro hn
        by_cases e : lg L (n : Int) / pw mn j % mn = s
        · have := h (n : Int) (by omega) (by omega) j hj
          rw [e, show ((n : Int) + 1).toNat = n + 1 by omega] at this
          exact this
        · have h1 := ih (by omega)
          show sumTo _ n + (if lg L (n : Int) / pw mn j % mn = s then w (n : Int) else 0) ≤ _
          rw [if_neg e]
          unfold ldS at h1
          omega
    exact key L.length (Nat.le_refl _)
  · intro h i h0 h1 j hj
    exact Int.le_trans (ldS_mono hw (by omega)) (h j hj _)
theorem Fit_cst {lt mn : Int} {pt tk mr od pl rm cd ro : Int → Int} {k : Int} {L : List Int} (hI : DI lt mn pt tk mr od pl rm cd) (hro : ∀ s, 0 ≤ ro s) (hl : L.length = (usd (hasI pt lt) od 10).length) : FitL (fun i => wS pt tk mr lt (lg (usd (hasI pt lt) od 10) i)) ro mn k.toNat L ↔ cst lt mn pt tk mr ro (usd (hasI pt lt) od 10) k L = sumTo mr lt.toNat := by
  obtain ⟨⟨⟨hlt0, hlt1⟩, hmn0, hmn1⟩, ⟨hpt, htk, hmr⟩, ⟨hod, hpl, hpo, hop⟩, hrm, hcd⟩ := hI
  have hn : (usd (hasI pt lt) od 10).Nodup := (usd_nd (hs := hasI pt lt) hpo 10 (Nat.le_refl _)).filter _
  have hp : ∀ l, 0 ≤ l → l < lt → pt l ∈ usd (hasI pt lt) od 10 := fun l h0 h1 => (usd_mem hod hpl hop _).mpr ⟨hpt l, has_pt h0 h1⟩
  rw [Fit_iff (fun i => (wS_b ⟨hlt0, hlt1⟩ htk _).1) hro, (cst_eq hlt0 hmr).2]
  constructor
  · intro h
    exact (rn_full hmn0 (fun j => (htk j).1) k.toNat (fun j hj s => by rw [← ldS_tot hn hl hp, ← hl]; exact h j hj s)).length_eq
  · intro h j hj s
    rw [hl, ldS_tot hn hl hp]
    exact (rn_loss hmn0 hro k.toNat h).2 j hj s
theorem cl_iff {lt mn : Int} {pt tk mr od pl rm cd ro : Int → Int} {k : Int} (hI : DI lt mn pt tk mr od pl rm cd) (hro : ∀ s, 0 ≤ ro s) (hp : 1 ≤ pw mn k.toNat) : clM lt mn pt tk mr od ro k ↔ ∃ Y ∈ plsA mn k (usd (hasI pt lt) od 10).length, FitL (fun i => wS pt tk mr lt (lg (usd (hasI pt lt) od 10) i)) ro mn k.toNat Y := by
  have hlt : 0 ≤ lt ∧ lt ≤ 24 := hI.1.1
  have hmr := hI.2.1.2.2
  have hlen : ∀ Y ∈ plsA mn k (usd (hasI pt lt) od 10).length, Y.length = (usd (hasI pt lt) od 10).length := fun Y hY => ((allP_mem _ _ _ _ (by omega)).mp hY).2
  unfold clM
  constructor
  · rintro ⟨h1, h2⟩
    have hb := bst_ok (cst lt mn pt tk mr ro (usd (hasI pt lt) od 10) k) (fun L => (cst_b hlt).2) (plsA mn k (usd (hasI pt lt) od 10).length) (allP_lx _ _ _ (by omega)) (fun e => h1 (by rw [e]; rfl))
    refine ⟨_, hb.1, (Fit_cst hI hro (hlen _ hb.1)).mpr ?_⟩
    rw [hb.2.1]
    exact h2
  · rintro ⟨Y, hY, hF⟩
    have hne : plsA mn k (usd (hasI pt lt) od 10).length ≠ [] := fun e => by rw [e] at hY; cases hY
    have hb := bst_ok (cst lt mn pt tk mr ro (usd (hasI pt lt) od 10) k) (fun L => (cst_b hlt).2) (plsA mn k (usd (hasI pt lt) od 10).length) (allP_lx _ _ _ (by omega)) hne
    have hc := (Fit_cst hI hro (hlen Y hY)).mp hF
    refine ⟨fun e => hne (List.length_eq_zero_iff.mp (by omega)), ?_⟩
    have g1 := hb.2.2.1 Y hY
    have g2 := (cst_eq (mn := mn) (pt := pt) (tk := tk) (rm := ro) (UL := usd (hasI pt lt) od 10) (k := k) (L := (bsF lt mn pt tk mr ro (usd (hasI pt lt) od 10) k (plsA mn k (usd (hasI pt lt) od 10).length)).2.2) hlt.1 hmr).1
    have g3 : cst lt mn pt tk mr ro (usd (hasI pt lt) od 10) k (bsF lt mn pt tk mr ro (usd (hasI pt lt) od 10) k (plsA mn k (usd (hasI pt lt) od 10).length)).2.2 = (bsF lt mn pt tk mr ro (usd (hasI pt lt) od 10) k (plsA mn k (usd (hasI pt lt) od 10).length)).1 := hb.2.1
    have g4 : (bsF lt mn pt tk mr ro (usd (hasI pt lt) od 10) k (plsA mn k (usd (hasI pt lt) od 10).length)).1 ≤ cst lt mn pt tk mr ro (usd (hasI pt lt) od 10) k Y := g1
    omega
