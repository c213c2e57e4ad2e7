/-! ===== rows as lists; a pass; a run ===== -/
/-- the first n of a row -/
def lst (F : Int → Int) (n : Nat) : List Int := (List.range n).map (fun i : Nat => F (i : Int))
theorem lst_len (F : Int → Int) (n : Nat) : (lst F n).length = n := by simp [lst]
theorem lst_s (F : Int → Int) (n : Nat) : lst F (n + 1) = lst F n ++ [F (n : Int)] := by simp [lst, List.range_succ]
theorem lst_si {F : Int → Int} {i : Int} (h : 0 ≤ i) : lst F (i + 1).toNat = lst F i.toNat ++ [F i] := by
  rw [toNat_s h, lst_s, Int.toNat_of_nonneg h]
theorem lst_congr {F G : Int → Int} {n : Nat} (h : ∀ j : Int, 0 ≤ j → j < n → F j = G j) : lst F n = lst G n := by
  unfold lst
  apply List.map_congr_left
  intro i hi
  rw [List.mem_range] at hi
  exact h i (by omega) (by omega)
theorem lst_ud {F : Int → Int} {n : Nat} {a v : Int} (h : (n : Int) ≤ a) : lst (ud F a v) n = lst F n := lst_congr (fun j _ h2 => ud_ne (by omega))
theorem lst_push {F : Int → Int} {a v : Int} (h : 0 ≤ a) : lst (ud F a v) (a + 1).toNat = lst F a.toNat ++ [v] := by
  rw [lst_si h, ud_at, lst_ud (by omega)]
/-- place i of a list -/
def lg (L : List Int) (i : Int) : Int := L.getD i.toNat 0
theorem lst_lg {F : Int → Int} {n : Nat} {L : List Int} (h : lst F n = L) {i : Int} (h0 : 0 ≤ i) (h1 : i < n) : F i = lg L i := by
  subst h
  unfold lg lst
  rw [List.getD_eq_getElem?_getD, List.getElem?_map, List.getElem?_range (by omega)]
  show F i = F ((i.toNat : Nat) : Int)
  rw [Int.toNat_of_nonneg h0]
theorem lst_mem {F : Int → Int} {n : Nat} {L : List Int} (h : lst F n = L) {i : Int} (h0 : 0 ≤ i) (h1 : i < n) : F i ∈ L := by
  subst h
  unfold lst
  rw [List.mem_map]
  exact ⟨i.toNat, List.mem_range.mpr (by omega), by rw [Int.toNat_of_nonneg h0]⟩
theorem lst_n {F : Int → Int} {n : Int} {L : List Int} (h : lst F n.toNat = L) (h0 : 0 ≤ n) : n = (L.length : Int) := by
  rw [← h, lst_len]
  omega
/-- a letter comes to a pass: loads, those that went in, those that are spilled -/
def stp (st tk rm : Int → Int) (x : (Int → Int) × List Int × List Int) (l : Int) : (Int → Int) × List Int × List Int :=
  if x.1 (st l) + tk l ≤ rm (st l) then (ud x.1 (st l) (x.1 (st l) + tk l), x.2.1 ++ [l], x.2.2) else (x.1, x.2.1, x.2.2 ++ [l])
def pas (st tk rm : Int → Int) (row : List Int) : (Int → Int) × List Int × List Int := row.foldl (stp st tk rm) (fun _ => 0, [], [])
theorem pas_s {st tk rm F : Int → Int} {i : Int} (h : 0 ≤ i) : pas st tk rm (lst F (i + 1).toNat) = stp st tk rm (pas st tk rm (lst F i.toNat)) (F i) := by
  rw [lst_si h]
  unfold pas
  rw [List.foldl_append]
  rfl
/-- of the letters, those of stacker s -/
def pil (st : Int → Int) (L : List Int) (s : Int) : List Int := L.filter (fun l => decide (st l = s))
def catL (LS : Int → List Int) (n : Nat) : List Int := ((List.range n).map (fun s : Nat => LS (s : Int))).flatten
theorem catL_0 (LS : Int → List Int) : catL LS 0 = [] := rfl
theorem catL_s {LS : Int → List Int} {s : Int} (h : 0 ≤ s) : catL LS (s + 1).toNat = catL LS s.toNat ++ LS s := by
  rw [toNat_s h]
  unfold catL
  rw [List.range_succ, List.map_append, List.flatten_append]
  simp [Int.toNat_of_nonneg h]
def swp (st : Int → Int) (mn : Int) (L : List Int) : List Int := catL (pil st L) mn.toNat
theorem pil_snoc (st : Int → Int) (L : List Int) (l s : Int) : pil st (L ++ [l]) s = if st l = s then pil st L s ++ [l] else pil st L s := by
  unfold pil
  rw [List.filter_append]
  by_cases h : st l = s
  · rw [if_pos h]; simp [h]
  · rw [if_neg h]; simp [h]
theorem pil_len (st : Int → Int) (L : List Int) (s : Int) : (pil st L s).length ≤ L.length := List.length_filter_le _ _
theorem cat_len (st : Int → Int) : ∀ (L : List Int) (n : Nat), (catL (pil st L) n).length = (L.filter (fun l => decide (0 ≤ st l ∧ st l < n))).length := by
  intro L n
  induction n with
  | zero =>
    rw [catL_0]
    have : (L.filter (fun l => decide (0 ≤ st l ∧ st l < ((0 : Nat) : Int)))) = [] := by
      rw [List.filter_eq_nil_iff]
      intro l _ h
      have := of_decide_eq_true h
      omega
    rw [this]
  | succ n ih =>
    have e := catL_s (LS := pil st L) (s := (n : Int)) (by omega)
    have e1 : ((n : Int) + 1).toNat = n + 1 := by omega
    have e2 : ((n : Int)).toNat = n := by omega
    rw [e1, e2] at e
    rw [e, List.length_append, ih]
    unfold pil
    clear e e1 e2 ih
    induction L with
    | nil => rfl
    | cons a L ih =>
      simp only [List.filter_cons]
      by_cases h1 : 0 ≤ st a ∧ st a < (n : Int)
      · have h2 : ¬ st a = (n : Int) := by omega
        have h3 : 0 ≤ st a ∧ st a < ((n + 1 : Nat) : Int) := by omega
        simp only [h1, h2, h3, decide_true, decide_false, if_true, if_false, List.length_cons]
        simp only [decide_true, and_self, if_true, List.length_cons, Bool.false_eq_true, if_false] at ih ⊢
        omega
      · by_cases h2 : st a = (n : Int)
        · have h3 : 0 ≤ st a ∧ st a < ((n + 1 : Nat) : Int) := by omega
          have d1 : decide (0 ≤ st a ∧ st a < (n : Int)) = false := decide_eq_false h1
          have d2 : decide (st a = (n : Int)) = true := decide_eq_true h2
          have d3 : decide (0 ≤ st a ∧ st a < ((n + 1 : Nat) : Int)) = true := decide_eq_true h3
          rw [d1, d2, d3]
          simp only [if_true, if_false, Bool.false_eq_true, List.length_cons]
          omega
        · have h3 : ¬ (0 ≤ st a ∧ st a < ((n + 1 : Nat) : Int)) := by omega
          have d1 : decide (0 ≤ st a ∧ st a < (n : Int)) = false := decide_eq_false h1
          have d2 : decide (st a = (n : Int)) = false := decide_eq_false h2
          have d3 : decide (0 ≤ st a ∧ st a < ((n + 1 : Nat) : Int)) = false := decide_eq_false h3
          rw [d1, d2, d3]
          simp only [if_false, Bool.false_eq_true]
          exact ih
theorem cat_le (st : Int → Int) (L : List Int) (n : Nat) : (catL (pil st L) n).length ≤ L.length := by
  rw [cat_len]
  exact List.length_filter_le _ _
theorem cat_mem {LS : Int → List Int} {n : Nat} {x : Int} : x ∈ catL LS n ↔ ∃ s : Int, 0 ≤ s ∧ s < n ∧ x ∈ LS s := by
  unfold catL
  rw [List.mem_flatten]
  constructor
  · rintro ⟨l, hl, hx⟩
    obtain ⟨s, hs, rfl⟩ := List.mem_map.mp hl
    rw [List.mem_range] at hs
    exact ⟨s, by omega, by omega, hx⟩
  · rintro ⟨s, h0, h1, hx⟩
    refine ⟨LS s, List.mem_map.mpr ⟨s.toNat, List.mem_range.mpr (by omega), ?_⟩, hx⟩
    rw [Int.toNat_of_nonneg h0]
theorem pil_mem {st : Int → Int} {L : List Int} {s x : Int} : x ∈ pil st L s ↔ x ∈ L ∧ st x = s := by
  unfold pil
  rw [List.mem_filter, decide_eq_true_eq]
/-- what a pass leaves of its letters -/
theorem pas_inv (st tk rm : Int → Int) (row : List Int) : (pas st tk rm row).2.1.length + (pas st tk rm row).2.2.length = row.length ∧ (∀ x, x ∈ (pas st tk rm row).2.1 → x ∈ row) ∧ (∀ x, x ∈ (pas st tk rm row).2.2 → x ∈ row) := by
  have key : ∀ (row : List Int) (x : (Int → Int) × List Int × List Int), (row.foldl (stp st tk rm) x).2.1.length + (row.foldl (stp st tk rm) x).2.2.length = x.2.1.length + x.2.2.length + row.length ∧ (∀ y, y ∈ (row.foldl (stp st tk rm) x).2.1 → y ∈ x.2.1 ∨ y ∈ row) ∧ (∀ y, y ∈ (row.foldl (stp st tk rm) x).2.2 → y ∈ x.2.2 ∨ y ∈ row) := by
    intro row
    induction row with
    | nil => intro x; exact ⟨by simp, fun y h => Or.inl h, fun y h => Or.inl h⟩
    | cons a row ih =>
      intro x
      obtain ⟨h1, h2, h3⟩ := ih (stp st tk rm x a)
      rw [List.foldl_cons]
      by_cases hq : x.1 (st a) + tk a ≤ rm (st a)
      · have e : stp st tk rm x a = (ud x.1 (st a) (x.1 (st a) + tk a), x.2.1 ++ [a], x.2.2) := if_pos hq
        rw [e] at h1 h2 h3 ⊢
        simp only [List.length_append, List.length_cons, List.length_nil, List.mem_append, List.mem_cons, List.not_mem_nil, or_false] at h1 h2 h3 ⊢
        refine ⟨by omega, fun y hy => ?_, fun y hy => ?_⟩
        · rcases h2 y hy with (h | h) | h
          · exact Or.inl h
          · exact Or.inr (Or.inl h)
          · exact Or.inr (Or.inr h)
        · rcases h3 y hy with h | h
          · exact Or.inl h
          · exact Or.inr (Or.inr h)
      · have e : stp st tk rm x a = (x.1, x.2.1, x.2.2 ++ [a]) := if_neg hq
        rw [e] at h1 h2 h3 ⊢
        simp only [List.length_append, List.length_cons, List.length_nil, List.mem_append, List.mem_cons, List.not_mem_nil, or_false] at h1 h2 h3 ⊢
        refine ⟨by omega, fun y hy => ?_, fun y hy => ?_⟩
        · rcases h2 y hy with h | h
          · exact Or.inl h
          · exact Or.inr (Or.inr h)
        · rcases h3 y hy with (h | h) | h
          · exact Or.inl h
          · exact Or.inr (Or.inl h)
          · exact Or.inr (Or.inr h)
  have h := key row (fun _ => 0, [], [])
  simp only [List.length_nil, Nat.zero_add, List.not_mem_nil, false_or] at h
  exact h
/-- loads stay within 0 and the rooms -/
theorem pas_ld (st tk rm : Int → Int) (row : List Int) (htk : ∀ j, 0 ≤ tk j ∧ tk j ≤ 9) (hrm : ∀ j, 0 ≤ rm j ∧ rm j ≤ 99) : ∀ s, 0 ≤ (pas st tk rm row).1 s ∧ (pas st tk rm row).1 s ≤ 99 := by
  have key : ∀ (row : List Int) (x : (Int → Int) × List Int × List Int), (∀ s, 0 ≤ x.1 s ∧ x.1 s ≤ 99) → ∀ s, 0 ≤ (row.foldl (stp st tk rm) x).1 s ∧ (row.foldl (stp st tk rm) x).1 s ≤ 99 := by
    intro row
    induction row with
    | nil => intro x h; exact h
    | cons a row ih =>
      intro x h
      rw [List.foldl_cons]
      refine ih _ ?_
      unfold stp
      split
      · rename_i hq
        have h1 := h (st a)
        have h2 := htk a
        have h3 := hrm (st a)
        exact ud_b h (by omega) (by omega)
      · exact h
  exact key row _ (fun s => by simp)
/-- a run: after n passes the letters in their order, at which pass each was spilled, the loads of the last pass -/
def rw0 (mr : Int → Int) (lt : Int) : List Int := (lst (fun i => i) lt.toNat).filter (fun l => decide (mr l = 0))
def stk (pt cd : Int → Int) (mn : Int) (j : Nat) : Int → Int := fun l => cd (pt l) / pw mn j % mn
def rnS (lt mn : Int) (pt tk mr rm cd : Int → Int) : Nat → List Int × (Int → Int) × (Int → Int)
  | 0 => (rw0 mr lt, mr, fun _ => 0)
  | j + 1 => (swp (stk pt cd mn j) mn (pas (stk pt cd mn j) tk rm (rnS lt mn pt tk mr rm cd j).1).2.1, (fun l => if l ∈ (pas (stk pt cd mn j) tk rm (rnS lt mn pt tk mr rm cd j).1).2.2 then ((j + 1 : Nat) : Int) else (rnS lt mn pt tk mr rm cd j).2.1 l), (pas (stk pt cd mn j) tk rm (rnS lt mn pt tk mr rm cd j).1).1)
theorem rn_in (lt mn : Int) (pt tk mr rm cd : Int → Int) : ∀ j x, x ∈ (rnS lt mn pt tk mr rm cd j).1 → 0 ≤ x ∧ x < lt
  | 0, x, h => by
    have h1 := (List.mem_filter.mp h).1
    unfold lst at h1
    obtain ⟨i, hi, rfl⟩ := List.mem_map.mp h1
    rw [List.mem_range] at hi
    show 0 ≤ ((i : Nat) : Int) ∧ ((i : Nat) : Int) < lt
    omega
  | j + 1, x, h => by
    obtain ⟨s, -, -, hx⟩ := cat_mem.mp h
    exact rn_in lt mn pt tk mr rm cd j x ((pas_inv _ tk rm _).2.1 x (pil_mem.mp hx).1)
theorem rn_len (lt mn : Int) (pt tk mr rm cd : Int → Int) (hlt : 0 ≤ lt) : ∀ j, (((rnS lt mn pt tk mr rm cd j).1.length : Nat) : Int) ≤ lt
  | 0 => by
    have h := List.length_filter_le (fun l => decide (mr l = 0)) (lst (fun i => i) lt.toNat)
    rw [lst_len] at h
    show (((rw0 mr lt).length : Nat) : Int) ≤ lt
    unfold rw0
    omega
  | j + 1 => by
    have h1 := rn_len lt mn pt tk mr rm cd hlt j
    have h2 := (pas_inv (stk pt cd mn j) tk rm (rnS lt mn pt tk mr rm cd j).1).1
    have h3 := cat_le (stk pt cd mn j) (pas (stk pt cd mn j) tk rm (rnS lt mn pt tk mr rm cd j).1).2.1 mn.toNat
    show (((swp (stk pt cd mn j) mn (pas (stk pt cd mn j) tk rm (rnS lt mn pt tk mr rm cd j).1).2.1).length : Nat) : Int) ≤ lt
    unfold swp
    omega
theorem rn_dec (lt mn : Int) (pt tk mr rm cd : Int → Int) (j : Nat) : (rnS lt mn pt tk mr rm cd (j + 1)).1.length ≤ (rnS lt mn pt tk mr rm cd j).1.length := by
  have h2 := (pas_inv (stk pt cd mn j) tk rm (rnS lt mn pt tk mr rm cd j).1).1
  have h3 := cat_le (stk pt cd mn j) (pas (stk pt cd mn j) tk rm (rnS lt mn pt tk mr rm cd j).1).2.1 mn.toNat
  show (swp (stk pt cd mn j) mn (pas (stk pt cd mn j) tk rm (rnS lt mn pt tk mr rm cd j).1).2.1).length ≤ _
  unfold swp
  omega
theorem rn_mono (lt mn : Int) (pt tk mr rm cd : Int → Int) (i : Nat) : ∀ d, (rnS lt mn pt tk mr rm cd (i + d)).1.length ≤ (rnS lt mn pt tk mr rm cd i).1.length
  | 0 => Nat.le_refl _
  | d + 1 => Nat.le_trans (rn_dec lt mn pt tk mr rm cd (i + d)) (rn_mono lt mn pt tk mr rm cd i d)
/-- four rows as one -/
def gsel (g0 g1 g2 g3 : Int → Int) (s : Int) : Int → Int := if s = 0 then g0 else if s = 1 then g1 else if s = 2 then g2 else g3
theorem gs_0 (F g0 g1 g2 g3 : Int → Int) (s : Int) : gsel F g1 g2 g3 s = if s = 0 then F else gsel g0 g1 g2 g3 s := by
  unfold gsel
  by_cases h : s = 0 <;> simp [h]
theorem gs_1 (F g0 g1 g2 g3 : Int → Int) (s : Int) : gsel g0 F g2 g3 s = if s = 1 then F else gsel g0 g1 g2 g3 s := by
  unfold gsel
  by_cases h : s = 1 <;> simp [h]
theorem gs_2 (F g0 g1 g2 g3 : Int → Int) (s : Int) : gsel g0 g1 F g3 s = if s = 2 then F else gsel g0 g1 g2 g3 s := by
  unfold gsel
  by_cases h : s = 2 <;> simp [h]
theorem gs_3 (F g0 g1 g2 g3 : Int → Int) (s : Int) (h0 : 0 ≤ s) (h4 : s < 4) : gsel g0 g1 g2 F s = if s = 3 then F else gsel g0 g1 g2 g3 s := by
  unfold gsel
  by_cases h : s = 3
  · simp [h]
  · rw [if_neg h]
    rcases (show s = 0 ∨ s = 1 ∨ s = 2 by omega) with rfl | rfl | rfl <;> simp
theorem pile_step {P P' : Int → Int → Int} {ht st : Int → Int} {L : List Int} {k l : Int} (hP' : ∀ s, 0 ≤ s → s < 4 → P' s = if s = k then ud (P k) (ht k) l else P s) (hG : ∀ s, 0 ≤ s → s < 4 → lst (P s) (ht s).toNat = pil st L s) (hk : st l = k) (hH : ∀ s, 0 ≤ ht s) : ∀ s, 0 ≤ s → s < 4 → lst (P' s) (ud ht k (ht k + 1) s).toNat = pil st (L ++ [l]) s := by
  intro s h0 h4
  rw [hP' s h0 h4, pil_snoc, hk]
  by_cases e : s = k
  · subst e
    rw [if_pos rfl, if_pos rfl, ud_at, lst_push (hH _), hG s h0 h4]
  · rw [if_neg e, ud_ne e, if_neg (Ne.symm e), hG s h0 h4]
/-- pairs in wrong order, of the places v 0, v 1, .. -/
def wrS (v : Int → Int) (n : Nat) : Int := sumTo (fun b => sumTo (fun i => if v b < v i then 1 else 0) b.toNat) n
theorem sumTo_congr {F G : Int → Int} : ∀ {n : Nat}, (∀ j : Int, 0 ≤ j → j < n → F j = G j) → sumTo F n = sumTo G n
  | 0, _ => rfl
  | n + 1, h => by
    show sumTo F n + F n = sumTo G n + G n
    rw [sumTo_congr (n := n) (fun j h0 h1 => h j h0 (by omega)), h n (by omega) (by omega)]
theorem wrS_congr {v w : Int → Int} {n : Nat} (h : ∀ i : Int, 0 ≤ i → i < n → v i = w i) : wrS v n = wrS w n := by
  unfold wrS
  refine sumTo_congr (fun b h0 h1 => sumTo_congr (fun i g0 g1 => ?_))
  rw [h b h0 h1, h i g0 (by omega)]
theorem sumTo_01 (F : Int → Int) (h : ∀ j, 0 ≤ F j ∧ F j ≤ 1) (n : Nat) : 0 ≤ sumTo F n ∧ sumTo F n ≤ n := by
  have := sumTo_b h n
  omega
theorem sumTo_24 {F : Int → Int} (h : ∀ j, 0 ≤ j → j < 24 → 0 ≤ F j ∧ F j ≤ 24) : ∀ {n : Nat}, n ≤ 24 → 0 ≤ sumTo F n ∧ sumTo F n ≤ n * 24
  | 0, _ => by simp [sumTo]
  | n + 1, hn => by
    have h1 := sumTo_24 h (n := n) (by omega)
    have h2 := h n (by omega) (by omega)
    show 0 ≤ sumTo F n + F n ∧ sumTo F n + F n ≤ ((n + 1 : Nat) : Int) * 24
    omega
theorem wrS_b (v : Int → Int) {n : Nat} (hn : n ≤ 24) : 0 ≤ wrS v n ∧ wrS v n ≤ n * 24 := by
  refine sumTo_24 (fun b h0 h1 => ?_) hn
  have := sumTo_01 (fun i => if v b < v i then 1 else 0) (fun j => by split <;> omega) b.toNat
  omega
theorem rw0_s {mr : Int → Int} {i : Int} (h : 0 ≤ i) : rw0 mr (i + 1) = if mr i = 0 then rw0 mr i ++ [i] else rw0 mr i := by
  unfold rw0
  rw [lst_si h, List.filter_append]
  by_cases e : mr i = 0
  · rw [if_pos e]; simp [e]
  · rw [if_neg e]; simp [e]
/-- what the stackers hold after the letters of a row came: j the pass, sa and SA at which pass each was spilled, before and then -/
def StkP (st tk rm : Int → Int) (row : List Int) (j : Int) (sa SA A0 A1 A2 A3 HT LD : Int → Int) : Prop :=
  LD = (pas st tk rm row).1 ∧ (SA = fun l => if l ∈ (pas st tk rm row).2.2 then j else sa l) ∧ (∀ s, HT s = ((pil st (pas st tk rm row).2.1 s).length : Int)) ∧ (∀ s, 0 ≤ s → s < 4 → lst (gsel A0 A1 A2 A3 s) (HT s).toNat = pil st (pas st tk rm row).2.1 s)
theorem StkP_0 (st tk rm : Int → Int) (j : Int) (sa A0 A1 A2 A3 : Int → Int) : StkP st tk rm [] j sa sa A0 A1 A2 A3 (fun _ => 0) (fun _ => 0) := by
  refine ⟨rfl, ?_, fun s => rfl, fun s _ _ => rfl⟩
  funext l
  show sa l = if l ∈ ([] : List Int) then j else sa l
  rw [if_neg (List.not_mem_nil)]
theorem StkP_h {st tk rm : Int → Int} {row : List Int} {j : Int} {sa SA A0 A1 A2 A3 HT LD : Int → Int} (h : StkP st tk rm row j sa SA A0 A1 A2 A3 HT LD) : ∀ s, 0 ≤ HT s := fun s => by rw [h.2.2.1 s]; omega
theorem StkP_hl {st tk rm : Int → Int} {row : List Int} {j : Int} {sa SA A0 A1 A2 A3 HT LD : Int → Int} (h : StkP st tk rm row j sa SA A0 A1 A2 A3 HT LD) : ∀ s, HT s ≤ row.length := fun s => by
  rw [h.2.2.1 s]
  have h1 := pil_len st (pas st tk rm row).2.1 s
  have h2 := (pas_inv st tk rm row).1
  omega
/-- a letter that is spilled -/
theorem StkP_no {st tk rm F : Int → Int} {i j : Int} {sa SA A0 A1 A2 A3 HT LD : Int → Int} (h0 : 0 ≤ i) (h : StkP st tk rm (lst F i.toNat) j sa SA A0 A1 A2 A3 HT LD) (hq : ¬ LD (st (F i)) + tk (F i) ≤ rm (st (F i))) : StkP st tk rm (lst F (i + 1).toNat) j sa (ud SA (F i) j) A0 A1 A2 A3 HT LD := by
  obtain ⟨h1, h2, h3, h4⟩ := h
  have e : pas st tk rm (lst F (i + 1).toNat) = ((pas st tk rm (lst F i.toNat)).1, (pas st tk rm (lst F i.toNat)).2.1, (pas st tk rm (lst F i.toNat)).2.2 ++ [F i]) := by
    rw [pas_s h0]
    unfold stp
    rw [if_neg (by rw [← h1]; exact hq)]
  unfold StkP
  rw [e]
  refine ⟨h1, ?_, h3, h4⟩
  funext l
  rw [h2]
  by_cases q : l = F i
  · subst q; rw [ud_at]; simp
  · rw [ud_ne q]; simp [q]
/-- a letter that goes in -/
theorem StkP_yes {st tk rm F : Int → Int} {i j k : Int} {sa SA A0 A1 A2 A3 B0 B1 B2 B3 HT LD : Int → Int} (h0 : 0 ≤ i) (h : StkP st tk rm (lst F i.toNat) j sa SA A0 A1 A2 A3 HT LD) (hk : k = st (F i)) (hq : LD k + tk (F i) ≤ rm k)
    (hB : ∀ s, 0 ≤ s → s < 4 → gsel B0 B1 B2 B3 s = if s = k then ud (gsel A0 A1 A2 A3 k) (HT k) (F i) else gsel A0 A1 A2 A3 s) : StkP st tk rm (lst F (i + 1).toNat) j sa SA B0 B1 B2 B3 (ud HT k (HT k + 1)) (ud LD k (LD k + tk (F i))) := by
  have hH := StkP_h h
  obtain ⟨h1, h2, h3, h4⟩ := h
  subst hk
  have e : pas st tk rm (lst F (i + 1).toNat) = (ud (pas st tk rm (lst F i.toNat)).1 (st (F i)) ((pas st tk rm (lst F i.toNat)).1 (st (F i)) + tk (F i)), (pas st tk rm (lst F i.toNat)).2.1 ++ [F i], (pas st tk rm (lst F i.toNat)).2.2) := by
    rw [pas_s h0]
    unfold stp
    rw [if_pos (by rw [← h1]; exact hq)]
  unfold StkP
  rw [e]
  refine ⟨by rw [h1], h2, fun s => ?_, pile_step hB h4 rfl hH⟩
  show _ = ((pil st ((pas st tk rm (lst F i.toNat)).2.1 ++ [F i]) s).length : Int)
  rw [pil_snoc]
  by_cases q : s = st (F i)
  · subst q; rw [ud_at, if_pos rfl, h3]; simp
  · rw [ud_ne q, if_neg (Ne.symm q), h3]
theorem lst_cat {F B : Int → Int} {a n : Int} (h0 : 0 ≤ a) (h1 : 0 ≤ n) : lst (cpy F B 0 a n) (a + n).toNat = lst B a.toNat ++ lst F n.toNat := by
  obtain ⟨k, rfl⟩ : ∃ k : Nat, n = k := ⟨n.toNat, by omega⟩
  rw [show ((k : Int)).toNat = k by omega]
  have h2 : ∀ m : Nat, m ≤ k → lst (cpy F B 0 a k) (a + m).toNat = lst B a.toNat ++ lst F m := by
    intro m
    induction m with
    | zero =>
      intro _
      rw [show (a + ((0 : Nat) : Int)).toNat = a.toNat by omega]
      have : lst F 0 = [] := rfl
      rw [this, List.append_nil]
      refine lst_congr (fun j q1 q2 => ?_)
      unfold cpy
      rw [if_neg (by omega)]
    | succ m ih =>
      intro hm
      rw [show (a + ((m + 1 : Nat) : Int)) = (a + m) + 1 by omega, lst_si (by omega), ih (by omega), lst_s, List.append_assoc]
      congr 2
      unfold cpy
      rw [if_pos (by omega), show (0 : Int) + (a + m - a) = m by omega]
  exact h2 k (Nat.le_refl k)
theorem wrS_s {v : Int → Int} {b : Int} (h : 0 ≤ b) : wrS v (b + 1).toNat = wrS v b.toNat + sumTo (fun i => if v b < v i then 1 else 0) b.toNat := by
  unfold wrS
  rw [sumTo_s h]
theorem wrS_1 {v : Int → Int} {a b : Int} (h : a ≤ b) (h1 : a = b ∨ b = 1) : wrS v b.toNat = wrS v a.toNat := by
  rcases h1 with rfl | rfl
  · rfl
  · have e1 : wrS v (1 : Int).toNat = 0 := by
      show sumTo _ 0 + sumTo _ (((0 : Nat) : Int)).toNat = 0
      rfl
    rcases (show a = 1 ∨ a ≤ 0 by omega) with rfl | q
    · rfl
    · rw [e1, show a.toNat = 0 by omega]
      rfl
theorem pw_b {b : Int} (h1 : 2 ≤ b) (h2 : b ≤ 4) : ∀ {n : Nat}, n ≤ 3 → 1 ≤ pw b n ∧ pw b n ≤ 64
  | 0, _ => by show (1 : Int) ≤ 1 ∧ (1 : Int) ≤ 64; omega
  | 1, _ => by show (1 : Int) ≤ 1 * b ∧ 1 * b ≤ 64; omega
  | 2, _ => by
    show (1 : Int) ≤ 1 * b * b ∧ 1 * b * b ≤ 64
    rcases (show b = 2 ∨ b = 3 ∨ b = 4 by omega) with rfl | rfl | rfl <;> omega
  | 3, _ => by
    show (1 : Int) ≤ 1 * b * b * b ∧ 1 * b * b * b ≤ 64
    rcases (show b = 2 ∨ b = 3 ∨ b = 4 by omega) with rfl | rfl | rfl <;> omega
  | n + 4, h => by omega
def RnP (lt mn : Int) (pt tk mr rm cd : Int → Int) (j : Nat) (cm : Int) (or sa ld : Int → Int) : Prop :=
  0 ≤ cm ∧ lst or cm.toNat = (rnS lt mn pt tk mr rm cd j).1 ∧ (∀ l, 0 ≤ l → l < lt → sa l = (rnS lt mn pt tk mr rm cd j).2.1 l) ∧ (1 ≤ j → ld = (rnS lt mn pt tk mr rm cd j).2.2)
theorem RnP_cm {lt mn : Int} {pt tk mr rm cd : Int → Int} {j : Nat} {cm : Int} {or sa ld : Int → Int} (h : RnP lt mn pt tk mr rm cd j cm or sa ld) : cm = ((rnS lt mn pt tk mr rm cd j).1.length : Int) := lst_n h.2.1 h.1
theorem RnP_or {lt mn : Int} {pt tk mr rm cd : Int → Int} {j : Nat} {cm : Int} {or sa ld : Int → Int} (h : RnP lt mn pt tk mr rm cd j cm or sa ld) : ∀ i, 0 ≤ i → i < cm → 0 ≤ or i ∧ or i < lt := fun i h0 h1 => rn_in lt mn pt tk mr rm cd j _ (lst_mem h.2.1 h0 (by omega))
theorem stk_so {pt cd so : Int → Int} {mn un : Int} {j : Nat} (hpt : ∀ j, 0 ≤ pt j ∧ pt j ≤ 9) (hu : un = pw mn j) (h : ∀ q, 0 ≤ q → q ≤ 9 → so q = cd q / un % mn ∧ 0 ≤ so q ∧ so q < mn) : (fun l => so (pt l)) = stk pt cd mn j := by
  funext l
  have h1 := hpt l
  rw [(h (pt l) h1.1 h1.2).1, hu]
  rfl
theorem RnP_s {lt mn : Int} {pt tk mr rm cd so : Int → Int} {j : Nat} {jj cm cn : Int} {or sa ld SA A0 A1 A2 A3 HT LD B : Int → Int} (h : RnP lt mn pt tk mr rm cd j cm or sa ld) (hst : (fun l => so (pt l)) = stk pt cd mn j) (hj : jj = ((j + 1 : Nat) : Int)) (hs : StkP (fun l => so (pt l)) tk rm (lst or cm.toNat) jj sa SA A0 A1 A2 A3 HT LD) (hw : 0 ≤ cn ∧ lst B cn.toNat = catL (pil (fun l => so (pt l)) (pas (fun l => so (pt l)) tk rm (lst or cm.toNat)).2.1) mn.toNat) : RnP lt mn pt tk mr rm cd (j + 1) cn B SA LD := by
  obtain ⟨h1, h2, h3, h4⟩ := h
  obtain ⟨s1, s2, s3, s4⟩ := hs
  rw [hst, h2] at hw s1 s2
  refine ⟨hw.1, hw.2, fun l q1 q2 => ?_, fun _ => s1⟩
  rw [s2]
  show (if l ∈ _ then jj else sa l) = (if l ∈ _ then ((j + 1 : Nat) : Int) else _)
  rw [h3 l q1 q2, hj]
