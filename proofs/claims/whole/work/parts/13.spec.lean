/-! ===== words of the specification: sums, points that letters have, orders ===== -/
def sumTo (F : Int → Int) : Nat → Int
  | 0 => 0
  | n + 1 => sumTo F n + F (n : Int)
def hasB (pt : Int → Int) (q : Int) : Nat → Bool
  | 0 => false
  | n + 1 => hasB pt q n || decide (pt (n : Int) = q)
theorem toNat_s {i : Int} (h : 0 ≤ i) : (i + 1).toNat = i.toNat + 1 := by omega
theorem sumTo_s {F : Int → Int} {i : Int} (h : 0 ≤ i) : sumTo F (i + 1).toNat = sumTo F i.toNat + F i := by
  rw [toNat_s h]
  show sumTo F i.toNat + F ((i.toNat : Nat) : Int) = _
  rw [Int.toNat_of_nonneg h]
theorem hasB_s {pt : Int → Int} {q i : Int} (h : 0 ≤ i) : hasB pt q (i + 1).toNat = (hasB pt q i.toNat || decide (pt i = q)) := by
  rw [toNat_s h]
  show (hasB pt q i.toNat || decide (pt ((i.toNat : Nat) : Int) = q)) = _
  rw [Int.toNat_of_nonneg h]
theorem hasB_iff {pt : Int → Int} {q : Int} : ∀ {n : Nat}, hasB pt q n = true ↔ ∃ j : Int, 0 ≤ j ∧ j < n ∧ pt j = q
  | 0 => by
    constructor
    · intro h; cases h
    · intro ⟨j, h1, h2, _⟩; omega
  | n + 1 => by
    show (hasB pt q n || decide (pt (n : Int) = q)) = true ↔ _
    rw [Bool.or_eq_true, hasB_iff (n := n), decide_eq_true_eq]
    constructor
    · rintro (⟨j, h1, h2, h3⟩ | h)
      · exact ⟨j, h1, by omega, h3⟩
      · exact ⟨n, by omega, by omega, h⟩
    · rintro ⟨j, h1, h2, h3⟩
      by_cases e : j = n
      · subst e; exact Or.inr h3
      · exact Or.inl ⟨j, h1, by omega, h3⟩
theorem sumTo_b {F : Int → Int} {hi : Int} (h : ∀ j, 0 ≤ F j ∧ F j ≤ hi) : ∀ n : Nat, 0 ≤ sumTo F n ∧ sumTo F n ≤ n * hi
  | 0 => by simp [sumTo]
  | n + 1 => by
    have h1 := sumTo_b h n
    have h2 := h n
    show 0 ≤ sumTo F n + F n ∧ sumTo F n + F n ≤ ((n + 1 : Nat) : Int) * hi
    rw [Int.natCast_add, Int.add_mul]
    simp only [Int.natCast_one, Int.one_mul]
    omega
/-- 1 where a point has a letter -/
def hasI (pt : Int → Int) (lt : Int) (q : Int) : Int := if hasB pt q lt.toNat = true then 1 else 0
theorem hasI_b (pt : Int → Int) (lt : Int) : ∀ q, 0 ≤ hasI pt lt q ∧ hasI pt lt q ≤ 1 := fun q => by unfold hasI; split <;> omega
/-- a row with one place taken out: what is behind it moves by one -/
def shf (F : Int → Int) (a n : Int) : Int → Int := fun j => if a ≤ j ∧ j < n then F (j + 1) else F j
theorem shf_0 (F : Int → Int) (a : Int) : shf F a a = F := by
  funext j
  unfold shf
  rw [if_neg (by omega)]
theorem shf_s {F : Int → Int} {a i : Int} (h : a ≤ i) : ud (shf F a i) i (F (i + 1)) = shf F a (i + 1) := by
  funext j
  unfold ud shf
  by_cases e : j = i
  · subst e; rw [if_pos rfl, if_pos ⟨h, by omega⟩]
  · rw [if_neg e]
    by_cases q : a ≤ j ∧ j < i
    · rw [if_pos q, if_pos ⟨q.1, by omega⟩]
    · rw [if_neg q, if_neg (by omega)]
theorem shf_at {F : Int → Int} {a n j : Int} (h : n ≤ j) : shf F a n j = F j := by
  unfold shf
  rw [if_neg (by omega)]
theorem shf_b {F : Int → Int} {a n lo hi : Int} (h : ∀ j, lo ≤ F j ∧ F j ≤ hi) : ∀ j, lo ≤ shf F a n j ∧ shf F a n j ≤ hi := fun j => by
  unfold shf
  split
  · exact h _
  · exact h _
/-- what holds of a desk -/
def DI (lt mn : Int) (pt tk mr od pl rm cd : Int → Int) : Prop :=
  ((0 ≤ lt ∧ lt ≤ 24) ∧ (2 ≤ mn ∧ mn ≤ 4)) ∧ ((∀ j, 0 ≤ pt j ∧ pt j ≤ 9) ∧ (∀ j, 0 ≤ tk j ∧ tk j ≤ 9) ∧ (∀ j, 0 ≤ mr j ∧ mr j ≤ 1)) ∧
  ((∀ j, 0 ≤ od j ∧ od j ≤ 9) ∧ (∀ j, 0 ≤ pl j ∧ pl j ≤ 9) ∧ (∀ i, 0 ≤ i → i ≤ 9 → pl (od i) = i) ∧ (∀ q, 0 ≤ q → q ≤ 9 → od (pl q) = q)) ∧ ((∀ j, 0 ≤ rm j ∧ rm j ≤ 99) ∧ (∀ j, 0 ≤ cd j ∧ cd j ≤ 63))
/-- dense codes: after k places of the walk, how many points got one, and all codes -/
def denN (hs od : Int → Int) : Nat → Int
  | 0 => 0
  | k + 1 => if hs (od (k : Int)) = 1 then denN hs od k + 1 else denN hs od k
def denC (hs od cd : Int → Int) : Nat → Int → Int
  | 0 => cd
  | k + 1 => if hs (od (k : Int)) = 1 then ud (denC hs od cd k) (od (k : Int)) (denN hs od k) else denC hs od cd k
theorem denN_s {hs od : Int → Int} {i : Int} (h : 0 ≤ i) : denN hs od (i + 1).toNat = if hs (od i) = 1 then denN hs od i.toNat + 1 else denN hs od i.toNat := by
  rw [toNat_s h]
  show (if hs (od ((i.toNat : Nat) : Int)) = 1 then _ else _) = _
  rw [Int.toNat_of_nonneg h]
theorem denC_s {hs od cd : Int → Int} {i : Int} (h : 0 ≤ i) : denC hs od cd (i + 1).toNat = if hs (od i) = 1 then ud (denC hs od cd i.toNat) (od i) (denN hs od i.toNat) else denC hs od cd i.toNat := by
  rw [toNat_s h]
  show (if hs (od ((i.toNat : Nat) : Int)) = 1 then _ else _) = _
  rw [Int.toNat_of_nonneg h]
theorem denN_b (hs od : Int → Int) : ∀ k : Nat, 0 ≤ denN hs od k ∧ denN hs od k ≤ k
  | 0 => by simp [denN]
  | k + 1 => by
    have := denN_b hs od k
    show 0 ≤ (if hs (od (k : Int)) = 1 then denN hs od k + 1 else denN hs od k) ∧ (if hs (od (k : Int)) = 1 then denN hs od k + 1 else denN hs od k) ≤ ((k + 1 : Nat) : Int)
    split <;> omega
/-- codes of points that have letters, out of a plan; others stay -/
def tkC (hs pn cd : Int → Int) (n : Int) : Int → Int := fun q => if (0 ≤ q ∧ q < n) ∧ hs q = 1 then pn q else cd q
theorem tkC_0 (hs pn cd : Int → Int) : tkC hs pn cd 0 = cd := by
  funext q
  unfold tkC
  rw [if_neg (by omega)]
theorem tkC_y {hs pn cd : Int → Int} {i : Int} (h0 : 0 ≤ i) (h : hs i = 1) : ud (tkC hs pn cd i) i (pn i) = tkC hs pn cd (i + 1) := by
  funext q
  unfold ud tkC
  by_cases e : q = i
  · subst e; rw [if_pos rfl, if_pos ⟨⟨h0, by omega⟩, h⟩]
  · rw [if_neg e]
    by_cases z : (0 ≤ q ∧ q < i) ∧ hs q = 1
    · rw [if_pos z, if_pos ⟨⟨z.1.1, by omega⟩, z.2⟩]
    · rw [if_neg z, if_neg (fun w => z ⟨⟨w.1.1, by omega⟩, w.2⟩)]
theorem tkC_n {hs pn cd : Int → Int} {i : Int} (h : hs i ≠ 1) : tkC hs pn cd (i + 1) = tkC hs pn cd i := by
  funext q
  unfold tkC
  by_cases z : (0 ≤ q ∧ q < i) ∧ hs q = 1
  · rw [if_pos z, if_pos ⟨⟨z.1.1, by omega⟩, z.2⟩]
  · rw [if_neg z, if_neg (fun w => by
      by_cases e : q = i
      · subst e; exact h w.2
      · exact z ⟨⟨w.1.1, by omega⟩, w.2⟩)]
theorem tkC_b {hs pn cd : Int → Int} {n lo hi : Int} (h1 : ∀ j, lo ≤ pn j ∧ pn j ≤ hi) (h2 : ∀ j, lo ≤ cd j ∧ cd j ≤ hi) : ∀ j, lo ≤ tkC hs pn cd n j ∧ tkC hs pn cd n j ≤ hi := fun j => by
  unfold tkC
  split
  · exact h1 _
  · exact h2 _
/-- whether codes rise, from place i on, n places, the last code being a -/
def rise (hs od cd : Int → Int) : Nat → Int → Int → Int
  | 0, _, _ => 1
  | n + 1, i, a => if hs (od i) = 1 then (if cd (od i) ≤ a then 0 else rise hs od cd n (i + 1) (cd (od i))) else rise hs od cd n (i + 1) a
theorem rise_s {hs od cd : Int → Int} {i a : Int} (h : i < 10) : rise hs od cd (10 - i).toNat i a = if hs (od i) = 1 then (if cd (od i) ≤ a then 0 else rise hs od cd (10 - (i + 1)).toNat (i + 1) (cd (od i))) else rise hs od cd (10 - (i + 1)).toNat (i + 1) a := by
  rw [show (10 - i).toNat = (10 - (i + 1)).toNat + 1 by omega]
  rfl
theorem rise_b (hs od cd : Int → Int) : ∀ n i a, rise hs od cd n i a = 0 ∨ rise hs od cd n i a = 1
  | 0, _, _ => Or.inr rfl
  | n + 1, i, a => by
    unfold rise
    split
    · split
      · exact Or.inl rfl
      · exact rise_b hs od cd n _ _
    · exact rise_b hs od cd n _ _
/-- powers -/
def pw (b : Int) : Nat → Int
  | 0 => 1
  | n + 1 => pw b n * b
theorem pw_s {b i : Int} (h : 0 ≤ i) : pw b (i + 1).toNat = pw b i.toNat * b := by rw [toNat_s h]; rfl
/-- content of a row of ints, written otherwise -/
theorem reF {D : va_G} {cl : List vw_C} {ws : va_W} {H : Heap} {q n a : Nat} {cA : ClassId} {F : Int → Int} (G : Int → Int) (hP : va_P D cl ws H) (hq : ws[q]? = some (ai cA a n F)) (h : ∀ j : Int, 0 ≤ j → j < n → F j = G j) : va_P D cl (ws.set q (ai cA a n G)) H := by
  have hl : q < ws.length := (List.getElem?_eq_some_iff.mp hq).1
  intro k x hx
  by_cases e : k = q
  · subst e
    rw [List.getElem?_set_self hl] at hx
    cases hx
    have h0 := hP k _ hq
    show H[a]? = some (vp_cell cA (n, .inl (cI G)))
    have h1 : H[a]? = some (vp_cell cA (n, .inl (cI F))) := h0
    rw [h1, vp_cell_i, vp_cell_i]
    refine congrArg some (congrArg (fun f : Fin n → Value => ({ cls := cA, slots := Array.ofFn f, vm := .none } : Cell)) (funext fun j => ?_))
    show Value.int (iI (F (j.val : Int))) = Value.int (iI (G (j.val : Int)))
    rw [h _ (by omega) (by have := j.isLt; omega)]
  · rw [List.getElem?_set_ne (by omega)] at hx
    exact hP k x hx
theorem reD {A : Nat → Prop} {ws : va_W} {q n a : Nat} {cA : ClassId} {F : Int → Int} (G : Int → Int) (hD : va_D A ws) (hq : ws[q]? = some (ai cA a n F)) : va_D A (ws.set q (ai cA a n G)) := hD.set hq
