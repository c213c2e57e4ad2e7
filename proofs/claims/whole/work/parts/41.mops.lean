theorem place_ne {od pl : Int → Int} {i q : Int} (hpo : ∀ i, 0 ≤ i → i ≤ 9 → pl (od i) = i) (hop : ∀ q, 0 ≤ q → q ≤ 9 → od (pl q) = q) (h0 : 0 ≤ i) (h1 : i ≤ 9) (q0 : 0 ≤ q) (q1 : q ≤ 9) : od i = q ↔ pl q = i := by
  constructor
  · intro h; rw [← h]; exact hpo i h0 h1
  · intro h; rw [← h]; exact hop q q0 q1
theorem swap_od {od : Int → Int} {pa pb a b : Int} (h : pa = pb → a = b) : ud (ud od pa b) pb a = ud (ud od pb a) pa b := by
  funext j
  unfold ud
  by_cases e1 : j = pa <;> by_cases e2 : j = pb
  · have := h (by omega)
    rw [if_pos e2, if_pos e1, this]
  · rw [if_neg e2, if_pos e1, if_pos e1]
  · rw [if_pos e2, if_neg e1, if_pos e2]
  · rw [if_neg e2, if_neg e1, if_neg e1, if_neg e2]
theorem fig_s {c mn : Int} {n : Nat} (hmn : 2 ≤ mn) : c / pw mn n / mn = c / pw mn (n + 1) := by
  show _ = c / (pw mn n * mn)
  rw [Int.ediv_ediv_of_nonneg]
  have : ∀ n, 0 ≤ pw mn n := by
    intro n
    induction n with
    | zero => show (0 : Int) ≤ 1; omega
    | succ n ih => show 0 ≤ pw mn n * mn; exact Int.mul_nonneg ih (by omega)
  exact this n
/-- a row with some of another one in it -/
def putR (F G : Int → Int) (a n : Int) : Int → Int := fun j => if a ≤ j ∧ j < a + n then F (j - a) else G j
theorem putR_0 (F G : Int → Int) (a : Int) : putR F G a 0 = G := by
  funext j
  unfold putR
  rw [if_neg (by omega)]
theorem putR_s {F G : Int → Int} {a n : Int} (h : 0 ≤ n) : ud (putR F G a n) (a + n) (F n) = putR F G a (n + 1) := by
  funext j
  unfold ud putR
  by_cases e : j = a + n
  · rw [if_pos e, if_pos (by omega), show j - a = n by omega]
  · rw [if_neg e]
    by_cases q : a ≤ j ∧ j < a + n
    · rw [if_pos q, if_pos (by omega)]
    · rw [if_neg q, if_neg (by omega)]
