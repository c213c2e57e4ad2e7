/-! ===== what lies in the stackers if nothing is spilled ===== -/
def wS (pt tk mr : Int → Int) (lt q : Int) : Int := sumTo (fun l => if mr l = 0 ∧ pt l = q then tk l else 0) lt.toNat
theorem wS_b {pt tk mr : Int → Int} {lt : Int} (h : 0 ≤ lt ∧ lt ≤ 24) (htk : ∀ j, 0 ≤ tk j ∧ tk j ≤ 9) (q : Int) : 0 ≤ wS pt tk mr lt q ∧ wS pt tk mr lt q ≤ 216 := by
  have := sumTo_b (F := fun l => if mr l = 0 ∧ pt l = q then tk l else 0) (hi := 9) (fun j => by
    have := htk j
    show 0 ≤ (if mr j = 0 ∧ pt j = q then tk j else 0) ∧ (if mr j = 0 ∧ pt j = q then tk j else 0) ≤ 9
    split <;> omega) lt.toNat
  unfold wS
  omega
theorem wS_y {pt tk mr : Int → Int} {i : Int} (h : 0 ≤ i) (hm : mr i = 0) : ud (wS pt tk mr i) (pt i) (wS pt tk mr i (pt i) + tk i) = wS pt tk mr (i + 1) := by
  funext q
  unfold wS
  rw [sumTo_s h]
  by_cases e : q = pt i
  · subst e; rw [ud_at, if_pos ⟨hm, rfl⟩]
  · rw [ud_ne e, if_neg (fun z => e z.2.symm)]
    omega
theorem wS_n {pt tk mr : Int → Int} {i : Int} (h : 0 ≤ i) (hm : mr i ≠ 0) : wS pt tk mr (i + 1) = wS pt tk mr i := by
  funext q
  unfold wS
  rw [sumTo_s h, if_neg (fun z => hm z.1)]
  omega
/-- three rows as one -/
def tsel (g0 g1 g2 : Int → Int) (j : Int) : Int → Int := if j = 0 then g0 else if j = 1 then g1 else g2
/-- the load of a stacker at pass j (from 0 on) by the first t points -/
def ldS (w c : Int → Int) (mn : Int) (j t : Nat) (s : Int) : Int := sumTo (fun i => if c i / pw mn j % mn = s then w i else 0) t
theorem ldS_s {w c : Int → Int} {mn i : Int} {j : Nat} (h : 0 ≤ i) : ud (ldS w c mn j i.toNat) (c i / pw mn j % mn) (ldS w c mn j i.toNat (c i / pw mn j % mn) + w i) = ldS w c mn j (i + 1).toNat := by
  funext s
  unfold ldS
  rw [sumTo_s h]
  by_cases e : s = c i / pw mn j % mn
  · subst e; rw [ud_at, if_pos rfl]
  · rw [ud_ne e, if_neg (Ne.symm e)]
    omega
theorem ldS_at {w c : Int → Int} {mn i : Int} {j : Nat} (h : 0 ≤ i) : ldS w c mn j (i + 1).toNat (c i / pw mn j % mn) = ldS w c mn j i.toNat (c i / pw mn j % mn) + w i := by
  rw [← ldS_s h, ud_at]
theorem ldS_b {w c : Int → Int} {mn : Int} {j : Nat} (hw : ∀ i, 0 ≤ w i ∧ w i ≤ 216) (t : Nat) (s : Int) : 0 ≤ ldS w c mn j t s ∧ ldS w c mn j t s ≤ t * 216 := sumTo_b (fun i => by
  have := hw i
  show 0 ≤ (if c i / pw mn j % mn = s then w i else 0) ∧ (if c i / pw mn j % mn = s then w i else 0) ≤ 216
  split <;> omega) t
/-- point i goes in, the ones ahead of it being in -/
def okA (w c ro : Int → Int) (mn : Int) (k : Nat) (i : Int) : Prop := ∀ j : Nat, j < k → ldS w c mn j (i + 1).toNat (c i / pw mn j % mn) ≤ ro (c i / pw mn j % mn)
theorem okA_congr {w c w' c' ro : Int → Int} {mn : Int} {k : Nat} {i : Int} (h0 : 0 ≤ i) (h : ∀ t, 0 ≤ t → t ≤ i → w t = w' t ∧ c t = c' t) (ho : okA w c ro mn k i) : okA w' c' ro mn k i := by
  intro j hj
  have h1 := ho j hj
  have e : ∀ s, ldS w c mn j (i + 1).toNat s = ldS w' c' mn j (i + 1).toNat s := fun s => by
    unfold ldS
    refine sumTo_congr (fun t q1 q2 => ?_)
    rw [(h t q1 (by omega)).1, (h t q1 (by omega)).2]
  rw [← (h i h0 (Int.le_refl i)).2, ← e]
  exact h1
def FitL (w ro : Int → Int) (mn : Int) (k : Nat) (L : List Int) : Prop := ∀ i : Int, 0 ≤ i → i < L.length → okA w (lg L) ro mn k i
theorem lg_take {Y L : List Int} {f : Nat} {i : Int} (h : Y.take f = L.take f) (h0 : 0 ≤ i) (h1 : i < f) : lg Y i = lg L i := by
  unfold lg
  have h2 := congrArg (fun z : List Int => z[i.toNat]?) h
  simp only [List.getElem?_take_of_lt (show i.toNat < f by omega)] at h2
  rw [List.getD_eq_getElem?_getD, List.getD_eq_getElem?_getD, h2]
theorem Fit_no {w ro : Int → Int} {mn : Int} {k : Nat} {L Y : List Int} {f : Int} (h0 : 0 ≤ f) (h1 : f < L.length) (hl : Y.length = L.length) (hno : ¬ okA w (lg L) ro mn k f) (h : Y.take (f + 1).toNat = L.take (f + 1).toNat) : ¬ FitL w ro mn k Y := fun q => hno (okA_congr h0 (fun t q1 q2 => ⟨rfl, lg_take h q1 (by omega)⟩) (q f h0 (by omega)))
theorem Fit_mono {w ro ro' : Int → Int} {mn : Int} {k : Nat} {L : List Int} (h : ∀ s, ro s ≤ ro' s) (hf : FitL w ro mn k L) : FitL w ro' mn k L := fun i h0 h1 j hj => Int.le_trans (hf i h0 h1 j hj) (h _)
theorem cds_lg {fp fc : Int → Int} {sz i : Int} (h0 : 0 ≤ i) (h1 : i < sz) : lg (cds fp fc sz) i = fc (fp i) := (lst_lg (F := fun i => fc (fp i)) (n := sz.toNat) rfl h0 (by omega)).symm
theorem remP_mem_len (b : Int) : ∀ (L Y : List Int), Y ∈ remP b L → Y.length = L.length
  | [], Y, h => by rw [List.mem_singleton.mp h]
  | a :: tl, Y, h => by
    rcases List.mem_append.mp h with h | h
    · obtain ⟨t, ht, rfl⟩ := List.mem_map.mp h
      show t.length + 1 = tl.length + 1
      rw [remP_mem_len b tl t ht]
    · have key : ∀ (w r : Nat) (Y : List Int), Y ∈ allP b w r → Y.length = r := by
        intro w
        induction w with
        | zero =>
          intro r Y hY
          cases r with
          | zero => rw [List.mem_singleton.mp hY]; rfl
          | succ r => cases hY
        | succ w ih =>
          intro r Y hY
          cases r with
          | zero => rw [List.mem_singleton.mp hY]; rfl
          | succ r =>
            rcases List.mem_append.mp hY with hY | hY
            · obtain ⟨t, ht, rfl⟩ := List.mem_map.mp hY
              show t.length + 1 = r + 1
              rw [ih r t ht]
            · exact ih (r + 1) Y hY
      exact key _ _ Y h
/-- the step of a search that passes over what can't fit -/
theorem SrI_f {b : Int} {ALL PR : List (List Int)} {L L2 : List Int} {r : Int} {f : Nat} (h : SrI b ALL PR 1 L) (hn : (r = 1 ∧ nxt b f L = some L2) ∨ (r = 0 ∧ nxt b f L = none)) : ∃ X : List (List Int), X ≠ [] ∧ (∀ Y ∈ X, Y.take f = L.take f ∧ Y.length = L.length) ∧ SrI b ALL (PR ++ X) r L2 := by
  rcases h with ⟨-, h1, h2⟩ | ⟨h1, -⟩
  · obtain ⟨X, hX0, hX1, -, hr⟩ := remP_nxt b L f (fun c hc => (ris_lt b L 0 h2 c hc).2)
    refine ⟨X, hX0, fun Y hY => ⟨hX1 Y hY, remP_mem_len b L Y (by rw [hr]; exact List.mem_append_left _ hY)⟩, ?_⟩
    rcases hn with ⟨g1, g2⟩ | ⟨g1, g2⟩
    · rw [g2] at hr
      exact Or.inl ⟨g1, by rw [← h1, hr]; simp, ris_nxt b L f 0 L2 h2 g2⟩
    · rw [g2] at hr
      exact Or.inr ⟨g1, by rw [← h1, hr]; simp⟩
  · omega
theorem SrI_mem {b : Int} {ALL PR : List (List Int)} {L : List Int} (h : SrI b ALL PR 1 L) : L ∈ ALL := by
  rcases h with ⟨-, h1, -⟩ | ⟨h1, -⟩
  · obtain ⟨Y, hY⟩ := remP_head b L
    rw [← h1, hY]
    simp
  · omega
theorem len_pos {X : List (List Int)} (h : X ≠ []) : 1 ≤ X.length := by
  cases X with
  | nil => exact absurd rfl h
  | cons a t => simp
theorem ts_new {B l ro : Int → Int} {r fg w : Int} (hB : B = l) (hr : r = fg) (hle : B r + w ≤ ro r) : ud B r (B r + w) = ud l fg (l fg + w) ∧ l fg + w ≤ ro fg := by
  subst hB hr
  exact ⟨rfl, hle⟩
theorem ts_no {B l ro : Int → Int} {r fg w : Int} (hB : B = l) (hr : r = fg) (hle : ro r < B r + w) : ro fg < l fg + w := by
  subst hB hr
  exact hle
