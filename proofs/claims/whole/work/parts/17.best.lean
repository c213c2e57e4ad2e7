/-! ===== codes of a plan, its cost, the best ===== -/
def asg : List Int → List Int → Int → Int
  | q :: qs, c :: cs, x => if x = q then c else asg qs cs x
  | [], _, _ => 0
  | _ :: _, [], _ => 0
theorem asg_map (fc : Int → Int) : ∀ (L : List Int) (q : Int), q ∈ L → asg L (L.map fc) q = fc q
  | p :: ps, q, h => by
    show (if q = p then fc p else asg ps (ps.map fc) q) = fc q
    by_cases e : q = p
    · rw [if_pos e, e]
    · rw [if_neg e]
      exact asg_map fc ps q ((List.mem_cons.mp h).resolve_left e)
theorem cds_map (fp fc : Int → Int) (sz : Int) : cds fp fc sz = (lst fp sz.toNat).map fc := by
  unfold cds lst
  rw [List.map_map]
  rfl
theorem pas_congr {st st' tk rm : Int → Int} {row : List Int} (h : ∀ l ∈ row, st l = st' l) : pas st tk rm row = pas st' tk rm row := by
  unfold pas
  generalize ((fun _ => 0, [], []) : (Int → Int) × List Int × List Int) = x
  induction row generalizing x with
  | nil => rfl
  | cons a row ih =>
    rw [List.foldl_cons, List.foldl_cons]
    have e : stp st tk rm x a = stp st' tk rm x a := by
      unfold stp
      rw [h a List.mem_cons_self]
    rw [e]
    exact ih (fun l hl => h l (List.mem_cons_of_mem _ hl)) _
theorem pil_congr {st st' : Int → Int} {L : List Int} (h : ∀ l ∈ L, st l = st' l) (s : Int) : pil st L s = pil st' L s := by
  unfold pil
  apply List.filter_congr
  intro l hl
  rw [h l hl]
theorem catL_congr {A B : Int → List Int} (h : ∀ s, A s = B s) (n : Nat) : catL A n = catL B n := by
  have : A = B := funext h
  rw [this]
theorem rnS_congr {lt mn : Int} {pt tk mr rm cd cd' : Int → Int} (h : ∀ l, 0 ≤ l → l < lt → cd (pt l) = cd' (pt l)) : ∀ j, rnS lt mn pt tk mr rm cd j = rnS lt mn pt tk mr rm cd' j
  | 0 => rfl
  | j + 1 => by
    have ih := rnS_congr (tk := tk) (mn := mn) (mr := mr) (rm := rm) h j
    have hs : ∀ l ∈ (rnS lt mn pt tk mr rm cd j).1, stk pt cd mn j l = stk pt cd' mn j l := fun l hl => by
      have h1 := rn_in lt mn pt tk mr rm cd j l hl
      unfold stk
      rw [h l h1.1 h1.2]
    have hp := pas_congr (tk := tk) (rm := rm) hs
    have hq : ∀ l ∈ (pas (stk pt cd mn j) tk rm (rnS lt mn pt tk mr rm cd j).1).2.1, stk pt cd mn j l = stk pt cd' mn j l := fun l hl => hs l ((pas_inv _ tk rm _).2.1 l hl)
    have hw : swp (stk pt cd mn j) mn (pas (stk pt cd mn j) tk rm (rnS lt mn pt tk mr rm cd j).1).2.1 = swp (stk pt cd' mn j) mn (pas (stk pt cd mn j) tk rm (rnS lt mn pt tk mr rm cd j).1).2.1 := catL_congr (pil_congr hq) _
    unfold rnS
    rw [hw, hp, ih]
/-- points that letters have -/
theorem usd_mem {hs od pl : Int → Int} (hod : ∀ j, 0 ≤ od j ∧ od j ≤ 9) (hpl : ∀ j, 0 ≤ pl j ∧ pl j ≤ 9) (hop : ∀ q, 0 ≤ q → q ≤ 9 → od (pl q) = q) (q : Int) : q ∈ usd hs od 10 ↔ (0 ≤ q ∧ q ≤ 9) ∧ hs q = 1 := by
  unfold usd
  rw [List.mem_filter, decide_eq_true_eq]
  constructor
  · rintro ⟨h1, h2⟩
    refine ⟨?_, h2⟩
    unfold lst at h1
    obtain ⟨i, -, rfl⟩ := List.mem_map.mp h1
    exact hod _
  · rintro ⟨h1, h2⟩
    refine ⟨?_, h2⟩
    have h3 := hpl q
    have := lst_mem (F := od) (n := 10) rfl (i := pl q) h3.1 (by omega)
    rw [hop q h1.1 h1.2] at this
    exact this
theorem has_pt {pt : Int → Int} {lt l : Int} (h0 : 0 ≤ l) (h1 : l < lt) : hasI pt lt (pt l) = 1 := by
  unfold hasI
  rw [if_pos (hasB_iff.mpr ⟨l, h0, by omega, rfl⟩)]
/-- the cost of a plan -/
def cst (lt mn : Int) (pt tk mr rm : Int → Int) (UL : List Int) (k : Int) (L : List Int) : Int := lt - ((rnS lt mn pt tk mr rm (asg UL L) k.toNat).1.length : Int)
theorem cst_b {lt mn : Int} {pt tk mr rm : Int → Int} {UL : List Int} {k : Int} {L : List Int} (h : 0 ≤ lt ∧ lt ≤ 24) : 0 ≤ cst lt mn pt tk mr rm UL k L ∧ cst lt mn pt tk mr rm UL k L ≤ 24 := by
  have := rn_len lt mn pt tk mr rm (asg UL L) h.1 k.toNat
  unfold cst
  omega
/-- a plan more: the least cost, how many have it, the first of them -/
def bst (cs : List Int → Int) (x : Int × Int × List Int) (L : List Int) : Int × Int × List Int := if cs L < x.1 then (cs L, 1, L) else if cs L = x.1 then (x.1, x.2.1 + 1, x.2.2) else x
def plsA (mn k : Int) (n : Nat) : List (List Int) := allP (pw mn k.toNat) (pw mn k.toNat).toNat n
def bsF (lt mn : Int) (pt tk mr rm : Int → Int) (UL : List Int) (k : Int) (PL : List (List Int)) : Int × Int × List Int := PL.foldl (bst (cst lt mn pt tk mr rm UL k)) (25, 0, [])
theorem bsF_s (lt mn : Int) (pt tk mr rm : Int → Int) (UL : List Int) (k : Int) (PL : List (List Int)) (L : List Int) : bsF lt mn pt tk mr rm UL k (PL ++ [L]) = bst (cst lt mn pt tk mr rm UL k) (bsF lt mn pt tk mr rm UL k PL) L := by
  unfold bsF
  rw [List.foldl_append]
  rfl
/-- what the search for the best finds -/
def BestR (lt mn : Int) (pt tk mr od rm : Int → Int) (k pn le ti : Int) (bc : Int → Int) : Prop :=
  pn = ((plsA mn k (usd (hasI pt lt) od 10).length).length : Int) ∧ le = (bsF lt mn pt tk mr rm (usd (hasI pt lt) od 10) k (plsA mn k (usd (hasI pt lt) od 10).length)).1 ∧ ti = (bsF lt mn pt tk mr rm (usd (hasI pt lt) od 10) k (plsA mn k (usd (hasI pt lt) od 10).length)).2.1 ∧
  (pn ≠ 0 → ∀ q ∈ usd (hasI pt lt) od 10, bc q = asg (usd (hasI pt lt) od 10) (bsF lt mn pt tk mr rm (usd (hasI pt lt) od 10) k (plsA mn k (usd (hasI pt lt) od 10).length)).2.2 q)
theorem cst_fc {lt mn : Int} {pt tk mr rm od pl fp fc : Int → Int} {UL : List Int} {k sz : Int} (hpt : ∀ j, 0 ≤ pt j ∧ pt j ≤ 9) (hod : ∀ j, 0 ≤ od j ∧ od j ≤ 9) (hpl : ∀ j, 0 ≤ pl j ∧ pl j ≤ 9) (hop : ∀ q, 0 ≤ q → q ≤ 9 → od (pl q) = q) (hU : lst fp sz.toNat = UL) (hU2 : UL = usd (hasI pt lt) od 10) : cst lt mn pt tk mr rm UL k (cds fp fc sz) = lt - ((rnS lt mn pt tk mr rm fc k.toNat).1.length : Int) := by
  unfold cst
  have h : ∀ l, 0 ≤ l → l < lt → asg UL (cds fp fc sz) (pt l) = fc (pt l) := fun l h0 h1 => by
    rw [cds_map, hU]
    refine asg_map fc UL _ ?_
    rw [hU2, usd_mem hod hpl hop]
    exact ⟨hpt l, has_pt h0 h1⟩
  rw [rnS_congr h]
theorem bst_step {cs : List Int → Int} {x : Int × Int × List Int} {L : List Int} {le ti co : Int} {UL : List Int} {bc fc : Int → Int} {u : Int × Int × (Int → Int)} (h1 : le = x.1) (h2 : ti = x.2.1) (hc : (cs L ≤ le → co = cs L) ∧ (le < cs L → le < co)) (hu : (co < le ∧ u = (co, 1, fc)) ∨ (co = le ∧ u = (le, ti + 1, bc)) ∨ (le < co ∧ u = (le, ti, bc))) : u.1 = (bst cs x L).1 ∧ u.2.1 = (bst cs x L).2.1 ∧ ((cs L < le ∧ u.2.2 = fc ∧ (bst cs x L).2.2 = L) ∨ (le ≤ cs L ∧ u.2.2 = bc ∧ (bst cs x L).2.2 = x.2.2)) := by
  subst h1 h2
  rcases Int.lt_trichotomy (cs L) x.1 with q | q | q
  · have e := hc.1 (by omega)
    rcases hu with ⟨g1, g2⟩ | ⟨g1, g2⟩ | ⟨g1, g2⟩
    · unfold bst
      rw [if_pos q, g2, e]
      exact ⟨rfl, rfl, Or.inl ⟨q, rfl, rfl⟩⟩
    · omega
    · omega
  · have e := hc.1 (by omega)
    rcases hu with ⟨g1, g2⟩ | ⟨g1, g2⟩ | ⟨g1, g2⟩
    · omega
    · unfold bst
      rw [if_neg (by omega), if_pos q, g2]
      exact ⟨rfl, rfl, Or.inr ⟨by omega, rfl, rfl⟩⟩
    · omega
  · have e := hc.2 q
    rcases hu with ⟨g1, g2⟩ | ⟨g1, g2⟩ | ⟨g1, g2⟩
    · omega
    · omega
    · unfold bst
      rw [if_neg (by omega), if_neg (by omega), g2]
      exact ⟨rfl, rfl, Or.inr ⟨by omega, rfl, rfl⟩⟩
/-- where a search stands: PR behind it -/
def SrI (b : Int) (ALL PR : List (List Int)) (mo : Int) (L : List Int) : Prop := (mo = 1 ∧ PR ++ remP b L = ALL ∧ ris b 0 L) ∨ (mo = 0 ∧ PR = ALL)
theorem SrI_s {b : Int} {ALL PR : List (List Int)} {L L2 : List Int} {r : Int} {f : Nat} (h : SrI b ALL PR 1 L) (hf : L.length ≤ f) (hn : (r = 1 ∧ nxt b f L = some L2) ∨ (r = 0 ∧ nxt b f L = none)) : SrI b ALL (PR ++ [L]) r L2 := by
  rcases h with ⟨-, h1, h2⟩ | ⟨h1, -⟩
  · obtain ⟨X, -, -, hX, hr⟩ := remP_nxt b L f (fun c hc => (ris_lt b L 0 h2 c hc).2)
    rw [hX hf] at hr
    rcases hn with ⟨g1, g2⟩ | ⟨g1, g2⟩
    · rw [g2] at hr
      exact Or.inl ⟨g1, by rw [← h1, hr]; simp, ris_nxt b L f 0 L2 h2 g2⟩
    · rw [g2] at hr
      exact Or.inr ⟨g1, by rw [← h1, hr]; simp⟩
  · omega
theorem SrI_0 {mn k n r : Int} {L : List Int} (hL : L = seqF 0 n.toNat) (h0 : 0 ≤ n) (hb : 1 ≤ pw mn k.toNat) (hr : (r = 1 ∧ n ≤ pw mn k.toNat) ∨ (r = 0 ∧ pw mn k.toNat < n)) : SrI (pw mn k.toNat) (plsA mn k n.toNat) [] r L := by
  subst hL
  rcases hr with ⟨h1, h2⟩ | ⟨h1, h2⟩
  · exact Or.inl ⟨h1, remP_seq _ n.toNat (pw mn k.toNat).toNat 0 (by omega) (by omega), ris_seq _ _ _ (by omega)⟩
  · exact Or.inr ⟨h1, (allP_nil _ _ _ (by omega)).symm⟩
theorem SrI_end {b : Int} {ALL PR : List (List Int)} {mo pn : Int} {L : List Int} (h : SrI b ALL PR mo L) (hp : pn = (PR.length : Int)) (hA : ALL.length ≤ 12870) (hq : mo = 0 ∨ 12870 ≤ pn) : PR = ALL := by
  rcases h with ⟨h0, h1, -⟩ | ⟨-, h1⟩
  · obtain ⟨Y, hY⟩ := remP_head b L
    rw [hY] at h1
    have := congrArg List.length h1
    rw [List.length_append, List.length_cons] at this
    omega
  · exact h1
theorem plsA_len {mn k : Int} (h : pw mn k.toNat ≤ 16) {n : Nat} (hn : n ≤ 10) : (plsA mn k n).length ≤ 12870 := by
  unfold plsA
  rw [allP_len]
  exact bin_le _ (by omega) _ hn
theorem best_bc {cs : List Int → Int} {x : Int × Int × List Int} {le : Int} {UL : List Int} {PR : List (List Int)} {bc fc BC fp : Int → Int} {sz : Int} {bp : List Int} (hU : lst fp sz.toNat = UL) (h1 : le = x.1) (hb : cs (cds fp fc sz) ≤ 24) (h3 : (cs (cds fp fc sz) < le ∧ BC = fc ∧ bp = cds fp fc sz) ∨ (le ≤ cs (cds fp fc sz) ∧ BC = bc ∧ bp = x.2.2)) (hB : PR ≠ [] → ∀ q ∈ UL, bc q = asg UL x.2.2 q) : PR ≠ [] ∨ le = 25 → ∀ q ∈ UL, BC q = asg UL bp q := by
  intro hp q hq
  rcases h3 with ⟨-, g1, g2⟩ | ⟨g0, g1, g2⟩
  · rw [g1, g2, cds_map, hU, asg_map fc UL q hq]
  · rcases hp with hp | hp
    · rw [g1, g2]
      exact hB hp q hq
    · omega
theorem bsF_25 {lt mn : Int} {pt tk mr rm : Int → Int} {UL : List Int} {k le : Int} {PR : List (List Int)} (h : le = (bsF lt mn pt tk mr rm UL k PR).1) : PR ≠ [] ∨ le = 25 := by
  cases PR with
  | nil => exact Or.inr h
  | cons a t => exact Or.inl (by simp)
theorem bst_le (cs : List Int → Int) (x : Int × Int × List Int) (L : List Int) : (bst cs x L).1 = cs L ∨ (bst cs x L).1 = x.1 := by
  unfold bst
  split
  · exact Or.inl rfl
  · split
    · exact Or.inr rfl
    · exact Or.inr rfl
