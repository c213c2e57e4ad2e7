/-! ===== the best plan, found by either way ===== -/
theorem ahd_trans {a b c : Int} (h1 : ahd a b) (h2 : ahd b c) : ahd a c := by
  obtain ⟨d, d0, d1, d2, d3⟩ := h1
  obtain ⟨f, f0, f1, f2, f3⟩ := h2
  rcases Nat.lt_trichotomy d f with q | q | q
  · exact ⟨d, d0, d1, by rw [← f3 d q]; exact d2, fun x hx => (d3 x hx).trans (f3 x (by omega))⟩
  · subst q; rw [f1] at d2; cases d2
  · exact ⟨f, f0, by rw [d3 f q]; exact f1, f2, fun x hx => (d3 x (by omega)).trans (f3 x hx)⟩
def mbs (cs : Int → Int) (x : Int × Int × Int) (m : Int) : Int × Int × Int := if x.2.2 < 0 ∨ cs m < x.1 then (cs m, 1, m) else if cs m = x.1 then (x.1, x.2.1 + 1, if zand (zand m (zxor m x.2.2)) (-zxor m x.2.2) ≠ 0 then m else x.2.2) else x
def mbF (cs : Int → Int) (ML : List Int) : Int × Int × Int := ML.foldl (mbs cs) (-6, 0, -6)
theorem mbF_s (cs : Int → Int) (ML : List Int) (m : Int) : mbF cs (ML ++ [m]) = mbs cs (mbF cs ML) m := by
  unfold mbF
  rw [List.foldl_append]
  rfl
def mbI (cs : Int → Int) (ML : List Int) (x : Int × Int × Int) : Prop := x.2.2 ∈ ML ∧ cs x.2.2 = x.1 ∧ (∀ m ∈ ML, x.1 ≤ cs m) ∧ x.2.1 = ((ML.countP (fun m => decide (cs m = x.1))) : Int) ∧ (∀ m ∈ ML, cs m = x.1 → m = x.2.2 ∨ ahd x.2.2 m)
theorem count_snoc {α : Type} (p : α → Bool) (L : List α) (a : α) : (((L ++ [a]).countP p : Nat) : Int) = (L.countP p : Int) + if p a = true then 1 else 0 := by
  rw [List.countP_append, List.countP_singleton]
  split <;> simp
theorem count_zero {α : Type} {p : α → Bool} {L : List α} (h : ∀ a ∈ L, p a = false) : L.countP p = 0 := by
  rw [List.countP_eq_zero]
  intro a ha
  rw [h a ha]
  decide
theorem mbF_ok (cs : Int → Int) : ∀ (ML : List Int), (∀ m ∈ ML, 0 ≤ m ∧ m < 65536) → (ML = [] → mbF cs ML = (-6, 0, -6)) ∧ (ML ≠ [] → mbI cs ML (mbF cs ML)) := by
  have key : ∀ (M2 M1 : List Int) (x : Int × Int × Int), (∀ m ∈ M1 ++ M2, 0 ≤ m ∧ m < 65536) → ((M1 = [] ∧ x = (-6, 0, -6)) ∨ mbI cs M1 x) → ((M1 ++ M2 = [] ∧ M2.foldl (mbs cs) x = (-6, 0, -6)) ∨ mbI cs (M1 ++ M2) (M2.foldl (mbs cs) x)) := by
    intro M2
    induction M2 with
    | nil => intro M1 x _ h; rw [List.append_nil]; exact h
    | cons m M2 ih =>
      intro M1 x hb h
      have hm := hb m (by simp)
      rw [List.foldl_cons, show M1 ++ m :: M2 = (M1 ++ [m]) ++ M2 by simp]
      refine ih (M1 ++ [m]) _ (fun y hy => hb y (by simpa using hy)) (Or.inr ?_)
      rcases h with ⟨h1, h2⟩ | ⟨h1, h2, h3, h4, h5⟩
      · subst h1 h2
        have e : mbs cs (-6, 0, -6) m = (cs m, 1, m) := if_pos (Or.inl (by decide))
        rw [e]
        exact ⟨by simp, rfl, fun y hy => by simp at hy; rw [hy]; exact Int.le_refl _, by simp, fun y hy _ => Or.inl (by simpa using hy)⟩
      · have hx := hb x.2.2 (by simp [h1])
        unfold mbs
        by_cases q : cs m < x.1
        · rw [if_pos (Or.inr q)]
          refine ⟨by simp, rfl, fun y hy => ?_, ?_, fun y hy hc => ?_⟩
          · rcases List.mem_append.mp hy with z | z
            · have := h3 y z; show cs m ≤ cs y; omega
            · rw [List.mem_singleton.mp z]; exact Int.le_refl _
          · show (1 : Int) = _
            rw [count_snoc, count_zero (fun y hy => decide_eq_false (fun z => by have := h3 y hy; have z' : cs y = cs m := z; omega)), if_pos (decide_eq_true rfl)]
            rfl
          · rcases List.mem_append.mp hy with z | z
            · have := h3 y z; have hc' : cs y = cs m := hc; omega
            · exact Or.inl (List.mem_singleton.mp z)
        · rw [if_neg (fun z => by rcases z with z | z; (omega); (exact q z))]
          by_cases e : cs m = x.1
          · rw [if_pos e]
            have hmin : ∀ y ∈ M1 ++ [m], x.1 ≤ cs y := fun y hy => by
              rcases List.mem_append.mp hy with z | z
              · exact h3 y z
              · rw [List.mem_singleton.mp z]; omega
            have hcnt : x.2.1 + 1 = ((M1 ++ [m]).countP (fun y => decide (cs y = x.1)) : Int) := by
              rw [count_snoc, if_pos (decide_eq_true e), h4]
            by_cases z : zand (zand m (zxor m x.2.2)) (-zxor m x.2.2) ≠ 0
            · rw [if_pos z]
              have za := (ahead_iff hm hx).mp z
              refine ⟨by simp, e, hmin, hcnt, fun y hy hc => ?_⟩
              rcases List.mem_append.mp hy with w | w
              · rcases h5 y w hc with g | g
                · exact Or.inr (by rw [g]; exact za)
                · exact Or.inr (ahd_trans za g)
              · exact Or.inl (List.mem_singleton.mp w)
            · rw [if_neg z]
              have za : ¬ ahd m x.2.2 := fun w => z ((ahead_iff hm hx).mpr w)
              refine ⟨by simp [h1], h2, hmin, hcnt, fun y hy hc => ?_⟩
              rcases List.mem_append.mp hy with w | w
              · exact h5 y w hc
              · have w' := List.mem_singleton.mp w
                subst w'
                by_cases g : y = x.2.2
                · exact Or.inl g
                · exact Or.inr ((ahd_tot hm hx g).resolve_left za)
          · rw [if_neg e]
            refine ⟨by simp [h1], h2, fun y hy => ?_, ?_, fun y hy hc => ?_⟩
            · rcases List.mem_append.mp hy with w | w
              · exact h3 y w
              · rw [List.mem_singleton.mp w]; omega
            · rw [count_snoc, if_neg (by simpa using e), h4]; omega
            · rcases List.mem_append.mp hy with w | w
              · exact h5 y w hc
              · rw [List.mem_singleton.mp w] at hc; exact absurd hc e
  intro ML hb
  have h := key ML [] (-6, 0, -6) hb (Or.inl ⟨rfl, rfl⟩)
  rw [List.nil_append] at h
  rcases h with ⟨h1, h2⟩ | h
  · exact ⟨fun _ => h2, fun q => absurd h1 q⟩
  · exact ⟨fun q => by rw [q]; rfl, fun _ => h⟩
def bsI (cs : List Int → Int) (PL : List (List Int)) (x : Int × Int × List Int) : Prop := x.2.2 ∈ PL ∧ cs x.2.2 = x.1 ∧ (∀ m ∈ PL, x.1 ≤ cs m) ∧ x.2.1 = ((PL.countP (fun m => decide (cs m = x.1))) : Int) ∧ (∀ m ∈ PL, cs m = x.1 → m = x.2.2 ∨ lx x.2.2 m)
theorem bst_ok (cs : List Int → Int) (hcs : ∀ L, cs L ≤ 24) : ∀ (PL : List (List Int)), PL.Pairwise lx → PL ≠ [] → bsI cs PL (PL.foldl (bst cs) (25, 0, [])) := by
  have key : ∀ (M2 M1 : List (List Int)) (x : Int × Int × List Int), (M1 ++ M2).Pairwise lx → ((M1 = [] ∧ x = (25, 0, [])) ∨ bsI cs M1 x) → ((M1 ++ M2 = [] ∧ M2.foldl (bst cs) x = (25, 0, [])) ∨ bsI cs (M1 ++ M2) (M2.foldl (bst cs) x)) := by
    intro M2
    induction M2 with
    | nil => intro M1 x _ h; rw [List.append_nil]; exact h
    | cons m M2 ih =>
      intro M1 x hb h
      rw [List.foldl_cons, show M1 ++ m :: M2 = (M1 ++ [m]) ++ M2 by simp]
      rw [show M1 ++ m :: M2 = (M1 ++ [m]) ++ M2 by simp] at hb
      refine ih (M1 ++ [m]) _ hb (Or.inr ?_)
      have hlt : ∀ y ∈ M1, lx y m := fun y hy => (List.pairwise_append.mp (List.pairwise_append.mp hb).1).2.2 y hy m (by simp)
      rcases h with ⟨h1, h2⟩ | ⟨h1, h2, h3, h4, h5⟩
      · subst h1 h2
        have e : bst cs (25, 0, []) m = (cs m, 1, m) := if_pos (by have := hcs m; show cs m < 25; omega)
        rw [e]
        exact ⟨by simp, rfl, fun y hy => by simp at hy; rw [hy]; exact Int.le_refl _, by simp, fun y hy _ => Or.inl (by simpa using hy)⟩
      · unfold bst
        by_cases q : cs m < x.1
        · rw [if_pos q]
          refine ⟨by simp, rfl, fun y hy => ?_, ?_, fun y hy hc => ?_⟩
          · rcases List.mem_append.mp hy with z | z
            · have := h3 y z; show cs m ≤ cs y; omega
            · rw [List.mem_singleton.mp z]; exact Int.le_refl _
          · show (1 : Int) = _
            rw [count_snoc, count_zero (fun y hy => decide_eq_false (fun z => by have := h3 y hy; have z' : cs y = cs m := z; omega)), if_pos (decide_eq_true rfl)]
            rfl
          · rcases List.mem_append.mp hy with z | z
            · have := h3 y z; have hc' : cs y = cs m := hc; omega
            · exact Or.inl (List.mem_singleton.mp z)
        · rw [if_neg q]
          by_cases e : cs m = x.1
          · rw [if_pos e]
            refine ⟨by simp [h1], h2, fun y hy => ?_, ?_, fun y hy hc => ?_⟩
            · rcases List.mem_append.mp hy with z | z
              · exact h3 y z
              · rw [List.mem_singleton.mp z]; show x.1 ≤ cs m; omega
            · show x.2.1 + 1 = _
              rw [count_snoc, if_pos (decide_eq_true e), h4]
            · rcases List.mem_append.mp hy with z | z
              · exact h5 y z hc
              · rw [List.mem_singleton.mp z]; exact Or.inr (hlt x.2.2 h1)
          · rw [if_neg e]
            refine ⟨by simp [h1], h2, fun y hy => ?_, ?_, fun y hy hc => ?_⟩
            · rcases List.mem_append.mp hy with w | w
              · exact h3 y w
              · rw [List.mem_singleton.mp w]; omega
            · rw [count_snoc, if_neg (by simpa using e), h4]; omega
            · rcases List.mem_append.mp hy with w | w
              · exact h5 y w hc
              · rw [List.mem_singleton.mp w] at hc; exact absurd hc e
  intro PL hp hne
  have h := key PL [] (25, 0, []) hp (Or.inl ⟨rfl, rfl⟩)
  rw [List.nil_append] at h
  rcases h with ⟨h1, -⟩ | h
  · exact absurd h1 hne
  · exact h
/-- numbers below n with r bits -/
def msk (r n : Nat) : List Int := (lst (fun i => i) n).filter (fun m => decide ((bl m).length = r))
theorem msk_s {r : Nat} {i : Int} (h : 0 ≤ i) : msk r (i + 1).toNat = if (bl i).length = r then msk r i.toNat ++ [i] else msk r i.toNat := by
  unfold msk
  rw [lst_si h, List.filter_append]
  by_cases e : (bl i).length = r
  · rw [if_pos e]; simp [e]
  · rw [if_neg e]; simp [e]
theorem msk_map (b r : Nat) : (msk r (2 ^ b)).map bl = (allM b).filter (fun L => decide (L.length = r)) := by
  unfold msk allM lst
  rw [List.filter_map, List.filter_map, List.map_map]
  rfl
theorem msk_b {b r : Nat} (hb : b ≤ 16) : ∀ m ∈ msk r (2 ^ b), 0 ≤ m ∧ m < 65536 := fun m hm => by
  have h1 := (List.mem_filter.mp hm).1
  unfold lst at h1
  obtain ⟨i, hi, rfl⟩ := List.mem_map.mp h1
  rw [List.mem_range] at hi
  have : (2 : Nat) ^ b ≤ 2 ^ 16 := Nat.pow_le_pow_right (by decide) hb
  have p : (2 : Nat) ^ 16 = 65536 := by decide
  show 0 ≤ ((i : Nat) : Int) ∧ ((i : Nat) : Int) < 65536
  omega
theorem best_same {cs : List Int → Int} (hcs : ∀ L, cs L ≤ 24) {b r : Nat} (hb : b ≤ 16) : (allP (b : Int) b r).length = (msk r (2 ^ b)).length ∧ (allP (b : Int) b r ≠ [] → ((allP (b : Int) b r).foldl (bst cs) (25, 0, [])).1 = (mbF (fun m => cs (bl m)) (msk r (2 ^ b))).1 ∧ ((allP (b : Int) b r).foldl (bst cs) (25, 0, [])).2.1 = (mbF (fun m => cs (bl m)) (msk r (2 ^ b))).2.1 ∧ (0 ≤ (mbF (fun m => cs (bl m)) (msk r (2 ^ b))).2.2 ∧ (mbF (fun m => cs (bl m)) (msk r (2 ^ b))).2.2 < 65536) ∧ bl (mbF (fun m => cs (bl m)) (msk r (2 ^ b))).2.2 = ((allP (b : Int) b r).foldl (bst cs) (25, 0, [])).2.2) := by
  have hp : List.Perm (allP (b : Int) b r) ((msk r (2 ^ b)).map bl) := by rw [msk_map]; exact plans_perm hb
  refine ⟨by rw [hp.length_eq, List.length_map], fun hne => ?_⟩
  have hB := bst_ok cs hcs _ (allP_lx (b : Int) b r (Int.le_refl _)) hne
  have hMne : msk r (2 ^ b) ≠ [] := fun e => hne (by
    have := hp.length_eq
    rw [e] at this
    exact List.length_eq_zero_iff.mp this)
  have hM := (mbF_ok (fun m => cs (bl m)) _ (msk_b hb)).2 hMne
  generalize (allP (b : Int) b r).foldl (bst cs) (25, 0, []) = F at hB ⊢
  generalize mbF (fun m => cs (bl m)) (msk r (2 ^ b)) = G at hM ⊢
  obtain ⟨b1, b2, b3, b4, b5⟩ := hB
  obtain ⟨m1, m2, m3, m4, m5⟩ := hM
  have hin : bl G.2.2 ∈ allP (b : Int) b r := hp.mem_iff.mpr (List.mem_map.mpr ⟨_, m1, rfl⟩)
  obtain ⟨M, hM1, hM2⟩ := List.mem_map.mp (hp.mem_iff.mp b1)
  have e1 : F.1 = G.1 := by
    have g1 := b3 _ hin
    have g2 : G.1 ≤ cs (bl M) := m3 M hM1
    rw [hM2, b2] at g2
    have m2' : cs (bl G.2.2) = G.1 := m2
    omega
  refine ⟨e1, ?_, msk_b hb _ m1, ?_⟩
  · rw [b4, m4, hp.countP_eq, List.countP_map, e1]
    rfl
  · have m2' : cs (bl G.2.2) = G.1 := m2
    rcases b5 _ hin (by rw [m2', e1]) with q | q
    · exact q
    · exfalso
      rcases m5 M hM1 (by show cs (bl M) = G.1; rw [hM2, b2, e1]) with z | z
      · rw [← hM2, z] at q
        exact lx_irr _ q
      · have l1 : (bl G.2.2).length = r := of_decide_eq_true (List.mem_filter.mp m1).2
        have l2 : (bl M).length = r := of_decide_eq_true (List.mem_filter.mp hM1).2
        have := ahd_bl z (by rw [l1, l2])
        rw [hM2] at this
        exact lx_asym _ _ this q
/-- what the reference finds -/
def LayR (lt mn : Int) (pt tk mr od rm : Int → Int) (k co bp ag pn : Int) : Prop :=
  pn = ((plsA mn k (usd (hasI pt lt) od 10).length).length : Int) ∧ (pn ≠ 0 → co = (bsF lt mn pt tk mr rm (usd (hasI pt lt) od 10) k (plsA mn k (usd (hasI pt lt) od 10).length)).1 ∧ ag = (bsF lt mn pt tk mr rm (usd (hasI pt lt) od 10) k (plsA mn k (usd (hasI pt lt) od 10).length)).2.1 ∧ (0 ≤ bp ∧ bp < 65536) ∧ bl bp = (bsF lt mn pt tk mr rm (usd (hasI pt lt) od 10) k (plsA mn k (usd (hasI pt lt) od 10).length)).2.2)
theorem LayR_of {lt mn : Int} {pt tk mr od rm : Int → Int} {k co bp ag pn : Int} (hlt : 0 ≤ lt ∧ lt ≤ 24) (h16 : 1 ≤ pw mn k.toNat ∧ pw mn k.toNat ≤ 16) (h1 : (co, ag, bp) = mbF (fun m => cst lt mn pt tk mr rm (usd (hasI pt lt) od 10) k (bl m)) (msk (usd (hasI pt lt) od 10).length (2 ^ (pw mn k.toNat).toNat))) (h2 : pn = ((msk (usd (hasI pt lt) od 10).length (2 ^ (pw mn k.toNat).toNat)).length : Int)) : LayR lt mn pt tk mr od rm k co bp ag pn := by
  have hb := best_same (cs := cst lt mn pt tk mr rm (usd (hasI pt lt) od 10) k) (fun L => (cst_b hlt).2) (b := (pw mn k.toNat).toNat) (r := (usd (hasI pt lt) od 10).length) (by omega)
  rw [show (((pw mn k.toNat).toNat : Nat) : Int) = pw mn k.toNat by omega] at hb
  refine ⟨by rw [h2, ← hb.1]; rfl, fun hne => ?_⟩
  have hb2 := hb.2 (fun e => hne (by rw [h2, ← hb.1, e]; rfl))
  rw [← h1] at hb2
  obtain ⟨g1, g2, g3, g4⟩ := hb2
  exact ⟨g1.symm, g2.symm, g3, g4⟩
/-- the i-th point gets the i-th code -/
theorem asg_get : ∀ (UL L : List Int) (t : Nat) (q c : Int), UL.Nodup → UL[t]? = some q → L[t]? = some c → asg UL L q = c
  | [], L, t, q, c, _, h, _ => by simp at h
  | p :: ps, [], t, q, c, _, _, h => by simp at h
  | p :: ps, d :: ds, 0, q, c, hn, h1, h2 => by
    simp at h1 h2
    subst h1 h2
    show (if p = p then d else _) = d
    rw [if_pos rfl]
  | p :: ps, d :: ds, t + 1, q, c, hn, h1, h2 => by
    simp at h1 h2
    have hne : q ≠ p := fun e => (List.nodup_cons.mp hn).1 (by rw [← e]; exact List.mem_of_getElem? h1)
    show (if q = p then d else asg ps ds q) = c
    rw [if_neg hne]
    exact asg_get ps ds t q c (List.nodup_cons.mp hn).2 h1 h2
theorem asg_b : ∀ (UL L : List Int) (lo hi : Int), lo ≤ 0 → 0 ≤ hi → (∀ c ∈ L, lo ≤ c ∧ c ≤ hi) → ∀ q, lo ≤ asg UL L q ∧ asg UL L q ≤ hi
  | [], L, lo, hi, h1, h2, _, q => by show lo ≤ 0 ∧ (0 : Int) ≤ hi; omega
  | p :: ps, [], lo, hi, h1, h2, _, q => by show lo ≤ 0 ∧ (0 : Int) ≤ hi; omega
  | p :: ps, d :: ds, lo, hi, h1, h2, h3, q => by
    show lo ≤ (if q = p then d else asg ps ds q) ∧ (if q = p then d else asg ps ds q) ≤ hi
    split
    · exact h3 d List.mem_cons_self
    · exact asg_b ps ds lo hi h1 h2 (fun c hc => h3 c (List.mem_cons_of_mem _ hc)) q
theorem usd_nd {hs od pl : Int → Int} (hpo : ∀ i, 0 ≤ i → i ≤ 9 → pl (od i) = i) : ∀ n : Nat, n ≤ 10 → (lst od n).Nodup
  | 0, _ => List.nodup_nil
  | n + 1, h => by
    rw [lst_s, List.nodup_append]
    refine ⟨usd_nd (hs := hs) hpo n (by omega), by simp, fun a ha b hb hab => ?_⟩
    subst hab
    rw [List.mem_singleton] at hb
    unfold lst at ha
    obtain ⟨i, hi, hi2⟩ := List.mem_map.mp ha
    rw [List.mem_range] at hi
    have g1 := hpo (i : Int) (by omega) (by omega)
    have g2 := hpo (n : Int) (by omega) (by omega)
    rw [hi2, hb, g2] at g1
    omega
theorem usd_pre (hs od : Int → Int) {i : Int} (h0 : 0 ≤ i) (h1 : i < 10) (hu : hs (od i) = 1) : ∃ rest, usd hs od 10 = usd hs od i.toNat ++ od i :: rest := by
  have e : lst od 10 = lst od (i + 1).toNat ++ (lst od 10).drop (i + 1).toNat := by
    have : (lst od 10).take (i + 1).toNat = lst od (i + 1).toNat := by
      unfold lst
      rw [← List.map_take, List.take_range]
      congr 2
      omega
    rw [← this]
    exact (List.take_append_drop _ _).symm
  generalize (lst od 10).drop (i + 1).toNat = R at e
  refine ⟨R.filter (fun q => decide (hs q = 1)), ?_⟩
  have h2 := usd_s (hs := hs) (od := od) h0
  rw [if_pos hu] at h2
  show (lst od 10).filter _ = _
  rw [e, List.filter_append]
  show usd hs od (i + 1).toNat ++ _ = _
  rw [h2, List.append_assoc]
  rfl

/-- codes taken so far -/
def tkU (dn : List Int) (f cd : Int → Int) : Int → Int := fun q => if q ∈ dn then f q else cd q
theorem tkU_y {dn : List Int} {f cd : Int → Int} {a c : Int} (h : f a = c) : ud (tkU dn f cd) a c = tkU (dn ++ [a]) f cd := by
  funext q
  unfold tkU ud
  by_cases e : q = a
  · subst e; rw [if_pos rfl, if_pos (by simp), h]
  · rw [if_neg e]
    show (if q ∈ dn then f q else cd q) = _
    by_cases z : q ∈ dn
    · rw [if_pos z, if_pos (by simp [z])]
    · rw [if_neg z, if_neg (by simp [z, e])]
theorem tkU_end {hs od pl f cd : Int → Int} (hod : ∀ j, 0 ≤ od j ∧ od j ≤ 9) (hpl : ∀ j, 0 ≤ pl j ∧ pl j ≤ 9) (hop : ∀ q, 0 ≤ q → q ≤ 9 → od (pl q) = q) : tkU (usd hs od 10) f cd = tkC hs f cd 10 := by
  funext q
  unfold tkU tkC
  have h := usd_mem (hs := hs) hod hpl hop q
  by_cases z : q ∈ usd hs od 10
  · rw [if_pos z, if_pos (by have := h.mp z; exact ⟨by omega, this.2⟩)]
  · rw [if_neg z, if_neg (fun w => z (h.mpr ⟨by omega, w.2⟩))]
theorem blr_no {m c : Int} {n : Nat} (h : m.toNat.testBit c.toNat ≠ true) : blr m (n + 1) c = blr m n (c + 1) := by
  show (if m.toNat.testBit c.toNat = true then _ else _) = _
  rw [if_neg h]
theorem blr_yes {m c : Int} {n : Nat} (h : m.toNat.testBit c.toNat = true) : blr m (n + 1) c = c :: blr m n (c + 1) := by
  show (if m.toNat.testBit c.toNat = true then _ else _) = _
  rw [if_pos h]
theorem drop_cons {L : List Int} {t : Nat} {c : Int} {r : List Int} (h : L.drop t = c :: r) : L[t]? = some c ∧ L.drop (t + 1) = r := by
  constructor
  · have := List.getElem?_drop (xs := L) (i := t) (j := 0)
    rw [h] at this
    simpa using this.symm
  · rw [← List.drop_drop, h]
    rfl
theorem usd_cnt {hs od pl : Int → Int} (hh : ∀ q, hs q = 0 ∨ hs q = 1) (hod : ∀ j, 0 ≤ od j ∧ od j ≤ 9) (hpl : ∀ j, 0 ≤ pl j ∧ pl j ≤ 9) (hpo : ∀ i, 0 ≤ i → i ≤ 9 → pl (od i) = i) (hop : ∀ q, 0 ≤ q → q ≤ 9 → od (pl q) = q) : sumTo hs 10 = ((usd hs od 10).length : Int) := by
  have h1 : List.Perm (lst od 10) (lst (fun i => i) 10) := by
    refine (List.perm_ext_iff_of_nodup (usd_nd (hs := hs) hpo 10 (Nat.le_refl _)) (lst_id_nd 10)).mpr (fun q => ?_)
    constructor
    · intro h
      unfold lst at h
      obtain ⟨i, -, rfl⟩ := List.mem_map.mp h
      have := hod (i : Int)
      exact lst_mem (F := fun i => i) rfl this.1 (by omega)
    · intro h
      unfold lst at h
      obtain ⟨i, hi, rfl⟩ := List.mem_map.mp h
      rw [List.mem_range] at hi
      show ((i : Nat) : Int) ∈ _
      have g := hpl (i : Int)
      have := lst_mem (F := od) (n := 10) rfl (i := pl (i : Int)) g.1 (by omega)
      rw [hop (i : Int) (by omega) (by omega)] at this
      exact this
  have h2 : (usd hs od 10).length = ((lst (fun i => i) 10).filter (fun q => decide (hs q = 1))).length := (h1.filter _).length_eq
  rw [h2]
  have h3 : ∀ n : Nat, sumTo hs n = (((lst (fun i => i) n).filter (fun q => decide (hs q = 1))).length : Int) := by
    intro n
    induction n with
    | zero => rfl
    | succ n ih =>
      rw [lst_s, List.filter_append, List.length_append]
      show sumTo hs n + hs n = _
      rw [ih]
      rcases hh (n : Int) with q | q <;> simp [q]
  exact h3 10

theorem cst_tk {lt mn : Int} {pt tk mr rm cd : Int → Int} {UL L : List Int} {k : Int} (hpt : ∀ j, 0 ≤ pt j ∧ pt j ≤ 9) : lt - ((rnS lt mn pt tk mr rm (tkC (hasI pt lt) (asg UL L) cd 10) k.toNat).1.length : Int) = cst lt mn pt tk mr rm UL k L := by
  unfold cst
  rw [rnS_congr (cd := tkC (hasI pt lt) (asg UL L) cd 10) (cd' := asg UL L) (fun l h0 h1 => by
    have := hpt l
    unfold tkC
    rw [if_pos ⟨by omega, has_pt h0 h1⟩])]
theorem bl_b (m : Int) : ∀ c ∈ bl m, 0 ≤ c ∧ c ≤ 63 := fun c hc => by
  have := blr_ge m 16 0 c hc
  omega
theorem LayR_len {lt mn : Int} {pt tk mr od rm : Int → Int} {k co bp ag pn : Int} (hlt : 0 ≤ lt ∧ lt ≤ 24) (hp : 1 ≤ pw mn k.toNat) (h : LayR lt mn pt tk mr od rm k co bp ag pn) (hne : pn ≠ 0) : (0 ≤ bp ∧ bp < 65536) ∧ (bl bp).length = (usd (hasI pt lt) od 10).length := by
  obtain ⟨h1, h2⟩ := h
  obtain ⟨-, -, g3, g4⟩ := h2 hne
  refine ⟨g3, ?_⟩
  have hb := bst_ok (cst lt mn pt tk mr rm (usd (hasI pt lt) od 10) k) (fun L => (cst_b hlt).2) (plsA mn k (usd (hasI pt lt) od 10).length) (allP_lx _ _ _ (by omega)) (fun e => hne (by rw [h1, e]; rfl))
  rw [g4]
  exact ((allP_mem _ _ _ _ (by omega)).mp hb.1).2
/-- what is clean for the reference -/
def clM (lt mn : Int) (pt tk mr od rm : Int → Int) (k : Int) : Prop := ((plsA mn k (usd (hasI pt lt) od 10).length).length : Int) ≠ 0 ∧ (bsF lt mn pt tk mr rm (usd (hasI pt lt) od 10) k (plsA mn k (usd (hasI pt lt) od 10).length)).1 = sumTo mr lt.toNat

theorem mbs_r {cs : Int → Int} {x : Int × Int × Int} {m : Int} (hc : ∀ m, 0 ≤ cs m ∧ cs m ≤ 24) (h1 : x.2.2 = -6 ∨ (0 ≤ x.2.2 ∧ x.2.2 < 65536)) (h2 : -6 ≤ x.1 ∧ x.1 ≤ 24) (hm : 0 ≤ m ∧ m < 65536) : ((mbs cs x m).2.2 = -6 ∨ (0 ≤ (mbs cs x m).2.2 ∧ (mbs cs x m).2.2 < 65536)) ∧ (-6 ≤ (mbs cs x m).1 ∧ (mbs cs x m).1 ≤ 24) := by
  have g := hc m
  unfold mbs
  split
  · exact ⟨Or.inr hm, by show -6 ≤ cs m ∧ cs m ≤ 24; omega⟩
  · split
    · refine ⟨?_, h2⟩
      show (if _ then m else x.2.2) = -6 ∨ _
      split
      · exact Or.inr hm
      · exact h1
    · exact ⟨h1, h2⟩
theorem bsF_b {lt mn : Int} {pt tk mr rm : Int → Int} {UL : List Int} {k : Int} (hlt : 0 ≤ lt ∧ lt ≤ 24) (PL : List (List Int)) : 0 ≤ (bsF lt mn pt tk mr rm UL k PL).1 ∧ (bsF lt mn pt tk mr rm UL k PL).1 ≤ 25 := by
  have key : ∀ (PL : List (List Int)) (x : Int × Int × List Int), 0 ≤ x.1 ∧ x.1 ≤ 25 → 0 ≤ (PL.foldl (bst (cst lt mn pt tk mr rm UL k)) x).1 ∧ (PL.foldl (bst (cst lt mn pt tk mr rm UL k)) x).1 ≤ 25 := by
    intro PL
    induction PL with
    | nil => intro x h; exact h
    | cons L PL ih =>
      intro x h
      rw [List.foldl_cons]
      refine ih _ ?_
      have g := cst_b (mn := mn) (pt := pt) (tk := tk) (mr := mr) (rm := rm) (UL := UL) (k := k) (L := L) hlt
      rcases bst_le (cst lt mn pt tk mr rm UL k) x L with q | q <;> rw [q]
      · omega
      · exact h
  exact key PL _ ⟨by decide, by decide⟩

theorem bl_len (m : Int) : (bl m).length ≤ 16 := by
  have key : ∀ (n : Nat) (c : Int), (blr m n c).length ≤ n := by
    intro n
    induction n with
    | zero => intro c; exact Nat.le_refl _
    | succ n ih =>
      intro c
      have := ih (c + 1)
      show (if m.toNat.testBit c.toNat = true then c :: blr m n (c + 1) else blr m n (c + 1)).length ≤ n + 1
      split
      · rw [List.length_cons]; omega
      · omega
  exact key 16 0
