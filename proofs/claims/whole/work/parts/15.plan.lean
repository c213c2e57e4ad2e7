/-! ===== plans as lists of codes: one after the other ===== -/
/-- a, a + 1, .. : n of them -/
def seqF (a : Int) : Nat → List Int
  | 0 => []
  | n + 1 => a :: seqF (a + 1) n
theorem seqF_len : ∀ (n : Nat) (a : Int), (seqF a n).length = n
  | 0, _ => rfl
  | n + 1, a => by show (seqF (a + 1) n).length + 1 = n + 1; rw [seqF_len n]
theorem seqF_get : ∀ (n : Nat) (a : Int) (i : Nat), i < n → (seqF a n)[i]? = some (a + i)
  | n + 1, a, 0, _ => by show some a = some (a + ((0 : Nat) : Int)); simp
  | n + 1, a, i + 1, h => by
    show (seqF (a + 1) n)[i]? = _
    rw [seqF_get n (a + 1) i (by omega)]
    congr 1
    omega
/-- the next plan that differs at one of the first f codes -/
def nxt (b : Int) : Nat → List Int → Option (List Int)
  | 0, _ => none
  | _ + 1, [] => none
  | f + 1, h :: tl => match nxt b f tl with
    | some t => some (h :: t)
    | none => if h < b - (tl.length + 1 : Nat) then some (seqF (h + 1) (tl.length + 1)) else none
theorem nxt_len (b : Int) : ∀ (L : List Int) (f : Nat) (L' : List Int), nxt b f L = some L' → L'.length = L.length
  | [], 0, L', h => by cases h
  | [], f + 1, L', h => by cases h
  | a :: tl, 0, L', h => by cases h
  | a :: tl, f + 1, L', h => by
    unfold nxt at h
    split at h
    · rename_i t ht
      cases h
      show t.length + 1 = tl.length + 1
      rw [nxt_len b tl f t ht]
    · split at h
      · cases h
        exact seqF_len _ _
      · cases h
/-- from the walk's place i down: the first that can be raised -/
theorem nxt_yes (b : Int) : ∀ (L : List Int) (f i : Nat) (c : Int), i < f → L[i]? = some c → c < b - ((L.length - i : Nat) : Int) → (∀ (k : Nat) (d : Int), i < k → k < f → L[k]? = some d → ¬ d < b - ((L.length - k : Nat) : Int)) → nxt b f L = some (L.take i ++ seqF (c + 1) (L.length - i))
  | [], f, i, c, _, h, _, _ => by cases h
  | a :: tl, 0, i, c, h0, _, _, _ => by omega
  | a :: tl, f + 1, 0, c, h0, h1, h2, h3 => by
    cases h1
    have hn : nxt b f tl = none := by
      have key : ∀ (L : List Int) (f : Nat), (∀ (k : Nat) (d : Int), k < f → L[k]? = some d → ¬ d < b - ((L.length - k : Nat) : Int)) → nxt b f L = none := by
        intro L
        induction L with
        | nil => intro f _; cases f <;> rfl
        | cons a tl ih =>
          intro f h
          cases f with
          | zero => rfl
          | succ f =>
            have h1 := ih f (fun k d q1 q2 q3 => h (k + 1) d (by omega) q2 (by show d < b - ((tl.length + 1 - (k + 1) : Nat) : Int); rw [show tl.length + 1 - (k + 1) = tl.length - k by omega]; exact q3))
            unfold nxt
            rw [h1]
            exact if_neg (h 0 a (by omega) rfl)
      exact key tl f (fun k d q1 q2 q3 => h3 (k + 1) d (by omega) (by omega) q2 (by show d < b - ((tl.length + 1 - (k + 1) : Nat) : Int); rw [show tl.length + 1 - (k + 1) = tl.length - k by omega]; exact q3))
    unfold nxt
    rw [hn]
    exact if_pos h2
  | a :: tl, f + 1, i + 1, c, h0, h1, h2, h3 => by
    have h4 := nxt_yes b tl f i c (by omega) h1 (by rw [show tl.length - i = tl.length + 1 - (i + 1) by omega]; exact h2) (fun k d q0 q1 q2 q3 => h3 (k + 1) d (by omega) (by omega) q2 (by show d < b - ((tl.length + 1 - (k + 1) : Nat) : Int); rw [show tl.length + 1 - (k + 1) = tl.length - k by omega]; exact q3))
    unfold nxt
    rw [h4]
    show some (a :: (tl.take i ++ seqF (c + 1) (tl.length - i))) = some ((a :: tl).take (i + 1) ++ seqF (c + 1) (tl.length + 1 - (i + 1)))
    rw [show tl.length + 1 - (i + 1) = tl.length - i by omega]
    rfl
theorem nxt_no (b : Int) : ∀ (L : List Int) (f : Nat), (∀ (k : Nat) (d : Int), k < f → L[k]? = some d → ¬ d < b - ((L.length - k : Nat) : Int)) → nxt b f L = none
  | [], f, _ => by cases f <;> rfl
  | a :: tl, 0, _ => rfl
  | a :: tl, f + 1, h => by
    have h1 := nxt_no b tl f (fun k d q1 q2 q3 => h (k + 1) d (by omega) q2 (by show d < b - ((tl.length + 1 - (k + 1) : Nat) : Int); rw [show tl.length + 1 - (k + 1) = tl.length - k by omega]; exact q3))
    unfold nxt
    rw [h1]
    exact if_neg (h 0 a (by omega) rfl)
/-- more than the length is no more than the length -/
theorem nxt_all (b : Int) : ∀ (L : List Int) (f : Nat), L.length ≤ f → nxt b f L = nxt b L.length L
  | [], f, _ => by cases f <;> rfl
  | a :: tl, 0, h => by simp at h
  | a :: tl, f + 1, h => by
    have h1 := nxt_all b tl f (by simp at h; exact h)
    show nxt b (f + 1) (a :: tl) = nxt b (tl.length + 1) (a :: tl)
    unfold nxt
    rw [h1]
/-- all rising rows of r codes out of the w ones below b, the lesser code first -/
def allP (b : Int) : Nat → Nat → List (List Int)
  | _, 0 => [[]]
  | 0, _ + 1 => []
  | w + 1, r + 1 => (allP b w r).map (fun t => (b - ((w + 1 : Nat) : Int)) :: t) ++ allP b w (r + 1)
theorem allP_nil (b : Int) : ∀ (w r : Nat), w < r → allP b w r = []
  | w, 0, h => by omega
  | 0, r + 1, _ => rfl
  | w + 1, r + 1, h => by
    show (allP b w r).map _ ++ allP b w (r + 1) = []
    rw [allP_nil b w r (by omega), allP_nil b w (r + 1) (by omega)]
    rfl
/-- a plan and all behind it -/
def remP (b : Int) : List Int → List (List Int)
  | [] => [[]]
  | h :: tl => (remP b tl).map (fun t => h :: t) ++ allP b (b - h - 1).toNat (tl.length + 1)
theorem remP_seq (b : Int) : ∀ (r w : Nat) (a : Int), a = b - (w : Int) → r ≤ w → remP b (seqF a r) = allP b w r
  | 0, w, a, _, _ => by cases w <;> rfl
  | r + 1, 0, a, _, h => by omega
  | r + 1, w + 1, a, h, hr => by
    show (remP b (seqF (a + 1) r)).map (fun t => a :: t) ++ allP b (b - a - 1).toNat ((seqF (a + 1) r).length + 1) = (allP b w r).map (fun t => (b - ((w + 1 : Nat) : Int)) :: t) ++ allP b w (r + 1)
    rw [remP_seq b r w (a + 1) (by omega) (by omega), seqF_len, h, show (b - (b - ((w + 1 : Nat) : Int)) - 1).toNat = w by omega]
/-- the step from plan to plan: X is passed over, all of it like L at the first f codes -/
theorem remP_nxt (b : Int) : ∀ (L : List Int) (f : Nat), (∀ c ∈ L, c < b) → ∃ X : List (List Int), X ≠ [] ∧ (∀ Y ∈ X, Y.take f = L.take f) ∧ (L.length ≤ f → X = [L]) ∧ remP b L = X ++ (match nxt b f L with | some L' => remP b L' | none => [])
  | [], f, _ => ⟨[[]], by simp, fun Y h => by rw [List.mem_singleton.mp h], fun _ => rfl, by cases f <;> rfl⟩
  | a :: tl, 0, h => by
    refine ⟨remP b (a :: tl), ?_, fun Y _ => by simp, fun q => by simp at q, ?_⟩
    · obtain ⟨X, h1, -, -, h2⟩ := remP_nxt b tl 0 (fun c hc => h c (List.mem_cons_of_mem _ hc))
      intro q
      have q1 : (remP b tl).map (fun t => a :: t) ++ allP b (b - a - 1).toNat (tl.length + 1) = [] := q
      have q2 := (List.append_eq_nil_iff.mp q1).1
      rw [h2] at q2
      have q3 := List.map_eq_nil_iff.mp q2
      exact h1 (List.append_eq_nil_iff.mp q3).1
    · show _ = _ ++ []
      rw [List.append_nil]
  | a :: tl, f + 1, h => by
    obtain ⟨X, h1, h2, h3, h4⟩ := remP_nxt b tl f (fun c hc => h c (List.mem_cons_of_mem _ hc))
    have ha := h a List.mem_cons_self
    refine ⟨X.map (fun t => a :: t), by simpa using h1, fun Y hY => ?_, fun q => ?_, ?_⟩
    · obtain ⟨t, ht, rfl⟩ := List.mem_map.mp hY
      show a :: t.take f = a :: tl.take f
      rw [h2 t ht]
    · rw [h3 (by simp at q; exact q)]
      rfl
    · show (remP b tl).map (fun t => a :: t) ++ allP b (b - a - 1).toNat (tl.length + 1) = _
      rw [h4]
      cases hn : nxt b f tl with
      | some t =>
        have e : nxt b (f + 1) (a :: tl) = some (a :: t) := by
          unfold nxt
          rw [hn]
        rw [e]
        show (X ++ remP b t).map _ ++ _ = X.map _ ++ ((remP b t).map (fun t => a :: t) ++ allP b (b - a - 1).toNat (t.length + 1))
        rw [nxt_len b tl f t hn, List.map_append, List.append_assoc]
      | none =>
        by_cases q : a < b - ((tl.length + 1 : Nat) : Int)
        · have e : nxt b (f + 1) (a :: tl) = some (seqF (a + 1) (tl.length + 1)) := by
            unfold nxt
            rw [hn]
            show (if a < b - ((tl.length + 1 : Nat) : Int) then _ else _) = _
            rw [if_pos q]
          rw [e]
          show (X ++ []).map _ ++ _ = X.map _ ++ remP b (seqF (a + 1) (tl.length + 1))
          rw [remP_seq b (tl.length + 1) (b - a - 1).toNat (a + 1) (by omega) (by omega), List.append_nil]
        · have e : nxt b (f + 1) (a :: tl) = none := by
            unfold nxt
            rw [hn]
            show (if a < b - ((tl.length + 1 : Nat) : Int) then _ else _) = _
            rw [if_neg q]
          rw [e]
          show (X ++ []).map _ ++ _ = X.map _ ++ []
          rw [List.append_nil, allP_nil b _ _ (by omega)]
/-- how many plans there are -/
def bin : Nat → Nat → Nat
  | _, 0 => 1
  | 0, _ + 1 => 0
  | w + 1, r + 1 => bin w r + bin w (r + 1)
theorem allP_len (b : Int) : ∀ w r, (allP b w r).length = bin w r
  | w, 0 => by cases w <;> rfl
  | 0, r + 1 => rfl
  | w + 1, r + 1 => by
    show ((allP b w r).map _ ++ allP b w (r + 1)).length = bin w r + bin w (r + 1)
    rw [List.length_append, List.length_map, allP_len b w r, allP_len b w (r + 1)]
theorem bin_le : ∀ w, w ≤ 16 → ∀ r, r ≤ 10 → bin w r ≤ 12870 := by decide +kernel
/-- rising rows below b -/
def ris (b : Int) : Int → List Int → Prop
  | a, [] => a ≤ b
  | a, c :: tl => a ≤ c ∧ c < b ∧ ris b (c + 1) tl
theorem ris_lt (b : Int) : ∀ (L : List Int) (a : Int), ris b a L → ∀ c ∈ L, a ≤ c ∧ c < b
  | [], a, _, c, hc => by cases hc
  | d :: tl, a, h, c, hc => by
    obtain ⟨h1, h2, h3⟩ := h
    rcases List.mem_cons.mp hc with rfl | hc
    · exact ⟨h1, h2⟩
    · have := ris_lt b tl (d + 1) h3 c hc
      omega
theorem ris_seq (b : Int) : ∀ (n : Nat) (a : Int), a + n ≤ b → ris b a (seqF a n)
  | 0, a, h => by show a ≤ b; omega
  | n + 1, a, h => ⟨Int.le_refl a, by omega, ris_seq b n (a + 1) (by omega)⟩
theorem ris_weak (b : Int) : ∀ (L : List Int) (a a' : Int), a' ≤ a → ris b a L → ris b a' L
  | [], a, a', h, hr => by
    have hr' : a ≤ b := hr
    show a' ≤ b
    omega
  | c :: tl, a, a', h, hr => ⟨by have := hr.1; omega, hr.2.1, hr.2.2⟩
theorem ris_nxt (b : Int) : ∀ (L : List Int) (f : Nat) (a : Int) (L' : List Int), ris b a L → nxt b f L = some L' → ris b a L'
  | [], 0, a, L', _, h => by cases h
  | [], f + 1, a, L', _, h => by cases h
  | c :: tl, 0, a, L', _, h => by cases h
  | c :: tl, f + 1, a, L', hr, h => by
    unfold nxt at h
    split at h
    · rename_i t ht
      cases h
      exact ⟨hr.1, hr.2.1, ris_nxt b tl f (c + 1) t hr.2.2 ht⟩
    · split at h
      · rename_i q
        cases h
        refine ris_weak b _ (c + 1) a (by have := hr.1; omega) (ris_seq b _ _ ?_)
        omega
      · cases h
theorem remP_head (b : Int) : ∀ L : List Int, ∃ Y, remP b L = L :: Y
  | [] => ⟨[], rfl⟩
  | h :: tl => by
    obtain ⟨Y, hY⟩ := remP_head b tl
    refine ⟨Y.map (fun t => h :: t) ++ allP b (b - h - 1).toNat (tl.length + 1), ?_⟩
    show (remP b tl).map (fun t => h :: t) ++ _ = _
    rw [hY]
    rfl
