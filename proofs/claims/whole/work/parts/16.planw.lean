/-! ===== plans in rows ===== -/
/-- the points that letters have, in the order of the walk (of its first n places) -/
def usd (hs od : Int → Int) (n : Nat) : List Int := (lst od n).filter (fun q => decide (hs q = 1))
theorem usd_s {hs od : Int → Int} {i : Int} (h : 0 ≤ i) : usd hs od (i + 1).toNat = if hs (od i) = 1 then usd hs od i.toNat ++ [od i] else usd hs od i.toNat := by
  unfold usd
  rw [lst_si h, List.filter_append]
  by_cases e : hs (od i) = 1
  · rw [if_pos e]; simp [e]
  · rw [if_neg e]; simp [e]
theorem usd_len (hs od : Int → Int) (n : Nat) : (usd hs od n).length ≤ n := by
  have := List.length_filter_le (fun q => decide (hs q = 1)) (lst od n)
  rw [lst_len] at this
  exact this
/-- what holds of rows of a plan -/
def PlI (sz be : Int) (fp fc : Int → Int) : Prop := ((0 ≤ sz ∧ sz ≤ 10) ∧ 0 ≤ be ∧ be ≤ 64) ∧ ((∀ j, 0 ≤ fp j ∧ fp j ≤ 9) ∧ (∀ j, 0 ≤ fc j ∧ fc j ≤ 63)) ∧ ∀ i k, 0 ≤ i → i < sz → 0 ≤ k → k < sz → fp i = fp k → i = k
/-- the codes of the plan -/
def cds (fp fc : Int → Int) (sz : Int) : List Int := lst (fun i => fc (fp i)) sz.toNat
theorem cds_len (fp fc : Int → Int) (sz : Int) : (cds fp fc sz).length = sz.toNat := lst_len _ _
theorem lst_get {F : Int → Int} {n k : Nat} (h : k < n) : (lst F n)[k]? = some (F k) := by
  unfold lst
  rw [List.getElem?_map, List.getElem?_range h]
  rfl
theorem lst_getI {F : Int → Int} {n k : Nat} {d : Int} (h : (lst F n)[k]? = some d) : k < n ∧ d = F k := by
  have h1 : k < n := by
    have := (List.getElem?_eq_some_iff.mp h).1
    rw [lst_len] at this
    exact this
  rw [lst_get h1] at h
  cases h
  exact ⟨h1, rfl⟩
/-- raised from place a on -/
def raiF (fp fc fd : Int → Int) (a sz : Int) : Prop := (∀ t, 0 ≤ t → t < a → fd (fp t) = fc (fp t)) ∧ ∀ t, a ≤ t → t < sz → fd (fp t) = fc (fp a) + 1 + (t - a)
theorem rai_cds {fp fc fd : Int → Int} {a sz : Int} (h0 : 0 ≤ a) (h1 : a < sz) (h : raiF fp fc fd a sz) : cds fp fd sz = (cds fp fc sz).take a.toNat ++ seqF (fc (fp a) + 1) ((cds fp fc sz).length - a.toNat) := by
  apply List.ext_getElem?
  intro k
  rw [cds_len]
  by_cases hk : k < sz.toNat
  · rw [cds, lst_get hk]
    by_cases hka : k < a.toNat
    · rw [List.getElem?_append_left (by rw [List.length_take, cds_len]; omega), List.getElem?_take_of_lt hka, cds, lst_get hk]
      congr 1
      exact h.1 k (by omega) (by omega)
    · rw [List.getElem?_append_right (by rw [List.length_take, cds_len]; omega), List.length_take, cds_len, show min a.toNat sz.toNat = a.toNat by omega, seqF_get _ _ _ (by omega)]
      congr 1
      rw [h.2 k (by omega) (by omega)]
      omega
  · rw [List.getElem?_eq_none (by rw [cds_len]; omega), List.getElem?_eq_none (by rw [List.length_append, List.length_take, cds_len, seqF_len]; omega)]
theorem adv_yes {fp fc fd : Int → Int} {a sz be f : Int} (h0 : 0 ≤ a) (h1 : a < sz) (hf : a < f) (h : raiF fp fc fd a sz) (hc : fc (fp a) < be - (sz - a)) (hn : ∀ k, a < k → k < f → k < sz → ¬ fc (fp k) < be - (sz - k)) : nxt be f.toNat (cds fp fc sz) = some (cds fp fd sz) := by
  rw [rai_cds h0 h1 h]
  refine nxt_yes be (cds fp fc sz) f.toNat a.toNat (fc (fp a)) (by omega) ?_ ?_ ?_
  · rw [cds, lst_get (by omega)]
    show some (fc (fp ((a.toNat : Nat) : Int))) = _
    rw [Int.toNat_of_nonneg h0]
  · rw [cds_len]
    omega
  · intro k d q1 q2 q3 q4
    obtain ⟨g1, g2⟩ := lst_getI q3
    rw [g2, cds_len] at q4
    exact hn k (by omega) (by omega) (by omega) (by omega)
theorem adv_no {fp fc : Int → Int} {sz be f : Int} (hn : ∀ k, 0 ≤ k → k < f → k < sz → ¬ fc (fp k) < be - (sz - k)) : nxt be f.toNat (cds fp fc sz) = none := by
  refine nxt_no be (cds fp fc sz) f.toNat ?_
  intro k d q2 q3 q4
  obtain ⟨g1, g2⟩ := lst_getI q3
  rw [g2, cds_len] at q4
  exact hn k (by omega) (by omega) (by omega) (by omega)
theorem pl_b2 {fp fc : Int → Int} {n : Int} (h : ∀ t, 0 ≤ t → t < n → fc (fp t) = t) : cds fp fc n = seqF 0 n.toNat := by
  apply List.ext_getElem?
  intro k
  by_cases hk : k < n.toNat
  · rw [cds, lst_get hk, seqF_get _ _ _ hk]
    congr 1
    rw [h k (by omega) (by omega)]
    omega
  · rw [List.getElem?_eq_none (by rw [cds_len]; omega), List.getElem?_eq_none (by rw [seqF_len]; omega)]
theorem pl_b3 {od pl B C : Int → Int} {i n : Int} (hpi : pl (od i) = i) (h3 : ∀ t, 0 ≤ t → t < n → C (B t) = t) (h4 : ∀ t, 0 ≤ t → t < n → pl (B t) < i) : ∀ t, 0 ≤ t → t < n + 1 → ud C (od i) n (ud B n (od i) t) = t := fun t q1 q2 => by
  by_cases e : t = n
  · subst e; rw [ud_at, ud_at]
  · rw [ud_ne (F := B) e, ud_ne (fun q => by have := h4 t q1 (by omega); rw [q, hpi] at this; omega)]
    exact h3 t q1 (by omega)
theorem pl_b4 {od pl B : Int → Int} {i n : Int} (hpi : pl (od i) = i) (h4 : ∀ t, 0 ≤ t → t < n → pl (B t) < i) : ∀ t, 0 ≤ t → t < n + 1 → pl (ud B n (od i) t) < i + 1 := fun t q1 q2 => by
  by_cases e : t = n
  · subst e; rw [ud_at, hpi]; omega
  · rw [ud_ne e]
    have := h4 t q1 (by omega)
    omega
theorem pl_b5 {od pl B : Int → Int} {i n : Int} (hpi : pl (od i) = i) (h4 : ∀ t, 0 ≤ t → t < n → pl (B t) < i) (h5 : ∀ i k, 0 ≤ i → i < n → 0 ≤ k → k < n → B i = B k → i = k) : ∀ a k, 0 ≤ a → a < n + 1 → 0 ≤ k → k < n + 1 → ud B n (od i) a = ud B n (od i) k → a = k := fun a k q1 q2 q3 q4 q => by
  by_cases e : a = n <;> by_cases g : k = n
  · omega
  · subst e
    rw [ud_at, ud_ne g] at q
    have := h4 k q3 (by omega)
    rw [← q, hpi] at this
    omega
  · subst g
    rw [ud_at, ud_ne e] at q
    have := h4 a q1 (by omega)
    rw [q, hpi] at this
    omega
  · rw [ud_ne e, ud_ne g] at q
    exact h5 a k q1 (by omega) q3 (by omega) q
