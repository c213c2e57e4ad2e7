/-! ===== plans as numbers: a bit for each code ===== -/
def bt (x : Int32) (i : Nat) : Bool := x.toBitVec.getLsbD i
theorem b_ext {x y : Int32} (h : ∀ i, i < 32 → bt x i = bt y i) : x = y := Int32.toBitVec_inj.mp (BitVec.eq_of_getLsbD_eq (fun i hi => h i hi))
theorem b_or (x y : Int32) (i : Nat) : bt (x ||| y) i = (bt x i || bt y i) := by unfold bt; rw [Int32.toBitVec_or, BitVec.getLsbD_or]
theorem b_and (x y : Int32) (i : Nat) : bt (x &&& y) i = (bt x i && bt y i) := by unfold bt; rw [Int32.toBitVec_and, BitVec.getLsbD_and]
theorem b_xor (x y : Int32) (i : Nat) : bt (x ^^^ y) i = (bt x i ^^ bt y i) := by unfold bt; rw [Int32.toBitVec_xor, BitVec.getLsbD_xor]
theorem b_big {x : Int32} {i : Nat} (h : 32 ≤ i) : bt x i = false := BitVec.getLsbD_of_ge _ _ h
theorem s_l : ∀ n, n < 32 → ((nI n &&& 31).toBitVec.smod 32).toNat = n := by decide +kernel
theorem b_sshr (n : Nat) (hn : n < 32) (x : Int32) {i : Nat} (hi : i < 32) : bt (x >>> (nI n &&& 31)) i = if n + i < 32 then bt x (n + i) else bt x 31 := by
  unfold bt
  rw [Int32.toBitVec_shiftRight]
  show (x.toBitVec.sshiftRight ((nI n &&& 31).toBitVec.smod 32).toNat).getLsbD i = _
  rw [s_l n hn, BitVec.getLsbD_sshiftRight, BitVec.msb_eq_getLsbD_last]
  simp [hi]
theorem bt_iI {m : Int} (h0 : 0 ≤ m) {c : Nat} (hc : c < 32) : bt (iI m) c = m.toNat.testBit c := by
  obtain ⟨n, rfl⟩ : ∃ n : Nat, m = n := ⟨m.toNat, by omega⟩
  rw [← iI_natC]
  show (BitVec.ofNat 32 n).getLsbD c = _
  rw [BitVec.getLsbD_ofNat]
  simp [hc]
theorem and_one (x : Int32) : (x &&& 1).toInt = if bt x 0 = true then 1 else 0 := by
  have h : x &&& 1 = if bt x 0 = true then 1 else 0 := by
    apply b_ext
    intro i hi
    rw [b_and]
    have h1 : bt 1 i = decide (i = 0) := by
      unfold bt
      show (BitVec.ofNat 32 1).getLsbD i = _
      rw [BitVec.getLsbD_ofNat]
      have : Nat.testBit 1 i = decide (i = 0) := by
        cases i with
        | zero => rfl
        | succ i => simp [Nat.testBit_succ]
      rw [this]
      simp [hi]
    rw [h1]
    by_cases e : i = 0
    · subst e
      by_cases q : bt x 0 = true
      · rw [if_pos q, q]; decide
      · rw [if_neg q, Bool.eq_false_iff.mpr q]; decide
    · rw [decide_eq_false e, Bool.and_false]
      split
      · unfold bt
        show false = (BitVec.ofNat 32 1).getLsbD i
        rw [BitVec.getLsbD_ofNat]
        cases i with
        | zero => exact absurd rfl e
        | succ i => simp [Nat.testBit_succ]
      · unfold bt
        show false = (BitVec.ofNat 32 0).getLsbD i
        simp
  rw [h]
  split <;> decide
theorem bit_at {m c : Int} (h0 : 0 ≤ m) (c0 : 0 ≤ c) (c1 : c < 32) (h1 : m ≤ 2147483647) : zand (zshr m c) 1 = if m.toNat.testBit c.toNat = true then 1 else 0 := by
  obtain ⟨n, rfl⟩ : ∃ n : Nat, c = n := ⟨c.toNat, by omega⟩
  unfold zand zshr
  rw [← iI_of]
  show ((iI m >>> (iI n &&& 31)) &&& 1).toInt = _
  rw [and_one, ← iI_natC]
  have : bt (iI m >>> (nI n &&& 31)) 0 = bt (iI m) n := by
    rw [b_sshr n (by omega) _ (by omega), if_pos (by omega), Nat.add_zero]
  rw [show (Int32.ofNat n) = nI n from rfl, this, bt_iI h0 (by omega), show ((n : Int)).toNat = n by omega]
/-- codes of a number: its bits from c on, n places -/
def blr (m : Int) : Nat → Int → List Int
  | 0, _ => []
  | n + 1, c => if m.toNat.testBit c.toNat = true then c :: blr m n (c + 1) else blr m n (c + 1)
def bl (m : Int) : List Int := blr m 16 0
theorem blr_ge (m : Int) : ∀ (n : Nat) (c x : Int), x ∈ blr m n c → c ≤ x ∧ x < c + n
  | 0, c, x, h => by cases h
  | n + 1, c, x, h => by
    unfold blr at h
    split at h
    · rcases List.mem_cons.mp h with rfl | h
      · omega
      · have := blr_ge m n (c + 1) x h
        omega
    · have := blr_ge m n (c + 1) x h
      omega
theorem blr_congr {a b : Int} : ∀ (n : Nat) (c : Int), (∀ x : Int, c ≤ x → x < c + n → a.toNat.testBit x.toNat = b.toNat.testBit x.toNat) → blr a n c = blr b n c
  | 0, c, _ => rfl
  | n + 1, c, h => by
    unfold blr
    rw [h c (Int.le_refl c) (by omega), blr_congr n (c + 1) (fun x q1 q2 => h x (by omega) (by omega))]
theorem blr_split (m : Int) : ∀ (a : Nat) (n : Nat) (c : Int), blr m (a + n) c = blr m a c ++ blr m n (c + a)
  | 0, n, c => by
    show blr m (0 + n) c = [] ++ blr m n (c + ((0 : Nat) : Int))
    rw [Nat.zero_add, List.nil_append]
    congr 1
    omega
  | a + 1, n, c => by
    rw [show a + 1 + n = (a + n) + 1 by omega]
    show (if m.toNat.testBit c.toNat = true then c :: blr m (a + n) (c + 1) else blr m (a + n) (c + 1)) = (if m.toNat.testBit c.toNat = true then c :: blr m a (c + 1) else blr m a (c + 1)) ++ blr m n (c + ((a + 1 : Nat) : Int))
    rw [blr_split m a n (c + 1), show c + 1 + (a : Int) = c + ((a + 1 : Nat) : Int) by omega]
    split
    · rfl
    · rfl
theorem bl_small {m : Int} {b : Nat} (hb : b ≤ 16) (hm : m.toNat < 2 ^ b) : bl m = blr m b 0 := by
  have h := blr_split m b (16 - b) 0
  rw [show b + (16 - b) = 16 by omega] at h
  unfold bl
  rw [h]
  have : ∀ (n : Nat) (c : Int), (b : Int) ≤ c → blr m n c = [] := by
    intro n
    induction n with
    | zero => intro c _; rfl
    | succ n ih =>
      intro c hc
      unfold blr
      rw [if_neg, ih (c + 1) (by omega)]
      rw [Nat.testBit_lt_two_pow (Nat.lt_of_lt_of_le hm (Nat.pow_le_pow_right (by decide) (by omega)))]
      decide
  rw [this (16 - b) (0 + (b : Int)) (by omega), List.append_nil]
theorem bl_top {m : Nat} {b : Nat} (hb : b < 16) (hm : m < 2 ^ b) : bl ((m + 2 ^ b : Nat) : Int) = bl (m : Int) ++ [(b : Int)] := by
  have h1 : m + 2 ^ b < 2 ^ (b + 1) := by rw [Nat.pow_succ]; omega
  rw [bl_small (b := b + 1) (by omega) (by rw [Int.toNat_natCast]; exact h1), bl_small (b := b) (by omega) (by rw [Int.toNat_natCast]; exact hm)]
  have h := blr_split ((m + 2 ^ b : Nat) : Int) b 1 0
  rw [h]
  congr 1
  · refine blr_congr b 0 (fun x q1 q2 => ?_)
    show (m + 2 ^ b).testBit x.toNat = m.testBit x.toNat
    rw [Nat.add_comm, Nat.testBit_two_pow_add_gt (by omega)]
  · show (if (m + 2 ^ b).testBit (0 + (b : Int)).toNat = true then _ else _) = _
    rw [if_pos, show (0 : Int) + (b : Int) = b by omega]
    · rfl
    · rw [show (0 + (b : Int)).toNat = b by omega, Nat.add_comm, Nat.testBit_two_pow_add_eq, Nat.testBit_lt_two_pow hm]
      rfl
/-- rising rows are those of numbers -/
theorem ris_snoc (b : Int) : ∀ (L : List Int) (a : Int), a ≤ b → (ris (b + 1) a L ↔ (ris b a L ∨ ∃ t, L = t ++ [b] ∧ ris b a t))
  | [], a, h => by
    show a ≤ b + 1 ↔ (a ≤ b ∨ ∃ t, [] = t ++ [b] ∧ ris b a t)
    constructor
    · intro _; exact Or.inl h
    · intro _; omega
  | c :: L, a, h => by
    show (a ≤ c ∧ c < b + 1 ∧ ris (b + 1) (c + 1) L) ↔ ((a ≤ c ∧ c < b ∧ ris b (c + 1) L) ∨ ∃ t, c :: L = t ++ [b] ∧ ris b a t)
    constructor
    · rintro ⟨h1, h2, h3⟩
      by_cases e : c = b
      · subst e
        have hL : L = [] := by
          cases L with
          | nil => rfl
          | cons d L => have := h3.1; have := h3.2.1; omega
        subst hL
        exact Or.inr ⟨[], rfl, h⟩
      · rcases (ris_snoc b L (c + 1) (by omega)).mp h3 with q | ⟨t, q1, q2⟩
        · exact Or.inl ⟨h1, by omega, q⟩
        · exact Or.inr ⟨c :: t, by rw [q1]; rfl, h1, by omega, q2⟩
    · rintro (⟨h1, h2, h3⟩ | ⟨t, h1, h2⟩)
      · exact ⟨h1, by omega, (ris_snoc b L (c + 1) (by omega)).mpr (Or.inl h3)⟩
      · cases t with
        | nil =>
          simp at h1
          obtain ⟨rfl, rfl⟩ := h1
          exact ⟨h, by omega, by show c + 1 ≤ c + 1; omega⟩
        | cons d t =>
          simp at h1
          obtain ⟨rfl, rfl⟩ := h1
          obtain ⟨g1, g2, g3⟩ := h2
          exact ⟨g1, by omega, (ris_snoc b _ (c + 1) (by omega)).mpr (Or.inr ⟨t, rfl, g3⟩)⟩
/-- all numbers below 2 ^ b, as rows of codes -/
def allM (b : Nat) : List (List Int) := (List.range (2 ^ b)).map (fun m : Nat => bl (m : Int))
theorem allM_s {b : Nat} (hb : b < 16) : allM (b + 1) = allM b ++ (allM b).map (fun t => t ++ [(b : Int)]) := by
  unfold allM
  rw [Nat.pow_succ, Nat.mul_two, List.range_add, List.map_append, List.map_map, List.map_map]
  congr 1
  apply List.map_congr_left
  intro m hm
  rw [List.mem_range] at hm
  show bl ((2 ^ b + m : Nat) : Int) = bl (m : Int) ++ [(b : Int)]
  rw [Nat.add_comm]
  exact bl_top hb hm
theorem allM_mem : ∀ b : Nat, b ≤ 16 → ∀ L, L ∈ allM b ↔ ris (b : Int) 0 L
  | 0, _, L => by
    have e : allM 0 = [[]] := by decide +kernel
    rw [e, List.mem_singleton]
    constructor
    · rintro rfl; show (0 : Int) ≤ 0; omega
    · intro h
      cases L with
      | nil => rfl
      | cons c L =>
        have h1 := h.1
        have h2 : c < ((0 : Nat) : Int) := h.2.1
        omega
  | b + 1, hb, L => by
    rw [allM_s (by omega), List.mem_append, allM_mem b (by omega) L, List.mem_map]
    rw [show (((b + 1 : Nat) : Int)) = (b : Int) + 1 by omega, ris_snoc (b : Int) L 0 (by omega)]
    constructor
    · rintro (h | ⟨t, h1, h2⟩)
      · exact Or.inl h
      · exact Or.inr ⟨t, h2.symm, (allM_mem b (by omega) t).mp h1⟩
    · rintro (h | ⟨t, h1, h2⟩)
      · exact Or.inl h
      · exact Or.inr ⟨t, (allM_mem b (by omega) t).mpr h2, h1.symm⟩
theorem allM_nd : ∀ b : Nat, b ≤ 16 → (allM b).Nodup
  | 0, _ => by decide +kernel
  | b + 1, hb => by
    rw [allM_s (by omega), List.nodup_append]
    refine ⟨allM_nd b (by omega), ?_, fun x hx y hy hxy => ?_⟩
    · unfold List.Nodup
      rw [List.pairwise_map]
      exact List.Pairwise.imp (fun {x y} (h : x ≠ y) e => h (List.append_cancel_right e)) (allM_nd b (by omega))
    · subst hxy
      obtain ⟨t, -, rfl⟩ := List.mem_map.mp hy
      have := (ris_lt (b : Int) _ 0 ((allM_mem b (by omega) _).mp hx) (b : Int) (by simp)).2
      omega
theorem allP_mem (b : Int) : ∀ (w r : Nat) (L : List Int), (w : Int) ≤ b → (L ∈ allP b w r ↔ ris b (b - w) L ∧ L.length = r)
  | w, 0, L, h => by
    have e : allP b w 0 = [[]] := by cases w <;> rfl
    rw [e, List.mem_singleton]
    constructor
    · rintro rfl; exact ⟨by show b - (w : Int) ≤ b; omega, rfl⟩
    · rintro ⟨-, h2⟩; exact List.length_eq_zero_iff.mp h2
  | 0, r + 1, L, h => by
    show L ∈ ([] : List (List Int)) ↔ _
    constructor
    · intro q; cases q
    · rintro ⟨h1, h2⟩
      cases L with
      | nil => cases h2
      | cons c L =>
        have g1 := h1.1
        have g2 := h1.2.1
        omega
  | w + 1, r + 1, L, h => by
    show L ∈ (allP b w r).map (fun t => (b - ((w + 1 : Nat) : Int)) :: t) ++ allP b w (r + 1) ↔ _
    rw [List.mem_append, List.mem_map, allP_mem b w (r + 1) L (by omega)]
    constructor
    · rintro (⟨t, h1, rfl⟩ | ⟨h1, h2⟩)
      · obtain ⟨g1, g2⟩ := (allP_mem b w r t (by omega)).mp h1
        refine ⟨⟨Int.le_refl _, by omega, ?_⟩, by show t.length + 1 = r + 1; omega⟩
        rw [show b - ((w + 1 : Nat) : Int) + 1 = b - (w : Int) by omega]
        exact g1
      · exact ⟨ris_weak b L _ _ (by omega) h1, h2⟩
    · rintro ⟨h1, h2⟩
      cases L with
      | nil => cases h2
      | cons c L =>
        obtain ⟨g1, g2, g3⟩ := h1
        by_cases e : c = b - ((w + 1 : Nat) : Int)
        · refine Or.inl ⟨L, (allP_mem b w r L (by omega)).mpr ⟨?_, by simpa using h2⟩, by rw [e]⟩
          rw [show b - (w : Int) = c + 1 by omega]
          exact g3
        · exact Or.inr ⟨⟨by omega, g2, g3⟩, h2⟩
/-- the lesser code at the first that differs -/
def lx : List Int → List Int → Prop
  | a :: l, b :: m => a < b ∨ (a = b ∧ lx l m)
  | _, _ => False
theorem lx_irr : ∀ l, ¬ lx l l
  | [] => fun h => h
  | a :: l => fun h => by
    rcases h with h | h
    · omega
    · exact lx_irr l h.2
theorem lx_asym : ∀ l m, lx l m → ¬ lx m l
  | [], _ => fun h => absurd h (by cases ‹List Int› <;> exact fun q => q)
  | a :: l, [] => fun h => absurd h (fun q => q)
  | a :: l, b :: m => fun h q => by
    rcases h with h | ⟨h, h2⟩ <;> rcases q with q | ⟨q, q2⟩
    · omega
    · omega
    · omega
    · exact lx_asym l m h2 q2
theorem allP_lx (b : Int) : ∀ (w r : Nat), (w : Int) ≤ b → (allP b w r).Pairwise lx
  | w, 0, _ => by
    have e : allP b w 0 = [[]] := by cases w <;> rfl
    rw [e]
    exact List.pairwise_singleton _ _
  | 0, r + 1, _ => List.Pairwise.nil
  | w + 1, r + 1, h => by
    show ((allP b w r).map (fun t => (b - ((w + 1 : Nat) : Int)) :: t) ++ allP b w (r + 1)).Pairwise lx
    rw [List.pairwise_append]
    refine ⟨?_, allP_lx b w (r + 1) (by omega), fun x hx y hy => ?_⟩
    · rw [List.pairwise_map]
      exact (allP_lx b w r (by omega)).imp (fun q => Or.inr ⟨rfl, q⟩)
    · obtain ⟨t, -, rfl⟩ := List.mem_map.mp hx
      obtain ⟨g1, g2⟩ := (allP_mem b w (r + 1) y (by omega)).mp hy
      cases y with
      | nil => cases g2
      | cons c y => exact Or.inl (by have := g1.1; omega)
theorem allP_nd {b : Int} {w r : Nat} (h : (w : Int) ≤ b) : (allP b w r).Nodup := by
  unfold List.Nodup
  exact (allP_lx b w r h).imp (fun {x y} (q : lx x y) (e : x = y) => lx_irr x (by rw [← e] at q; exact q))

/-- the plans of both are the same -/
theorem plans_perm {b r : Nat} (hb : b ≤ 16) : List.Perm (allP (b : Int) b r) ((allM b).filter (fun L => decide (L.length = r))) := by
  refine (List.perm_ext_iff_of_nodup (allP_nd (Int.le_refl _)) ((allM_nd b hb).filter _)).mpr (fun L => ?_)
  rw [allP_mem (b : Int) b r L (Int.le_refl _), List.mem_filter, allM_mem b hb, decide_eq_true_eq, show (b : Int) - (b : Int) = 0 by omega]
/-- which of two numbers is ahead -/
def ahd (a b : Int) : Prop := ∃ d : Nat, d < 16 ∧ a.toNat.testBit d = true ∧ b.toNat.testBit d = false ∧ ∀ c, c < d → a.toNat.testBit c = b.toNat.testBit c
theorem ahd_lx {a b : Int} {d : Nat} (h1 : a.toNat.testBit d = true) (h2 : b.toNat.testBit d = false) (h3 : ∀ c, c < d → a.toNat.testBit c = b.toNat.testBit c) : ∀ (n : Nat) (c : Int), 0 ≤ c → c ≤ d → (d : Int) < c + n → (blr a n c).length = (blr b n c).length → lx (blr a n c) (blr b n c)
  | 0, c, _, _, _, _ => by omega
  | n + 1, c, h0, hc, hd, hl => by
    by_cases e : c = d
    · subst e
      have e1 : blr a (n + 1) (d : Int) = (d : Int) :: blr a n ((d : Int) + 1) := by
        show (if a.toNat.testBit ((d : Int)).toNat = true then _ else _) = _
        rw [Int.toNat_natCast, if_pos h1]
      have e2 : blr b (n + 1) (d : Int) = blr b n ((d : Int) + 1) := by
        show (if b.toNat.testBit ((d : Int)).toNat = true then _ else _) = _
        rw [Int.toNat_natCast, if_neg (by rw [h2]; decide)]
      rw [e1, e2] at hl ⊢
      cases hb : blr b n ((d : Int) + 1) with
      | nil => rw [hb] at hl; cases hl
      | cons x t =>
        have := blr_ge b n ((d : Int) + 1) x (by rw [hb]; exact List.mem_cons_self)
        exact Or.inl (by omega)
    · have hbit := h3 c.toNat (by omega)
      have e1 : blr a (n + 1) c = if a.toNat.testBit c.toNat = true then c :: blr a n (c + 1) else blr a n (c + 1) := rfl
      have e2 : blr b (n + 1) c = if a.toNat.testBit c.toNat = true then c :: blr b n (c + 1) else blr b n (c + 1) := by rw [hbit]; rfl
      rw [e1, e2] at hl ⊢
      by_cases q : a.toNat.testBit c.toNat = true
      · rw [if_pos q, if_pos q] at hl ⊢
        exact Or.inr ⟨rfl, ahd_lx h1 h2 h3 n (c + 1) (by omega) (by omega) (by omega) (by simpa using hl)⟩
      · rw [if_neg q, if_neg q] at hl ⊢
        exact ahd_lx h1 h2 h3 n (c + 1) (by omega) (by omega) (by omega) hl
theorem ahd_bl {a b : Int} (h : ahd a b) (hl : (bl a).length = (bl b).length) : lx (bl a) (bl b) := by
  obtain ⟨d, h0, h1, h2, h3⟩ := h
  exact ahd_lx h1 h2 h3 16 0 (by omega) (by omega) (by omega) hl
/-- two numbers that differ: one is ahead -/
theorem ahd_tot {a b : Int} (ha : 0 ≤ a ∧ a < 65536) (hb : 0 ≤ b ∧ b < 65536) (h : a ≠ b) : ahd a b ∨ ahd b a := by
  have hex : ∃ d, a.toNat.testBit d ≠ b.toNat.testBit d := by
    by_cases q : ∃ d, a.toNat.testBit d ≠ b.toNat.testBit d
    · exact q
    · exfalso
      apply h
      have : a.toNat = b.toNat := Nat.eq_of_testBit_eq (fun i => Classical.byContradiction (fun z => q ⟨i, z⟩))
      omega
  have hmin : ∃ d, a.toNat.testBit d ≠ b.toNat.testBit d ∧ ∀ c, c < d → a.toNat.testBit c = b.toNat.testBit c := by
    obtain ⟨d, hd⟩ := hex
    induction d using Nat.strongRecOn with
    | _ d ih =>
      by_cases q : ∃ c, c < d ∧ a.toNat.testBit c ≠ b.toNat.testBit c
      · obtain ⟨c, hc, hc2⟩ := q
        exact ih c hc hc2
      · exact ⟨d, hd, fun c hc => Classical.byContradiction (fun z => q ⟨c, hc, z⟩)⟩
  obtain ⟨d, hd, hm⟩ := hmin
  have hd16 : d < 16 := by
    rcases Nat.lt_or_ge d 16 with q | q
    · exact q
    · exfalso
      apply hd
      have p2 : (65536 : Nat) ≤ 2 ^ d := Nat.le_trans (by decide : (65536 : Nat) ≤ 2 ^ 16) (Nat.pow_le_pow_right (by decide) q)
      rw [Nat.testBit_lt_two_pow (by omega), Nat.testBit_lt_two_pow (by omega)]
  cases q : a.toNat.testBit d with
  | true =>
    rw [q] at hd
    exact Or.inl ⟨d, hd16, q, by cases z : b.toNat.testBit d with | true => exact absurd z.symm hd | false => rfl, hm⟩
  | false =>
    rw [q] at hd
    exact Or.inr ⟨d, hd16, by cases z : b.toNat.testBit d with | true => rfl | false => exact absurd z.symm hd, q, fun c hc => (hm c hc).symm⟩
/-- isAhead, by bits -/
theorem ahead_iff {a b : Int} (ha : 0 ≤ a ∧ a < 65536) (hb : 0 ≤ b ∧ b < 65536) : zand (zand a (zxor a b)) (-zxor a b) ≠ 0 ↔ ahd a b := by
  have key : ∀ i, i < 32 → bt (iI (zand (zand a (zxor a b)) (-zxor a b))) i = (bt (iI a) i && (bt (iI a) i ^^ bt (iI b) i) && ((bt (iI a) i ^^ bt (iI b) i) ^^ decide (∃ j, j < i ∧ (bt (iI a) j ^^ bt (iI b) j) = true))) := by
    intro i hi
    unfold zand
    rw [← iI_of, b_and, ← iI_of, b_and, ← iI_neg]
    have hx : iI (zxor a b) = iI a ^^^ iI b := by unfold zxor; rw [← iI_of]
    rw [hx, b_xor]
    congr 1
    unfold bt
    rw [Int32.toBitVec_neg, BitVec.getLsbD_neg]
    have e : (∃ j, j < i ∧ (iI a ^^^ iI b).toBitVec.getLsbD j = true) ↔ (∃ j, j < i ∧ ((iI a).toBitVec.getLsbD j ^^ (iI b).toBitVec.getLsbD j) = true) := by
      constructor
      · rintro ⟨j, h1, h2⟩; exact ⟨j, h1, by rw [← BitVec.getLsbD_xor, ← Int32.toBitVec_xor]; exact h2⟩
      · rintro ⟨j, h1, h2⟩; exact ⟨j, h1, by rw [Int32.toBitVec_xor, BitVec.getLsbD_xor]; exact h2⟩
    rw [Int32.toBitVec_xor, BitVec.getLsbD_xor]
    rw [Int32.toBitVec_xor] at e
    simp only [hi, decide_true, Bool.true_and, e]
  have hr : inR (zand (zand a (zxor a b)) (-zxor a b)) := inR_of _
  have hz : zand (zand a (zxor a b)) (-zxor a b) ≠ 0 ↔ ∃ i, i < 32 ∧ bt (iI (zand (zand a (zxor a b)) (-zxor a b))) i = true := by
    constructor
    · intro h
      refine Classical.byContradiction (fun q => h ?_)
      have : iI (zand (zand a (zxor a b)) (-zxor a b)) = iI 0 := by
        apply b_ext
        intro i hi
        have h1 : bt (iI (zand (zand a (zxor a b)) (-zxor a b))) i = false := Bool.eq_false_iff.mpr (fun z => q ⟨i, hi, z⟩)
        rw [h1, bt_iI (by omega) hi]
        simp
      exact (iI_eq hr ⟨by omega, by omega⟩).mp this
    · rintro ⟨i, hi, h⟩ q
      rw [q, bt_iI (by omega) hi] at h
      simp at h
  rw [hz]
  constructor
  · rintro ⟨i, hi, h⟩
    rw [key i hi, bt_iI ha.1 hi, bt_iI hb.1 hi] at h
    simp only [Bool.and_eq_true] at h
    obtain ⟨⟨h1, h2⟩, h3⟩ := h
    rw [h1] at h2
    have hb0 : b.toNat.testBit i = false := by
      cases z : b.toNat.testBit i with
      | true => rw [z] at h2; cases h2
      | false => rfl
    rw [h1, hb0] at h3
    have hno : ¬ ∃ j, j < i ∧ (bt (iI a) j ^^ bt (iI b) j) = true := by
      intro z
      rw [decide_eq_true z] at h3
      cases h3
    have hi16 : i < 16 := by
      rcases Nat.lt_or_ge i 16 with q | q
      · exact q
      · exfalso
        have p2 : (65536 : Nat) ≤ 2 ^ i := Nat.le_trans (by decide : (65536 : Nat) ≤ 2 ^ 16) (Nat.pow_le_pow_right (by decide) q)
        rw [Nat.testBit_lt_two_pow (by omega)] at h1
        cases h1
    refine ⟨i, hi16, h1, hb0, fun c hc => ?_⟩
    have hn : (bt (iI a) c ^^ bt (iI b) c) = false := Bool.eq_false_iff.mpr (fun z => hno ⟨c, hc, z⟩)
    rw [bt_iI ha.1 (by omega), bt_iI hb.1 (by omega)] at hn
    cases z1 : a.toNat.testBit c <;> cases z2 : b.toNat.testBit c <;> rw [z1, z2] at hn <;> first | rfl | cases hn
  · rintro ⟨d, h0, h1, h2, h3⟩
    refine ⟨d, by omega, ?_⟩
    rw [key d (by omega), bt_iI ha.1 (by omega), bt_iI hb.1 (by omega), h1, h2]
    have hno : ¬ ∃ j, j < d ∧ (bt (iI a) j ^^ bt (iI b) j) = true := by
      rintro ⟨j, hj, hj2⟩
      rw [bt_iI ha.1 (by omega), bt_iI hb.1 (by omega), h3 j hj] at hj2
      cases z : b.toNat.testBit j <;> rw [z] at hj2 <;> cases hj2
    rw [decide_eq_false hno]
    rfl
theorem shl_one : ∀ p : Nat, p ≤ 16 → zshl 1 (p : Int) = ((2 ^ p : Nat) : Int) := by decide +kernel
