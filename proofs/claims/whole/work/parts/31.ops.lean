/-! ===== what each call answers ===== -/
def fLetter (lt q t : Int) : Int := if q < 0 ∨ 9 < q then -1 else if t < 1 ∨ 9 < t then -2 else if 24 ≤ lt then -4 else lt
def fMisread (lt : Int) (mr : Int → Int) (i v : Int) : Int := if i < 0 ∨ lt ≤ i then -1 else if v < 0 ∨ 1 < v then -2 else sumTo (ud mr i v) lt.toNat
def fDrop (lt i : Int) : Int := if i < 0 ∨ lt ≤ i then -1 else lt - 1
def fChange (pl : Int → Int) (qa qb : Int) : Int := if (qa < 0 ∨ 9 < qa) ∨ (qb < 0 ∨ 9 < qb) then -1 else pl qb
def fWalk (od : Int → Int) (i : Int) : Int := if i < 0 ∨ 9 < i then -2 else od i
def fStackers (mn v : Int) : Int := if v < 2 ∨ 4 < v then -2 else mn
def fRoom (mn : Int) (rm : Int → Int) (i v : Int) : Int := if i < 0 ∨ mn ≤ i then -1 else if v < 1 ∨ 99 < v then -2 else rm i
def fCode (cd : Int → Int) (q v : Int) : Int := if q < 0 ∨ 9 < q then -1 else if v < 0 ∨ 63 < v then -2 else cd q
def fOf (lt : Int) (pt tk mr : Int → Int) (i v : Int) : Int := if i < 0 ∨ lt ≤ i then -1 else if v = 0 then pt i else if v = 1 then tk i else if v = 2 then mr i else -2
def fRun (lt mn : Int) (pt tk mr pl rm cd : Int → Int) (k v : Int) : Int := if (k < 1 ∨ 3 < k) ∨ (v < 0 ∨ 3 < v) then -2 else if v = 0 then ((rnS lt mn pt tk mr rm cd k.toNat).1.length : Int) else if v = 1 then lt - ((rnS lt mn pt tk mr rm cd k.toNat).1.length : Int) else if v = 2 then wrS (fun i => pl (pt (lg (rnS lt mn pt tk mr rm cd k.toNat).1 i))) (rnS lt mn pt tk mr rm cd k.toNat).1.length else sumTo (fun l => if (rnS lt mn pt tk mr rm cd k.toNat).2.1 l = k then 1 else 0) lt.toNat
def fOut (lt mn : Int) (pt tk mr rm cd : Int → Int) (k i : Int) : Int := if k < 1 ∨ 3 < k then -2 else if 0 ≤ i ∧ i < ((rnS lt mn pt tk mr rm cd k.toNat).1.length : Int) then lg (rnS lt mn pt tk mr rm cd k.toNat).1 i else -6
def fSpilled (lt mn : Int) (pt tk mr rm cd : Int → Int) (k i : Int) : Int := if k < 1 ∨ 3 < k then -2 else if i < 0 ∨ lt ≤ i then -1 else (rnS lt mn pt tk mr rm cd k.toNat).2.1 i
def fLoad (lt mn : Int) (pt tk mr rm cd : Int → Int) (k i : Int) : Int := if k < 1 ∨ 3 < k then -2 else if i < 0 ∨ mn ≤ i then -1 else (rnS lt mn pt tk mr rm cd k.toNat).2.2 i
def fBest (lt mn : Int) (pt tk mr od rm : Int → Int) (k v : Int) : Int := if (k < 1 ∨ 3 < k) ∨ ((v < 0 ∨ 2 < v) ∧ (v < 10 ∨ 19 < v)) then -2 else if 16 < pw mn k.toNat then -5 else if v = 2 then ((plsA mn k (usd (hasI pt lt) od 10).length).length : Int) else if ((plsA mn k (usd (hasI pt lt) od 10).length).length : Int) = 0 then -6 else if v = 0 then (bsF lt mn pt tk mr rm (usd (hasI pt lt) od 10) k (plsA mn k (usd (hasI pt lt) od 10).length)).1 else if v = 1 then (bsF lt mn pt tk mr rm (usd (hasI pt lt) od 10) k (plsA mn k (usd (hasI pt lt) od 10).length)).2.1 else if hasI pt lt (v - 10) = 1 then asg (usd (hasI pt lt) od 10) (bsF lt mn pt tk mr rm (usd (hasI pt lt) od 10) k (plsA mn k (usd (hasI pt lt) od 10).length)).2.2 (v - 10) else -6
def fTake (lt mn : Int) (pt tk mr od rm : Int → Int) (k : Int) : Int := if k < 1 ∨ 3 < k then -2 else if 16 < pw mn k.toNat then -5 else if ((plsA mn k (usd (hasI pt lt) od 10).length).length : Int) = 0 then -5 else (bsF lt mn pt tk mr rm (usd (hasI pt lt) od 10) k (plsA mn k (usd (hasI pt lt) od 10).length)).1
def fCount (lt mn : Int) (pt tk mr rm cd : Int → Int) (ki v : Int) : Int := if 10 ≤ v ∧ v ≤ 19 then cd (v - 10) else if v = 0 then lt else if v = 1 then sumTo mr lt.toNat else if v = 2 then sumTo (hasI pt lt) 10 else if v = 3 then mn else if v = 4 then sumTo tk lt.toNat else if v = 5 then sumTo rm mn.toNat else if v = 6 then ki else -2
theorem swap_pl {pl : Int → Int} {a b : Int} : ud (ud pl a (pl b)) b (pl a) a = pl b ∧ ud (ud pl a (pl b)) b (pl a) b = pl a := by
  refine ⟨?_, ud_at _ _ _⟩
  by_cases e : a = b
  · subst e; rw [ud_at]
  · rw [ud_ne e, ud_at]
theorem tkC_congr {hs pn pn' cd : Int → Int} {n : Int} (h : ∀ q, 0 ≤ q → q < n → hs q = 1 → pn q = pn' q) : tkC hs pn cd n = tkC hs pn' cd n := by
  funext q
  unfold tkC
  by_cases z : (0 ≤ q ∧ q < n) ∧ hs q = 1
  · rw [if_pos z, if_pos z, h q z.1.1 z.1.2 z.2]
  · rw [if_neg z, if_neg z]
theorem rn_sa (lt mn : Int) (pt tk mr rm cd : Int → Int) (hmr : ∀ j, 0 ≤ mr j ∧ mr j ≤ 1) : ∀ (j : Nat) (l : Int), 0 ≤ (rnS lt mn pt tk mr rm cd j).2.1 l ∧ (rnS lt mn pt tk mr rm cd j).2.1 l ≤ max 1 (j : Int)
  | 0, l => by
    have := hmr l
    show 0 ≤ mr l ∧ mr l ≤ max 1 ((0 : Nat) : Int)
    omega
  | j + 1, l => by
    have := rn_sa lt mn pt tk mr rm cd hmr j l
    show 0 ≤ (if l ∈ _ then ((j + 1 : Nat) : Int) else (rnS lt mn pt tk mr rm cd j).2.1 l) ∧ (if l ∈ _ then ((j + 1 : Nat) : Int) else (rnS lt mn pt tk mr rm cd j).2.1 l) ≤ max 1 ((j + 1 : Nat) : Int)
    split <;> omega
theorem run_w {lt mn : Int} {pt tk mr pl rm cd : Int → Int} {k v r cm : Int} {or sa ld : Int → Int} (hk : 1 ≤ k ∧ k ≤ 3) (hv : v = 2) (h : RnP lt mn pt tk mr rm cd k.toNat cm or sa ld) (hr : r = wrS (fun i => pl (pt (or i))) cm.toNat) : r = fRun lt mn pt tk mr pl rm cd k v := by
  subst hv
  unfold fRun
  rw [if_neg (by omega), if_neg (by omega), if_neg (by omega), if_pos rfl, hr]
  have hc := RnP_cm h
  rw [show cm.toNat = (rnS lt mn pt tk mr rm cd k.toNat).1.length by omega]
  refine wrS_congr (fun i q1 q2 => ?_)
  show pl (pt (or i)) = pl (pt (lg _ i))
  rw [lst_lg h.2.1 q1 (by omega)]
theorem run_s {lt mn : Int} {pt tk mr pl rm cd : Int → Int} {k v r cm : Int} {or sa ld : Int → Int} (hk : 1 ≤ k ∧ k ≤ 3) (hv : v = 3) (h : RnP lt mn pt tk mr rm cd k.toNat cm or sa ld) (hr : r = sumTo (fun l => if sa l = k then 1 else 0) lt.toNat) : r = fRun lt mn pt tk mr pl rm cd k v := by
  subst hv
  unfold fRun
  rw [if_neg (by omega), if_neg (by omega), if_neg (by omega), if_neg (by omega), hr]
  refine sumTo_congr (fun l q1 q2 => ?_)
  show (if sa l = k then (1 : Int) else 0) = _
  rw [h.2.2.1 l q1 (by omega)]
