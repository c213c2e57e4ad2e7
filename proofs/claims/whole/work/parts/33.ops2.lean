/-- what is kept of a best plan -/
def BI (lt mn vs : Int) (pt tk mr od rm : Int → Int) (kp kv pn le ti : Int) (bc fp fc : Int → Int) : Prop :=
  ((∀ j, 0 ≤ bc j ∧ bc j ≤ 63) ∧ (∀ j, 0 ≤ fp j ∧ fp j ≤ 9) ∧ (∀ j, 0 ≤ fc j ∧ fc j ≤ 63)) ∧ ((0 ≤ kp ∧ kp ≤ 3) ∧ 0 ≤ kv ∧ kv ≤ vs) ∧ (1 ≤ kp → kv = vs → BestR lt mn pt tk mr od rm kp pn le ti bc)
theorem BI_new {lt mn vs : Int} {pt tk mr od rm : Int → Int} {k pn le ti : Int} {bc fp fc : Int → Int} (hk : 1 ≤ k ∧ k ≤ 3) (hv : 0 ≤ vs) (h : BestR lt mn pt tk mr od rm k pn le ti bc ∧ ((∀ j, 0 ≤ bc j ∧ bc j ≤ 63) ∧ (∀ j, 0 ≤ fp j ∧ fp j ≤ 9) ∧ (∀ j, 0 ≤ fc j ∧ fc j ≤ 63))) : BI lt mn vs pt tk mr od rm k vs pn le ti bc fp fc := ⟨h.2, ⟨⟨by omega, by omega⟩, hv, Int.le_refl _⟩, fun _ _ => h.1⟩
/-- nothing is spilled but what is misread -/
def clF (lt mn : Int) (pt tk mr od rm : Int → Int) (k : Int) : Prop := pw mn k.toNat ≤ 16 ∧ ∃ Y ∈ plsA mn k (usd (hasI pt lt) od 10).length, FitL (fun i => wS pt tk mr lt (lg (usd (hasI pt lt) od 10) i)) rm mn k.toNat Y
theorem kept_or {f0 f1 : Int} (h0 : f0 = 0 ∨ f0 = 1) (h1 : f1 = 0 ∨ f1 = 1) : zor (f0 + 2 * f1) (zshl 1 0) = 1 + 2 * f1 ∧ zor (f0 + 2 * f1) (zshl 1 1) = f0 + 2 * 1 := by
  rcases h0 with rfl | rfl <;> rcases h1 with rfl | rfl <;> decide +kernel
theorem kept_at {f0 f1 : Int} (h0 : f0 = 0 ∨ f0 = 1) (h1 : f1 = 0 ∨ f1 = 1) : zand (zshr (f0 + 2 * f1) 0) 1 = f0 ∧ zand (zshr (f0 + 2 * f1) 1) 1 = f1 := by
  rcases h0 with rfl | rfl <;> rcases h1 with rfl | rfl <;> decide +kernel
