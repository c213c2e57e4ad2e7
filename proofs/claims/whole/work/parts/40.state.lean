/-! ===== the state of the reference: all in one row ===== -/
def stF (lt mn : Int) (pt tk mr od rm cd : Int → Int) : Int → Int := fun i => if i < 10 then od i else if i < 20 then cd (i - 10) else if i < 24 then rm (i - 20) else if i = 24 then mn else if i = 25 then lt else if i < 50 then pt (i - 26) else if i < 74 then tk (i - 50) else mr (i - 74)
section STF
variable {lt mn : Int} {pt tk mr od rm cd : Int → Int}
theorem stF_od {i j : Int} (h : i = 0 + j) (h0 : 0 ≤ j) (h1 : j < 10) : stF lt mn pt tk mr od rm cd i = od j := by
  unfold stF
  (repeat' split) <;> first | omega | (congr 1; omega)
theorem stF_cd {i j : Int} (h : i = 10 + j) (h0 : 0 ≤ j) (h1 : j < 10) : stF lt mn pt tk mr od rm cd i = cd j := by
  unfold stF
  (repeat' split) <;> first | omega | (congr 1; omega)
theorem stF_rm {i j : Int} (h : i = 20 + j) (h0 : 0 ≤ j) (h1 : j < 4) : stF lt mn pt tk mr od rm cd i = rm j := by
  unfold stF
  (repeat' split) <;> first | omega | (congr 1; omega)
theorem stF_pt {i j : Int} (h : i = 26 + j) (h0 : 0 ≤ j) (h1 : j < 24) : stF lt mn pt tk mr od rm cd i = pt j := by
  unfold stF
  (repeat' split) <;> first | omega | (congr 1; omega)
theorem stF_tk {i j : Int} (h : i = 50 + j) (h0 : 0 ≤ j) (h1 : j < 24) : stF lt mn pt tk mr od rm cd i = tk j := by
  unfold stF
  (repeat' split) <;> first | omega | (congr 1; omega)
theorem stF_mr {i j : Int} (h : i = 74 + j) (h0 : 0 ≤ j) (h1 : j < 24) : stF lt mn pt tk mr od rm cd i = mr j := by
  unfold stF
  (repeat' split) <;> first | omega | (congr 1; omega)
theorem stF_mn {i : Int} (h : i = 24) : stF lt mn pt tk mr od rm cd i = mn := by
  unfold stF
  (repeat' split) <;> first | omega | rfl
theorem stF_lt {i : Int} (h : i = 25) : stF lt mn pt tk mr od rm cd i = lt := by
  unfold stF
  (repeat' split) <;> first | omega | rfl
theorem stU_od {i j v : Int} (h : i = 0 + j) (h0 : 0 ≤ j) (h1 : j < 10) : ud (stF lt mn pt tk mr od rm cd) i v = stF lt mn pt tk mr (ud od j v) rm cd := by
  funext x
  unfold ud stF
  by_cases e : x = i
  · rw [if_pos e]
    (repeat' split) <;> first | omega | rfl | exact (if_pos (by omega)).symm | exact (if_neg (by omega)).symm
  · rw [if_neg e]
    (repeat' split) <;> first | omega | rfl | exact (if_pos (by omega)).symm | exact (if_neg (by omega)).symm
theorem stU_cd {i j v : Int} (h : i = 10 + j) (h0 : 0 ≤ j) (h1 : j < 10) : ud (stF lt mn pt tk mr od rm cd) i v = stF lt mn pt tk mr od rm (ud cd j v) := by
  funext x
  unfold ud stF
  by_cases e : x = i
  · rw [if_pos e]
    (repeat' split) <;> first | omega | rfl | exact (if_pos (by omega)).symm | exact (if_neg (by omega)).symm
  · rw [if_neg e]
    (repeat' split) <;> first | omega | rfl | exact (if_pos (by omega)).symm | exact (if_neg (by omega)).symm
theorem stU_rm {i j v : Int} (h : i = 20 + j) (h0 : 0 ≤ j) (h1 : j < 4) : ud (stF lt mn pt tk mr od rm cd) i v = stF lt mn pt tk mr od (ud rm j v) cd := by
  funext x
  unfold ud stF
  by_cases e : x = i
  · rw [if_pos e]
    (repeat' split) <;> first | omega | rfl | exact (if_pos (by omega)).symm | exact (if_neg (by omega)).symm
  · rw [if_neg e]
    (repeat' split) <;> first | omega | rfl | exact (if_pos (by omega)).symm | exact (if_neg (by omega)).symm
theorem stU_pt {i j v : Int} (h : i = 26 + j) (h0 : 0 ≤ j) (h1 : j < 24) : ud (stF lt mn pt tk mr od rm cd) i v = stF lt mn (ud pt j v) tk mr od rm cd := by
  funext x
  unfold ud stF
  by_cases e : x = i
  · rw [if_pos e]
    (repeat' split) <;> first | omega | rfl | exact (if_pos (by omega)).symm | exact (if_neg (by omega)).symm
  · rw [if_neg e]
    (repeat' split) <;> first | omega | rfl | exact (if_pos (by omega)).symm | exact (if_neg (by omega)).symm
theorem stU_tk {i j v : Int} (h : i = 50 + j) (h0 : 0 ≤ j) (h1 : j < 24) : ud (stF lt mn pt tk mr od rm cd) i v = stF lt mn pt (ud tk j v) mr od rm cd := by
  funext x
  unfold ud stF
  by_cases e : x = i
  · rw [if_pos e]
    (repeat' split) <;> first | omega | rfl | exact (if_pos (by omega)).symm | exact (if_neg (by omega)).symm
  · rw [if_neg e]
    (repeat' split) <;> first | omega | rfl | exact (if_pos (by omega)).symm | exact (if_neg (by omega)).symm
theorem stU_mr {i j v : Int} (h : i = 74 + j) (h0 : 0 ≤ j) (h1 : j < 24) : ud (stF lt mn pt tk mr od rm cd) i v = stF lt mn pt tk (ud mr j v) od rm cd := by
  funext x
  unfold ud stF
  by_cases e : x = i
  · rw [if_pos e]
    (repeat' split) <;> first | omega | rfl | exact (if_pos (by omega)).symm | exact (if_neg (by omega)).symm
  · rw [if_neg e]
    (repeat' split) <;> first | omega | rfl | exact (if_pos (by omega)).symm | exact (if_neg (by omega)).symm
theorem stU_mn {i v : Int} (h : i = 24) : ud (stF lt mn pt tk mr od rm cd) i v = stF lt v pt tk mr od rm cd := by
  funext x
  unfold ud stF
  by_cases e : x = i
  · rw [if_pos e]
    (repeat' split) <;> first | omega | rfl | exact (if_pos (by omega)).symm | exact (if_neg (by omega)).symm
  · rw [if_neg e]
    (repeat' split) <;> first | omega | rfl | exact (if_pos (by omega)).symm | exact (if_neg (by omega)).symm
theorem stU_lt {i v : Int} (h : i = 25) : ud (stF lt mn pt tk mr od rm cd) i v = stF v mn pt tk mr od rm cd := by
  funext x
  unfold ud stF
  by_cases e : x = i
  · rw [if_pos e]
    (repeat' split) <;> first | omega | rfl | exact (if_pos (by omega)).symm | exact (if_neg (by omega)).symm
  · rw [if_neg e]
    (repeat' split) <;> first | omega | rfl | exact (if_pos (by omega)).symm | exact (if_neg (by omega)).symm
end STF
