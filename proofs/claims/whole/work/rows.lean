section
-- ===== PART A: goes FIRST, ahead of the names: the tables' words, and 'selects' of the private methods out of them =====
/-- a private method of a class that the tables say can be made, by its rows of tables_1 -/
def lw_okq (q : MethodName × Nat) : Prop := (q.1.cls ≠ "java/lang/invoke/MethodHandle" ∧ q.1.cls ≠ "java/lang/invoke/VarHandle") ∧ Cond.instantiable q.1.cls q.2 ∈ tables_1 ∧ Cond.privateMethod q.1 ∈ tables_1 ∧ Cond.instanceMethod q.1 ∈ tables_1
theorem lw_p0 : lw_okq (⟨"WalkPasses", "isLetter", "(I)Z"⟩, 6) := ⟨⟨by decide +kernel, by decide +kernel⟩, List.mem_of_getElem? (i := 12) (by decide +kernel), List.mem_of_getElem? (i := 240) (by decide +kernel), List.mem_of_getElem? (i := 241) (by decide +kernel)⟩
theorem lw_p1 : lw_okq (⟨"WalkPasses", "isStacker", "(I)Z"⟩, 6) := ⟨⟨by decide +kernel, by decide +kernel⟩, List.mem_of_getElem? (i := 12) (by decide +kernel), List.mem_of_getElem? (i := 287) (by decide +kernel), List.mem_of_getElem? (i := 288) (by decide +kernel)⟩
theorem lw_p2 : lw_okq (⟨"WalkPasses$Passes", "begin", "(LWalkPasses$Desk;)V"⟩, 7) := ⟨⟨by decide +kernel, by decide +kernel⟩, List.mem_of_getElem? (i := 87) (by decide +kernel), List.mem_of_getElem? (i := 330) (by decide +kernel), List.mem_of_getElem? (i := 331) (by decide +kernel)⟩
theorem lw_p3 : lw_okq (⟨"WalkPasses$Passes", "aim", "([III)V"⟩, 7) := ⟨⟨by decide +kernel, by decide +kernel⟩, List.mem_of_getElem? (i := 87) (by decide +kernel), List.mem_of_getElem? (i := 334) (by decide +kernel), List.mem_of_getElem? (i := 335) (by decide +kernel)⟩
theorem lw_p4 : lw_okq (⟨"WalkPasses$Passes", "stack", "(LWalkPasses$Desk;I)V"⟩, 7) := ⟨⟨by decide +kernel, by decide +kernel⟩, List.mem_of_getElem? (i := 87) (by decide +kernel), List.mem_of_getElem? (i := 341) (by decide +kernel), List.mem_of_getElem? (i := 342) (by decide +kernel)⟩
theorem lw_p5 : lw_okq (⟨"WalkPasses$Passes", "sweep", "(I)V"⟩, 7) := ⟨⟨by decide +kernel, by decide +kernel⟩, List.mem_of_getElem? (i := 87) (by decide +kernel), List.mem_of_getElem? (i := 346) (by decide +kernel), List.mem_of_getElem? (i := 347) (by decide +kernel)⟩
theorem lw_p6 : lw_okq (⟨"WalkPasses", "hasPlanCodes", "(I)Z"⟩, 6) := ⟨⟨by decide +kernel, by decide +kernel⟩, List.mem_of_getElem? (i := 12) (by decide +kernel), List.mem_of_getElem? (i := 388) (by decide +kernel), List.mem_of_getElem? (i := 389) (by decide +kernel)⟩
theorem lw_p7 : lw_okq (⟨"WalkPasses$Best", "search", "(LWalkPasses$Desk;I)V"⟩, 8) := ⟨⟨by decide +kernel, by decide +kernel⟩, List.mem_of_getElem? (i := 121) (by decide +kernel), List.mem_of_getElem? (i := 399) (by decide +kernel), List.mem_of_getElem? (i := 400) (by decide +kernel)⟩
theorem lw_p8 : lw_okq (⟨"WalkPasses$Best", "compare", "(I)V"⟩, 8) := ⟨⟨by decide +kernel, by decide +kernel⟩, List.mem_of_getElem? (i := 121) (by decide +kernel), List.mem_of_getElem? (i := 410) (by decide +kernel), List.mem_of_getElem? (i := 411) (by decide +kernel)⟩
theorem lw_p9 : lw_okq (⟨"WalkPasses$Plans", "raise", "(I)V"⟩, 4) := ⟨⟨by decide +kernel, by decide +kernel⟩, List.mem_of_getElem? (i := 127) (by decide +kernel), List.mem_of_getElem? (i := 422) (by decide +kernel), List.mem_of_getElem? (i := 423) (by decide +kernel)⟩
theorem lw_p10 : lw_okq (⟨"WalkPasses$Weights", "weigh", "(LWalkPasses$Desk;)V"⟩, 4) := ⟨⟨by decide +kernel, by decide +kernel⟩, List.mem_of_getElem? (i := 181) (by decide +kernel), List.mem_of_getElem? (i := 443) (by decide +kernel), List.mem_of_getElem? (i := 444) (by decide +kernel)⟩
theorem lw_p11 : lw_okq (⟨"WalkPasses$Weights", "countFitting", "([III)I"⟩, 4) := ⟨⟨by decide +kernel, by decide +kernel⟩, List.mem_of_getElem? (i := 181) (by decide +kernel), List.mem_of_getElem? (i := 449) (by decide +kernel), List.mem_of_getElem? (i := 450) (by decide +kernel)⟩
theorem lw_p12 : lw_okq (⟨"WalkPasses$Weights", "empty", "(I)V"⟩, 4) := ⟨⟨by decide +kernel, by decide +kernel⟩, List.mem_of_getElem? (i := 181) (by decide +kernel), List.mem_of_getElem? (i := 453) (by decide +kernel), List.mem_of_getElem? (i := 454) (by decide +kernel)⟩
theorem lw_p13 : lw_okq (⟨"WalkPasses$Weights", "pointFits", "(I[III)Z"⟩, 4) := ⟨⟨by decide +kernel, by decide +kernel⟩, List.mem_of_getElem? (i := 181) (by decide +kernel), List.mem_of_getElem? (i := 457) (by decide +kernel), List.mem_of_getElem? (i := 458) (by decide +kernel)⟩
theorem lw_p14 : lw_okq (⟨"WalkPassesModel", "isLetter", "(I)Z"⟩, 16) := ⟨⟨by decide +kernel, by decide +kernel⟩, List.mem_of_getElem? (i := 506) (by decide +kernel), List.mem_of_getElem? (i := 576) (by decide +kernel), List.mem_of_getElem? (i := 577) (by decide +kernel)⟩
theorem lw_p15 : lw_okq (⟨"WalkPassesModel", "misreads", "()I"⟩, 16) := ⟨⟨by decide +kernel, by decide +kernel⟩, List.mem_of_getElem? (i := 506) (by decide +kernel), List.mem_of_getElem? (i := 580) (by decide +kernel), List.mem_of_getElem? (i := 581) (by decide +kernel)⟩
def lw_privs_1 : List (MethodName × Nat) := [(⟨"WalkPasses", "isLetter", "(I)Z"⟩, 6), (⟨"WalkPasses", "isStacker", "(I)Z"⟩, 6), (⟨"WalkPasses$Passes", "begin", "(LWalkPasses$Desk;)V"⟩, 7), (⟨"WalkPasses$Passes", "aim", "([III)V"⟩, 7), (⟨"WalkPasses$Passes", "stack", "(LWalkPasses$Desk;I)V"⟩, 7), (⟨"WalkPasses$Passes", "sweep", "(I)V"⟩, 7), (⟨"WalkPasses", "hasPlanCodes", "(I)Z"⟩, 6), (⟨"WalkPasses$Best", "search", "(LWalkPasses$Desk;I)V"⟩, 8), (⟨"WalkPasses$Best", "compare", "(I)V"⟩, 8), (⟨"WalkPasses$Plans", "raise", "(I)V"⟩, 4), (⟨"WalkPasses$Weights", "weigh", "(LWalkPasses$Desk;)V"⟩, 4), (⟨"WalkPasses$Weights", "countFitting", "([III)I"⟩, 4), (⟨"WalkPasses$Weights", "empty", "(I)V"⟩, 4), (⟨"WalkPasses$Weights", "pointFits", "(I[III)Z"⟩, 4), (⟨"WalkPassesModel", "isLetter", "(I)Z"⟩, 16), (⟨"WalkPassesModel", "misreads", "()I"⟩, 16)]
theorem lw_r1 : ∀ q ∈ lw_privs_1, lw_okq q := List.forall_mem_cons.mpr ⟨lw_p0, List.forall_mem_cons.mpr ⟨lw_p1, List.forall_mem_cons.mpr ⟨lw_p2, List.forall_mem_cons.mpr ⟨lw_p3, List.forall_mem_cons.mpr ⟨lw_p4, List.forall_mem_cons.mpr ⟨lw_p5, List.forall_mem_cons.mpr ⟨lw_p6, List.forall_mem_cons.mpr ⟨lw_p7, List.forall_mem_cons.mpr ⟨lw_p8, List.forall_mem_cons.mpr ⟨lw_p9, List.forall_mem_cons.mpr ⟨lw_p10, List.forall_mem_cons.mpr ⟨lw_p11, List.forall_mem_cons.mpr ⟨lw_p12, List.forall_mem_cons.mpr ⟨lw_p13, List.forall_mem_cons.mpr ⟨lw_p14, List.forall_mem_cons.mpr ⟨lw_p15, fun _ h => absurd h List.not_mem_nil⟩⟩⟩⟩⟩⟩⟩⟩⟩⟩⟩⟩⟩⟩⟩⟩
theorem lw_p16 : lw_okq (⟨"WalkPassesModel", "placeOf", "(I)I"⟩, 16) := ⟨⟨by decide +kernel, by decide +kernel⟩, List.mem_of_getElem? (i := 506) (by decide +kernel), List.mem_of_getElem? (i := 592) (by decide +kernel), List.mem_of_getElem? (i := 593) (by decide +kernel)⟩
theorem lw_p17 : lw_okq (⟨"WalkPassesModel", "isStacker", "(I)Z"⟩, 16) := ⟨⟨by decide +kernel, by decide +kernel⟩, List.mem_of_getElem? (i := 506) (by decide +kernel), List.mem_of_getElem? (i := 608) (by decide +kernel), List.mem_of_getElem? (i := 609) (by decide +kernel)⟩
theorem lw_p18 : lw_okq (⟨"WalkPassesModel", "isUsed", "(I)Z"⟩, 16) := ⟨⟨by decide +kernel, by decide +kernel⟩, List.mem_of_getElem? (i := 506) (by decide +kernel), List.mem_of_getElem? (i := 620) (by decide +kernel), List.mem_of_getElem? (i := 621) (by decide +kernel)⟩
theorem lw_p19 : lw_okq (⟨"WalkPassesModel", "goRun", "(I)V"⟩, 16) := ⟨⟨by decide +kernel, by decide +kernel⟩, List.mem_of_getElem? (i := 506) (by decide +kernel), List.mem_of_getElem? (i := 635) (by decide +kernel), List.mem_of_getElem? (i := 636) (by decide +kernel)⟩
theorem lw_p20 : lw_okq (⟨"WalkPassesModel", "pass", "(I)V"⟩, 16) := ⟨⟨by decide +kernel, by decide +kernel⟩, List.mem_of_getElem? (i := 506) (by decide +kernel), List.mem_of_getElem? (i := 639) (by decide +kernel), List.mem_of_getElem? (i := 640) (by decide +kernel)⟩
theorem lw_p21 : lw_okq (⟨"WalkPassesModel", "place", "(II)I"⟩, 16) := ⟨⟨by decide +kernel, by decide +kernel⟩, List.mem_of_getElem? (i := 506) (by decide +kernel), List.mem_of_getElem? (i := 643) (by decide +kernel), List.mem_of_getElem? (i := 644) (by decide +kernel)⟩
theorem lw_p22 : lw_okq (⟨"WalkPassesModel", "figure", "(II)I"⟩, 16) := ⟨⟨by decide +kernel, by decide +kernel⟩, List.mem_of_getElem? (i := 506) (by decide +kernel), List.mem_of_getElem? (i := 647) (by decide +kernel), List.mem_of_getElem? (i := 648) (by decide +kernel)⟩
theorem lw_p23 : lw_okq (⟨"WalkPassesModel", "wrong", "()I"⟩, 16) := ⟨⟨by decide +kernel, by decide +kernel⟩, List.mem_of_getElem? (i := 506) (by decide +kernel), List.mem_of_getElem? (i := 651) (by decide +kernel), List.mem_of_getElem? (i := 652) (by decide +kernel)⟩
theorem lw_p24 : lw_okq (⟨"WalkPassesModel", "spilledIn", "(I)I"⟩, 16) := ⟨⟨by decide +kernel, by decide +kernel⟩, List.mem_of_getElem? (i := 506) (by decide +kernel), List.mem_of_getElem? (i := 655) (by decide +kernel), List.mem_of_getElem? (i := 656) (by decide +kernel)⟩
theorem lw_p25 : lw_okq (⟨"WalkPassesModel", "power", "(I)I"⟩, 16) := ⟨⟨by decide +kernel, by decide +kernel⟩, List.mem_of_getElem? (i := 506) (by decide +kernel), List.mem_of_getElem? (i := 679) (by decide +kernel), List.mem_of_getElem? (i := 680) (by decide +kernel)⟩
theorem lw_p26 : lw_okq (⟨"WalkPassesModel", "layBest", "(I)V"⟩, 16) := ⟨⟨by decide +kernel, by decide +kernel⟩, List.mem_of_getElem? (i := 506) (by decide +kernel), List.mem_of_getElem? (i := 683) (by decide +kernel), List.mem_of_getElem? (i := 684) (by decide +kernel)⟩
theorem lw_p27 : lw_okq (⟨"WalkPassesModel", "usedMany", "()I"⟩, 16) := ⟨⟨by decide +kernel, by decide +kernel⟩, List.mem_of_getElem? (i := 506) (by decide +kernel), List.mem_of_getElem? (i := 687) (by decide +kernel), List.mem_of_getElem? (i := 688) (by decide +kernel)⟩
theorem lw_p28 : lw_okq (⟨"WalkPassesModel", "saveCodes", "()V"⟩, 16) := ⟨⟨by decide +kernel, by decide +kernel⟩, List.mem_of_getElem? (i := 506) (by decide +kernel), List.mem_of_getElem? (i := 691) (by decide +kernel), List.mem_of_getElem? (i := 692) (by decide +kernel)⟩
theorem lw_p29 : lw_okq (⟨"WalkPassesModel", "tryPlan", "(II)V"⟩, 16) := ⟨⟨by decide +kernel, by decide +kernel⟩, List.mem_of_getElem? (i := 506) (by decide +kernel), List.mem_of_getElem? (i := 698) (by decide +kernel), List.mem_of_getElem? (i := 699) (by decide +kernel)⟩
theorem lw_p30 : lw_okq (⟨"WalkPassesModel", "takeCodes", "(I)V"⟩, 16) := ⟨⟨by decide +kernel, by decide +kernel⟩, List.mem_of_getElem? (i := 506) (by decide +kernel), List.mem_of_getElem? (i := 702) (by decide +kernel), List.mem_of_getElem? (i := 703) (by decide +kernel)⟩
theorem lw_p31 : lw_okq (⟨"WalkPassesModel", "loadCodes", "()V"⟩, 16) := ⟨⟨by decide +kernel, by decide +kernel⟩, List.mem_of_getElem? (i := 506) (by decide +kernel), List.mem_of_getElem? (i := 709) (by decide +kernel), List.mem_of_getElem? (i := 710) (by decide +kernel)⟩
def lw_privs_2 : List (MethodName × Nat) := [(⟨"WalkPassesModel", "placeOf", "(I)I"⟩, 16), (⟨"WalkPassesModel", "isStacker", "(I)Z"⟩, 16), (⟨"WalkPassesModel", "isUsed", "(I)Z"⟩, 16), (⟨"WalkPassesModel", "goRun", "(I)V"⟩, 16), (⟨"WalkPassesModel", "pass", "(I)V"⟩, 16), (⟨"WalkPassesModel", "place", "(II)I"⟩, 16), (⟨"WalkPassesModel", "figure", "(II)I"⟩, 16), (⟨"WalkPassesModel", "wrong", "()I"⟩, 16), (⟨"WalkPassesModel", "spilledIn", "(I)I"⟩, 16), (⟨"WalkPassesModel", "power", "(I)I"⟩, 16), (⟨"WalkPassesModel", "layBest", "(I)V"⟩, 16), (⟨"WalkPassesModel", "usedMany", "()I"⟩, 16), (⟨"WalkPassesModel", "saveCodes", "()V"⟩, 16), (⟨"WalkPassesModel", "tryPlan", "(II)V"⟩, 16), (⟨"WalkPassesModel", "takeCodes", "(I)V"⟩, 16), (⟨"WalkPassesModel", "loadCodes", "()V"⟩, 16)]
theorem lw_r2 : ∀ q ∈ lw_privs_2, lw_okq q := List.forall_mem_cons.mpr ⟨lw_p16, List.forall_mem_cons.mpr ⟨lw_p17, List.forall_mem_cons.mpr ⟨lw_p18, List.forall_mem_cons.mpr ⟨lw_p19, List.forall_mem_cons.mpr ⟨lw_p20, List.forall_mem_cons.mpr ⟨lw_p21, List.forall_mem_cons.mpr ⟨lw_p22, List.forall_mem_cons.mpr ⟨lw_p23, List.forall_mem_cons.mpr ⟨lw_p24, List.forall_mem_cons.mpr ⟨lw_p25, List.forall_mem_cons.mpr ⟨lw_p26, List.forall_mem_cons.mpr ⟨lw_p27, List.forall_mem_cons.mpr ⟨lw_p28, List.forall_mem_cons.mpr ⟨lw_p29, List.forall_mem_cons.mpr ⟨lw_p30, List.forall_mem_cons.mpr ⟨lw_p31, fun _ h => absurd h List.not_mem_nil⟩⟩⟩⟩⟩⟩⟩⟩⟩⟩⟩⟩⟩⟩⟩⟩
theorem lw_p32 : lw_okq (⟨"WalkPassesModel", "codeOf", "(I)I"⟩, 16) := ⟨⟨by decide +kernel, by decide +kernel⟩, List.mem_of_getElem? (i := 506) (by decide +kernel), List.mem_of_getElem? (i := 713) (by decide +kernel), List.mem_of_getElem? (i := 714) (by decide +kernel)⟩
theorem lw_p33 : lw_okq (⟨"WalkPassesModel", "isClean", "(I)Z"⟩, 16) := ⟨⟨by decide +kernel, by decide +kernel⟩, List.mem_of_getElem? (i := 506) (by decide +kernel), List.mem_of_getElem? (i := 725) (by decide +kernel), List.mem_of_getElem? (i := 726) (by decide +kernel)⟩
theorem lw_p34 : lw_okq (⟨"WalkPassesModel", "setRooms", "(I)V"⟩, 16) := ⟨⟨by decide +kernel, by decide +kernel⟩, List.mem_of_getElem? (i := 506) (by decide +kernel), List.mem_of_getElem? (i := 733) (by decide +kernel), List.mem_of_getElem? (i := 734) (by decide +kernel)⟩
theorem lw_p35 : lw_okq (⟨"WalkPassesModel", "sumOf", "(II)I"⟩, 16) := ⟨⟨by decide +kernel, by decide +kernel⟩, List.mem_of_getElem? (i := 506) (by decide +kernel), List.mem_of_getElem? (i := 749) (by decide +kernel), List.mem_of_getElem? (i := 750) (by decide +kernel)⟩
def lw_privs_3 : List (MethodName × Nat) := [(⟨"WalkPassesModel", "codeOf", "(I)I"⟩, 16), (⟨"WalkPassesModel", "isClean", "(I)Z"⟩, 16), (⟨"WalkPassesModel", "setRooms", "(I)V"⟩, 16), (⟨"WalkPassesModel", "sumOf", "(II)I"⟩, 16)]
theorem lw_r3 : ∀ q ∈ lw_privs_3, lw_okq q := List.forall_mem_cons.mpr ⟨lw_p32, List.forall_mem_cons.mpr ⟨lw_p33, List.forall_mem_cons.mpr ⟨lw_p34, List.forall_mem_cons.mpr ⟨lw_p35, fun _ h => absurd h List.not_mem_nil⟩⟩⟩⟩
def lw_privs : List (MethodName × Nat) := lw_privs_1 ++ (lw_privs_2 ++ (lw_privs_3))
def lw_tbl : List Cond := k2_sels lw_privs ++ tables_1
theorem lw_privs_ok : ∀ q ∈ lw_privs, lw_okq q := by
  show ∀ q ∈ lw_privs_1 ++ (lw_privs_2 ++ (lw_privs_3)), lw_okq q
  exact List.forall_mem_append.mpr ⟨lw_r1, List.forall_mem_append.mpr ⟨lw_r2, lw_r3⟩⟩
end
section
/-! ===== BEGIN words of one list among another's, by their places ===== -/
theorem goodIn_r {big : List Cond} (ws : List Cond) (ps : List Nat) (hp : ws = ps.filterMap (fun i => big[i]?)) (h : ws.all goodWord = true) : GoodIn big ws := by
  intro w hw
  have h1 := List.all_eq_true.mp h w hw
  rw [hp] at hw
  obtain ⟨i, -, hi⟩ := List.mem_filterMap.mp hw
  have hm : w ∈ big := by first | exact List.mem_of_getElem? hi | exact List.getElem?_mem hi
  exact ⟨hm, good_of_word h1⟩
theorem goodIn_app {big a b : List Cond} (ha : GoodIn big a) (hb : GoodIn big b) : GoodIn big (a ++ b) := fun w h => (List.mem_append.mp h).elim (ha w) (hb w)
theorem goodIn_ca {big a b : List Cond} {c : Cond} (ha : GoodIn big (c :: a)) (hb : GoodIn big b) : GoodIn big (c :: (a ++ b)) := fun w h => (List.mem_cons.mp h).elim (fun e => ha w (List.mem_cons.mpr (Or.inl e))) (fun h => (List.mem_append.mp h).elim (fun h => ha w (List.mem_cons.mpr (Or.inr h))) (hb w))
theorem goodIn_sub {big ws : List Cond} (hm : ∀ w ∈ ws, w ∈ big) (h : ws.all goodWord = true) : GoodIn big ws := fun w hw => ⟨hm w hw, good_of_word (List.all_eq_true.mp h w hw)⟩
/-! ===== END ===== -/
/-! ===== BEGIN printed: names, fields, word lists, decode rows ===== -/
def RX0 : String := "WalkPasses$Best"
def TX0 : u_T := fun k => match k with
  | 0 => ("WalkPasses$Best", "candidates", "LWalkPasses$Plans;", true)
  | 1 => ("WalkPasses$Best", "passes", "LWalkPasses$Passes;", true)
  | 2 => ("WalkPasses$Best", "knownPasses", "I", false)
  | 3 => ("WalkPasses$Best", "knownVersion", "I", false)
  | 4 => ("WalkPasses$Best", "plans", "I", false)
  | 5 => ("WalkPasses$Best", "least", "I", false)
  | 6 => ("WalkPasses$Best", "ties", "I", false)
  | _ => ("WalkPasses$Best", "codes", "[I", true)
def tyX0 : Nat → FieldType := fun k => match k with
  | 0 => .object "WalkPasses$Plans"
  | 1 => .object "WalkPasses$Passes"
  | 2 => .int
  | 3 => .int
  | 4 => .int
  | 5 => .int
  | 6 => .int
  | _ => .array .int
abbrev wsX00 : List Cond := u_ws RX0 TX0 8
theorem nmX0 : ∀ a, a < 8 → ∀ b, b < 8 → a ≠ b → (TX0 a).2.1 ≠ (TX0 b).2.1 := by decide +kernel
theorem tyX0_ok : ∀ k, k < 8 → parseFieldDescriptor (TX0 k).2.2.1 = some (tyX0 k) := by decide +kernel
abbrev cX0_init : ByteArray := prog_2_method_1_code
def yX0_init : MethodName := ⟨RX0, "<init>", "()V"⟩
abbrev cX0_find : ByteArray := prog_2_method_2_code
def yX0_find : MethodName := ⟨RX0, "find", "(LWalkPasses$Desk;I)V"⟩
abbrev cX0_search : ByteArray := prog_2_method_3_code
def yX0_search : MethodName := ⟨RX0, "search", "(LWalkPasses$Desk;I)V"⟩
abbrev cX0_compare : ByteArray := prog_2_method_4_code
def yX0_compare : MethodName := ⟨RX0, "compare", "(I)V"⟩
def RX1 : String := "WalkPasses$Desk"
def TX1 : u_T := fun k => match k with
  | 0 => ("WalkPasses$Desk", "letters", "I", false)
  | 1 => ("WalkPasses$Desk", "points", "[I", true)
  | 2 => ("WalkPasses$Desk", "thicks", "[I", true)
  | 3 => ("WalkPasses$Desk", "misreads", "[I", true)
  | 4 => ("WalkPasses$Desk", "order", "[I", true)
  | 5 => ("WalkPasses$Desk", "places", "[I", true)
  | 6 => ("WalkPasses$Desk", "many", "I", false)
  | 7 => ("WalkPasses$Desk", "rooms", "[I", true)
  | 8 => ("WalkPasses$Desk", "codes", "[I", true)
  | _ => ("WalkPasses$Desk", "version", "I", false)
def tyX1 : Nat → FieldType := fun k => match k with
  | 0 => .int
  | 1 => .array .int
  | 2 => .array .int
  | 3 => .array .int
  | 4 => .array .int
  | 5 => .array .int
  | 6 => .int
  | 7 => .array .int
  | 8 => .array .int
  | _ => .int
abbrev wsX10 : List Cond := u_ws RX1 TX1 10
theorem nmX1 : ∀ a, a < 10 → ∀ b, b < 10 → a ≠ b → (TX1 a).2.1 ≠ (TX1 b).2.1 := by decide +kernel
theorem tyX1_ok : ∀ k, k < 10 → parseFieldDescriptor (TX1 k).2.2.1 = some (tyX1 k) := by decide +kernel
abbrev cX1_init : ByteArray := prog_3_method_1_code
def yX1_init : MethodName := ⟨RX1, "<init>", "()V"⟩
abbrev cX1_add : ByteArray := prog_3_method_2_code
def yX1_add : MethodName := ⟨RX1, "add", "(II)I"⟩
abbrev cX1_mark : ByteArray := prog_3_method_3_code
def yX1_mark : MethodName := ⟨RX1, "mark", "(II)V"⟩
abbrev cX1_remove : ByteArray := prog_3_method_4_code
def yX1_remove : MethodName := ⟨RX1, "remove", "(I)V"⟩
abbrev cX1_swap : ByteArray := prog_3_method_5_code
def yX1_swap : MethodName := ⟨RX1, "swap", "(II)V"⟩
abbrev cX1_setMany : ByteArray := prog_3_method_6_code
def yX1_setMany : MethodName := ⟨RX1, "setMany", "(I)V"⟩
abbrev cX1_setRoom : ByteArray := prog_3_method_7_code
def yX1_setRoom : MethodName := ⟨RX1, "setRoom", "(II)V"⟩
abbrev cX1_codeDensely : ByteArray := prog_3_method_8_code
def yX1_codeDensely : MethodName := ⟨RX1, "codeDensely", "()I"⟩
abbrev cX1_takeCodes : ByteArray := prog_3_method_9_code
def yX1_takeCodes : MethodName := ⟨RX1, "takeCodes", "([I)V"⟩
abbrev cX1_codesRise : ByteArray := prog_3_method_10_code
def yX1_codesRise : MethodName := ⟨RX1, "codesRise", "()Z"⟩
abbrev cX1_hasLetterAt : ByteArray := prog_3_method_11_code
def yX1_hasLetterAt : MethodName := ⟨RX1, "hasLetterAt", "(I)Z"⟩
abbrev cX1_countPoints : ByteArray := prog_3_method_12_code
def yX1_countPoints : MethodName := ⟨RX1, "countPoints", "()I"⟩
abbrev cX1_countMisread : ByteArray := prog_3_method_13_code
def yX1_countMisread : MethodName := ⟨RX1, "countMisread", "()I"⟩
abbrev cX1_addThicks : ByteArray := prog_3_method_14_code
def yX1_addThicks : MethodName := ⟨RX1, "addThicks", "()I"⟩
abbrev cX1_addRooms : ByteArray := prog_3_method_15_code
def yX1_addRooms : MethodName := ⟨RX1, "addRooms", "()I"⟩
abbrev cX1_addFirst : ByteArray := prog_3_method_16_code
def yX1_addFirst : MethodName := ⟨RX1, "addFirst", "([II)I"⟩
abbrev cX1_copyFrom : ByteArray := prog_3_method_17_code
def yX1_copyFrom : MethodName := ⟨RX1, "copyFrom", "(LWalkPasses$Desk;)V"⟩
abbrev cX1_copyRow : ByteArray := prog_3_method_18_code
def yX1_copyRow : MethodName := ⟨RX1, "copyRow", "([I[I)V"⟩
def RX2 : String := "WalkPasses$Passes"
def TX2 : u_T := fun k => match k with
  | 0 => ("WalkPasses$Passes", "order", "[I", true)
  | 1 => ("WalkPasses$Passes", "coming", "I", false)
  | 2 => ("WalkPasses$Passes", "spilledAt", "[I", true)
  | 3 => ("WalkPasses$Passes", "stackerOf", "[I", true)
  | 4 => ("WalkPasses$Passes", "piles", "[[I", true)
  | 5 => ("WalkPasses$Passes", "heights", "[I", true)
  | _ => ("WalkPasses$Passes", "loads", "[I", true)
def tyX2 : Nat → FieldType := fun k => match k with
  | 0 => .array .int
  | 1 => .int
  | 2 => .array .int
  | 3 => .array .int
  | 4 => .array (.array .int)
  | 5 => .array .int
  | _ => .array .int
abbrev wsX20 : List Cond := u_ws RX2 TX2 7
theorem nmX2 : ∀ a, a < 7 → ∀ b, b < 7 → a ≠ b → (TX2 a).2.1 ≠ (TX2 b).2.1 := by decide +kernel
theorem tyX2_ok : ∀ k, k < 7 → parseFieldDescriptor (TX2 k).2.2.1 = some (tyX2 k) := by decide +kernel
abbrev cX2_init : ByteArray := prog_4_method_1_code
def yX2_init : MethodName := ⟨RX2, "<init>", "()V"⟩
abbrev cX2_perform : ByteArray := prog_4_method_2_code
def yX2_perform : MethodName := ⟨RX2, "perform", "(LWalkPasses$Desk;[II)V"⟩
abbrev cX2_countSpilledUpTo : ByteArray := prog_4_method_3_code
def yX2_countSpilledUpTo : MethodName := ⟨RX2, "countSpilledUpTo", "(LWalkPasses$Desk;[III)I"⟩
abbrev cX2_begin : ByteArray := prog_4_method_4_code
def yX2_begin : MethodName := ⟨RX2, "begin", "(LWalkPasses$Desk;)V"⟩
abbrev cX2_aim : ByteArray := prog_4_method_5_code
def yX2_aim : MethodName := ⟨RX2, "aim", "([III)V"⟩
abbrev cX2_stack : ByteArray := prog_4_method_6_code
def yX2_stack : MethodName := ⟨RX2, "stack", "(LWalkPasses$Desk;I)V"⟩
abbrev cX2_sweep : ByteArray := prog_4_method_7_code
def yX2_sweep : MethodName := ⟨RX2, "sweep", "(I)V"⟩
abbrev cX2_countSpilledAt : ByteArray := prog_4_method_8_code
def yX2_countSpilledAt : MethodName := ⟨RX2, "countSpilledAt", "(LWalkPasses$Desk;I)I"⟩
abbrev cX2_countWrong : ByteArray := prog_4_method_9_code
def yX2_countWrong : MethodName := ⟨RX2, "countWrong", "(LWalkPasses$Desk;)I"⟩
def RX3 : String := "WalkPasses$Plans"
def TX3 : u_T := fun k => match k with
  | 0 => ("WalkPasses$Plans", "points", "[I", true)
  | 1 => ("WalkPasses$Plans", "size", "I", false)
  | 2 => ("WalkPasses$Plans", "below", "I", false)
  | _ => ("WalkPasses$Plans", "codes", "[I", true)
def tyX3 : Nat → FieldType := fun k => match k with
  | 0 => .array .int
  | 1 => .int
  | 2 => .int
  | _ => .array .int
abbrev wsX30 : List Cond := u_ws RX3 TX3 4
theorem nmX3 : ∀ a, a < 4 → ∀ b, b < 4 → a ≠ b → (TX3 a).2.1 ≠ (TX3 b).2.1 := by decide +kernel
theorem tyX3_ok : ∀ k, k < 4 → parseFieldDescriptor (TX3 k).2.2.1 = some (tyX3 k) := by decide +kernel
abbrev cX3_init : ByteArray := prog_5_method_1_code
def yX3_init : MethodName := ⟨RX3, "<init>", "()V"⟩
abbrev cX3_begin : ByteArray := prog_5_method_2_code
def yX3_begin : MethodName := ⟨RX3, "begin", "(LWalkPasses$Desk;I)Z"⟩
abbrev cX3_advance : ByteArray := prog_5_method_3_code
def yX3_advance : MethodName := ⟨RX3, "advance", "(I)Z"⟩
abbrev cX3_raise : ByteArray := prog_5_method_4_code
def yX3_raise : MethodName := ⟨RX3, "raise", "(I)V"⟩
def RX4 : String := "WalkPasses$Weights"
def TX4 : u_T := fun k => match k with
  | 0 => ("WalkPasses$Weights", "candidates", "LWalkPasses$Plans;", true)
  | 1 => ("WalkPasses$Weights", "weightOf", "[I", true)
  | 2 => ("WalkPasses$Weights", "loads", "[[I", true)
  | _ => ("WalkPasses$Weights", "limits", "[I", true)
def tyX4 : Nat → FieldType := fun k => match k with
  | 0 => .object "WalkPasses$Plans"
  | 1 => .array .int
  | 2 => .array (.array .int)
  | _ => .array .int
abbrev wsX40 : List Cond := u_ws RX4 TX4 4
theorem nmX4 : ∀ a, a < 4 → ∀ b, b < 4 → a ≠ b → (TX4 a).2.1 ≠ (TX4 b).2.1 := by decide +kernel
theorem tyX4_ok : ∀ k, k < 4 → parseFieldDescriptor (TX4 k).2.2.1 = some (tyX4 k) := by decide +kernel
abbrev cX4_init : ByteArray := prog_6_method_1_code
def yX4_init : MethodName := ⟨RX4, "<init>", "()V"⟩
abbrev cX4_somePlanFits : ByteArray := prog_6_method_2_code
def yX4_somePlanFits : MethodName := ⟨RX4, "somePlanFits", "(LWalkPasses$Desk;I)Z"⟩
abbrev cX4_leastRoom : ByteArray := prog_6_method_3_code
def yX4_leastRoom : MethodName := ⟨RX4, "leastRoom", "(LWalkPasses$Desk;I)I"⟩
abbrev cX4_weigh : ByteArray := prog_6_method_4_code
def yX4_weigh : MethodName := ⟨RX4, "weigh", "(LWalkPasses$Desk;)V"⟩
abbrev cX4_countFitting : ByteArray := prog_6_method_5_code
def yX4_countFitting : MethodName := ⟨RX4, "countFitting", "([III)I"⟩
abbrev cX4_empty : ByteArray := prog_6_method_6_code
def yX4_empty : MethodName := ⟨RX4, "empty", "(I)V"⟩
abbrev cX4_pointFits : ByteArray := prog_6_method_7_code
def yX4_pointFits : MethodName := ⟨RX4, "pointFits", "(I[III)Z"⟩
def RX5 : String := "WalkPasses"
def TX5 : u_T := fun k => match k with
  | 0 => ("WalkPasses", "desk", "LWalkPasses$Desk;", true)
  | 1 => ("WalkPasses", "images", "[LWalkPasses$Desk;", true)
  | 2 => ("WalkPasses", "keptImages", "I", false)
  | 3 => ("WalkPasses", "passes", "LWalkPasses$Passes;", true)
  | 4 => ("WalkPasses", "bestPlan", "LWalkPasses$Best;", true)
  | _ => ("WalkPasses", "weights", "LWalkPasses$Weights;", true)
def tyX5 : Nat → FieldType := fun k => match k with
  | 0 => .object "WalkPasses$Desk"
  | 1 => .array (.object "WalkPasses$Desk")
  | 2 => .int
  | 3 => .object "WalkPasses$Passes"
  | 4 => .object "WalkPasses$Best"
  | _ => .object "WalkPasses$Weights"
abbrev wsX50 : List Cond := u_ws RX5 TX5 6
theorem nmX5 : ∀ a, a < 6 → ∀ b, b < 6 → a ≠ b → (TX5 a).2.1 ≠ (TX5 b).2.1 := by decide +kernel
theorem tyX5_ok : ∀ k, k < 6 → parseFieldDescriptor (TX5 k).2.2.1 = some (tyX5 k) := by decide +kernel
abbrev cX5_init : ByteArray := prog_1_method_1_code
def yX5_init : MethodName := ⟨RX5, "<init>", "()V"⟩
abbrev cX5_letter : ByteArray := prog_1_method_2_code
def yX5_letter : MethodName := ⟨RX5, "letter", "(II)I"⟩
abbrev cX5_misread : ByteArray := prog_1_method_3_code
def yX5_misread : MethodName := ⟨RX5, "misread", "(II)I"⟩
abbrev cX5_drop : ByteArray := prog_1_method_4_code
def yX5_drop : MethodName := ⟨RX5, "drop", "(I)I"⟩
abbrev cX5_change : ByteArray := prog_1_method_5_code
def yX5_change : MethodName := ⟨RX5, "change", "(II)I"⟩
abbrev cX5_walk : ByteArray := prog_1_method_6_code
def yX5_walk : MethodName := ⟨RX5, "walk", "(I)I"⟩
abbrev cX5_stackers : ByteArray := prog_1_method_7_code
def yX5_stackers : MethodName := ⟨RX5, "stackers", "(I)I"⟩
abbrev cX5_room : ByteArray := prog_1_method_8_code
def yX5_room : MethodName := ⟨RX5, "room", "(II)I"⟩
abbrev cX5_code : ByteArray := prog_1_method_9_code
def yX5_code : MethodName := ⟨RX5, "code", "(II)I"⟩
abbrev cX5_dense : ByteArray := prog_1_method_10_code
def yX5_dense : MethodName := ⟨RX5, "dense", "()I"⟩
abbrev cX5_of : ByteArray := prog_1_method_11_code
def yX5_of : MethodName := ⟨RX5, "of", "(II)I"⟩
abbrev cX5_run : ByteArray := prog_1_method_12_code
def yX5_run : MethodName := ⟨RX5, "run", "(II)I"⟩
abbrev cX5_out : ByteArray := prog_1_method_13_code
def yX5_out : MethodName := ⟨RX5, "out", "(II)I"⟩
abbrev cX5_spilled : ByteArray := prog_1_method_14_code
def yX5_spilled : MethodName := ⟨RX5, "spilled", "(II)I"⟩
abbrev cX5_load : ByteArray := prog_1_method_15_code
def yX5_load : MethodName := ⟨RX5, "load", "(II)I"⟩
abbrev cX5_rise : ByteArray := prog_1_method_16_code
def yX5_rise : MethodName := ⟨RX5, "rise", "()I"⟩
abbrev cX5_best : ByteArray := prog_1_method_17_code
def yX5_best : MethodName := ⟨RX5, "best", "(II)I"⟩
abbrev cX5_take : ByteArray := prog_1_method_18_code
def yX5_take : MethodName := ⟨RX5, "take", "(I)I"⟩
abbrev cX5_fewest : ByteArray := prog_1_method_19_code
def yX5_fewest : MethodName := ⟨RX5, "fewest", "()I"⟩
abbrev cX5_needs : ByteArray := prog_1_method_20_code
def yX5_needs : MethodName := ⟨RX5, "needs", "(I)I"⟩
abbrev cX5_image : ByteArray := prog_1_method_21_code
def yX5_image : MethodName := ⟨RX5, "image", "(I)I"⟩
abbrev cX5_restore : ByteArray := prog_1_method_22_code
def yX5_restore : MethodName := ⟨RX5, "restore", "(I)I"⟩
abbrev cX5_count : ByteArray := prog_1_method_23_code
def yX5_count : MethodName := ⟨RX5, "count", "(I)I"⟩
abbrev cX5_isWithin : ByteArray := prog_1_method_24_code
def yX5_isWithin : MethodName := ⟨RX5, "isWithin", "(III)Z"⟩
abbrev cX5_isPoint : ByteArray := prog_1_method_25_code
def yX5_isPoint : MethodName := ⟨RX5, "isPoint", "(I)Z"⟩
abbrev cX5_isLetter : ByteArray := prog_1_method_26_code
def yX5_isLetter : MethodName := ⟨RX5, "isLetter", "(I)Z"⟩
abbrev cX5_isStacker : ByteArray := prog_1_method_27_code
def yX5_isStacker : MethodName := ⟨RX5, "isStacker", "(I)Z"⟩
abbrev cX5_isPasses : ByteArray := prog_1_method_28_code
def yX5_isPasses : MethodName := ⟨RX5, "isPasses", "(I)Z"⟩
abbrev cX5_isImage : ByteArray := prog_1_method_29_code
def yX5_isImage : MethodName := ⟨RX5, "isImage", "(I)Z"⟩
abbrev cX5_asksCode : ByteArray := prog_1_method_30_code
def yX5_asksCode : MethodName := ⟨RX5, "asksCode", "(I)Z"⟩
abbrev cX5_hasPlanCodes : ByteArray := prog_1_method_31_code
def yX5_hasPlanCodes : MethodName := ⟨RX5, "hasPlanCodes", "(I)Z"⟩
abbrev cX5_power : ByteArray := prog_1_method_32_code
def yX5_power : MethodName := ⟨RX5, "power", "(II)I"⟩
abbrev cX5_figure : ByteArray := prog_1_method_33_code
def yX5_figure : MethodName := ⟨RX5, "figure", "(III)I"⟩
def RX6 : String := "WalkPassesModel"
def TX6 : u_T := fun k => match k with
  | 0 => ("WalkPassesModel", "state", "[I", true)
  | 1 => ("WalkPassesModel", "images", "[I", true)
  | 2 => ("WalkPassesModel", "isKept", "[Z", true)
  | 3 => ("WalkPassesModel", "row", "[I", true)
  | 4 => ("WalkPassesModel", "rowMany", "I", false)
  | 5 => ("WalkPassesModel", "swept", "[I", true)
  | 6 => ("WalkPassesModel", "sweptMany", "I", false)
  | 7 => ("WalkPassesModel", "goesTo", "[I", true)
  | 8 => ("WalkPassesModel", "spilledAt", "[I", true)
  | 9 => ("WalkPassesModel", "load", "[I", true)
  | 10 => ("WalkPassesModel", "codes", "[I", true)
  | 11 => ("WalkPassesModel", "cost", "I", false)
  | 12 => ("WalkPassesModel", "bestPlan", "I", false)
  | 13 => ("WalkPassesModel", "asGood", "I", false)
  | 14 => ("WalkPassesModel", "plans", "I", false)
  | _ => ("WalkPassesModel", "rooms", "[I", true)
def tyX6 : Nat → FieldType := fun k => match k with
  | 0 => .array .int
  | 1 => .array .int
  | 2 => .array .boolean
  | 3 => .array .int
  | 4 => .int
  | 5 => .array .int
  | 6 => .int
  | 7 => .array .int
  | 8 => .array .int
  | 9 => .array .int
  | 10 => .array .int
  | 11 => .int
  | 12 => .int
  | 13 => .int
  | 14 => .int
  | _ => .array .int
abbrev wsX60 : List Cond := u_ws RX6 TX6 16
theorem nmX6 : ∀ a, a < 16 → ∀ b, b < 16 → a ≠ b → (TX6 a).2.1 ≠ (TX6 b).2.1 := by decide +kernel
theorem tyX6_ok : ∀ k, k < 16 → parseFieldDescriptor (TX6 k).2.2.1 = some (tyX6 k) := by decide +kernel
abbrev cX6_init : ByteArray := prog_8_method_1_code
def yX6_init : MethodName := ⟨RX6, "<init>", "()V"⟩
abbrev cX6_in : ByteArray := prog_8_method_2_code
def yX6_in : MethodName := ⟨RX6, "in", "(III)Z"⟩
abbrev cX6_isPoint : ByteArray := prog_8_method_3_code
def yX6_isPoint : MethodName := ⟨RX6, "isPoint", "(I)Z"⟩
abbrev cX6_isLetter : ByteArray := prog_8_method_4_code
def yX6_isLetter : MethodName := ⟨RX6, "isLetter", "(I)Z"⟩
abbrev cX6_isStacker : ByteArray := prog_8_method_5_code
def yX6_isStacker : MethodName := ⟨RX6, "isStacker", "(I)Z"⟩
abbrev cX6_isRun : ByteArray := prog_8_method_6_code
def yX6_isRun : MethodName := ⟨RX6, "isRun", "(I)Z"⟩
abbrev cX6_letter : ByteArray := prog_8_method_7_code
def yX6_letter : MethodName := ⟨RX6, "letter", "(II)I"⟩
abbrev cX6_misreads : ByteArray := prog_8_method_8_code
def yX6_misreads : MethodName := ⟨RX6, "misreads", "()I"⟩
abbrev cX6_misread : ByteArray := prog_8_method_9_code
def yX6_misread : MethodName := ⟨RX6, "misread", "(II)I"⟩
abbrev cX6_drop : ByteArray := prog_8_method_10_code
def yX6_drop : MethodName := ⟨RX6, "drop", "(I)I"⟩
abbrev cX6_placeOf : ByteArray := prog_8_method_11_code
def yX6_placeOf : MethodName := ⟨RX6, "placeOf", "(I)I"⟩
abbrev cX6_change : ByteArray := prog_8_method_12_code
def yX6_change : MethodName := ⟨RX6, "change", "(II)I"⟩
abbrev cX6_walk : ByteArray := prog_8_method_13_code
def yX6_walk : MethodName := ⟨RX6, "walk", "(I)I"⟩
abbrev cX6_stackers : ByteArray := prog_8_method_14_code
def yX6_stackers : MethodName := ⟨RX6, "stackers", "(I)I"⟩
abbrev cX6_room : ByteArray := prog_8_method_15_code
def yX6_room : MethodName := ⟨RX6, "room", "(II)I"⟩
abbrev cX6_code : ByteArray := prog_8_method_16_code
def yX6_code : MethodName := ⟨RX6, "code", "(II)I"⟩
abbrev cX6_isUsed : ByteArray := prog_8_method_17_code
def yX6_isUsed : MethodName := ⟨RX6, "isUsed", "(I)Z"⟩
abbrev cX6_dense : ByteArray := prog_8_method_18_code
def yX6_dense : MethodName := ⟨RX6, "dense", "()I"⟩
abbrev cX6_of : ByteArray := prog_8_method_19_code
def yX6_of : MethodName := ⟨RX6, "of", "(II)I"⟩
abbrev cX6_figure : ByteArray := prog_8_method_20_code
def yX6_figure : MethodName := ⟨RX6, "figure", "(II)I"⟩
abbrev cX6_place : ByteArray := prog_8_method_21_code
def yX6_place : MethodName := ⟨RX6, "place", "(II)I"⟩
abbrev cX6_pass : ByteArray := prog_8_method_22_code
def yX6_pass : MethodName := ⟨RX6, "pass", "(I)V"⟩
abbrev cX6_goRun : ByteArray := prog_8_method_23_code
def yX6_goRun : MethodName := ⟨RX6, "goRun", "(I)V"⟩
abbrev cX6_wrong : ByteArray := prog_8_method_24_code
def yX6_wrong : MethodName := ⟨RX6, "wrong", "()I"⟩
abbrev cX6_spilledIn : ByteArray := prog_8_method_25_code
def yX6_spilledIn : MethodName := ⟨RX6, "spilledIn", "(I)I"⟩
abbrev cX6_run : ByteArray := prog_8_method_26_code
def yX6_run : MethodName := ⟨RX6, "run", "(II)I"⟩
abbrev cX6_out : ByteArray := prog_8_method_27_code
def yX6_out : MethodName := ⟨RX6, "out", "(II)I"⟩
abbrev cX6_spilled : ByteArray := prog_8_method_28_code
def yX6_spilled : MethodName := ⟨RX6, "spilled", "(II)I"⟩
abbrev cX6_load : ByteArray := prog_8_method_29_code
def yX6_load : MethodName := ⟨RX6, "load", "(II)I"⟩
abbrev cX6_rise : ByteArray := prog_8_method_30_code
def yX6_rise : MethodName := ⟨RX6, "rise", "()I"⟩
abbrev cX6_power : ByteArray := prog_8_method_31_code
def yX6_power : MethodName := ⟨RX6, "power", "(I)I"⟩
abbrev cX6_size : ByteArray := prog_8_method_32_code
def yX6_size : MethodName := ⟨RX6, "size", "(I)I"⟩
abbrev cX6_usedMany : ByteArray := prog_8_method_33_code
def yX6_usedMany : MethodName := ⟨RX6, "usedMany", "()I"⟩
abbrev cX6_takeCodes : ByteArray := prog_8_method_34_code
def yX6_takeCodes : MethodName := ⟨RX6, "takeCodes", "(I)V"⟩
abbrev cX6_saveCodes : ByteArray := prog_8_method_35_code
def yX6_saveCodes : MethodName := ⟨RX6, "saveCodes", "()V"⟩
abbrev cX6_loadCodes : ByteArray := prog_8_method_36_code
def yX6_loadCodes : MethodName := ⟨RX6, "loadCodes", "()V"⟩
abbrev cX6_isAhead : ByteArray := prog_8_method_37_code
def yX6_isAhead : MethodName := ⟨RX6, "isAhead", "(II)Z"⟩
abbrev cX6_tryPlan : ByteArray := prog_8_method_38_code
def yX6_tryPlan : MethodName := ⟨RX6, "tryPlan", "(II)V"⟩
abbrev cX6_layBest : ByteArray := prog_8_method_39_code
def yX6_layBest : MethodName := ⟨RX6, "layBest", "(I)V"⟩
abbrev cX6_codeOf : ByteArray := prog_8_method_40_code
def yX6_codeOf : MethodName := ⟨RX6, "codeOf", "(I)I"⟩
abbrev cX6_best : ByteArray := prog_8_method_41_code
def yX6_best : MethodName := ⟨RX6, "best", "(II)I"⟩
abbrev cX6_take : ByteArray := prog_8_method_42_code
def yX6_take : MethodName := ⟨RX6, "take", "(I)I"⟩
abbrev cX6_isClean : ByteArray := prog_8_method_43_code
def yX6_isClean : MethodName := ⟨RX6, "isClean", "(I)Z"⟩
abbrev cX6_fewest : ByteArray := prog_8_method_44_code
def yX6_fewest : MethodName := ⟨RX6, "fewest", "()I"⟩
abbrev cX6_setRooms : ByteArray := prog_8_method_45_code
def yX6_setRooms : MethodName := ⟨RX6, "setRooms", "(I)V"⟩
abbrev cX6_needs : ByteArray := prog_8_method_46_code
def yX6_needs : MethodName := ⟨RX6, "needs", "(I)I"⟩
abbrev cX6_image : ByteArray := prog_8_method_47_code
def yX6_image : MethodName := ⟨RX6, "image", "(I)I"⟩
abbrev cX6_restore : ByteArray := prog_8_method_48_code
def yX6_restore : MethodName := ⟨RX6, "restore", "(I)I"⟩
abbrev cX6_sumOf : ByteArray := prog_8_method_49_code
def yX6_sumOf : MethodName := ⟨RX6, "sumOf", "(II)I"⟩
abbrev cX6_count : ByteArray := prog_8_method_50_code
def yX6_count : MethodName := ⟨RX6, "count", "(I)I"⟩
def RJ9 : String := "java/lang/Math"
def TJ9 : u_T := fun k => match k with
  | _ => ("", "", "", false)
def tyJ9 : Nat → FieldType := fun k => match k with
  | _ => .int
abbrev wsJ90 : List Cond := u_ws RJ9 TJ9 0
theorem nmJ9 : ∀ a, a < 0 → ∀ b, b < 0 → a ≠ b → (TJ9 a).2.1 ≠ (TJ9 b).2.1 := by decide +kernel
theorem tyJ9_ok : ∀ k, k < 0 → parseFieldDescriptor (TJ9 k).2.2.1 = some (tyJ9 k) := by decide +kernel
abbrev cJ9_min_7cf53 : ByteArray := prog_9_method_69_code
def yJ9_min_7cf53 : MethodName := ⟨RJ9, "min", "(II)I"⟩
def RJ10 : String := "java/lang/System"
def TJ10 : u_T := fun k => match k with
  | _ => ("", "", "", false)
def tyJ10 : Nat → FieldType := fun k => match k with
  | _ => .int
abbrev wsJ100 : List Cond := u_ws RJ10 TJ10 0
theorem nmJ10 : ∀ a, a < 0 → ∀ b, b < 0 → a ≠ b → (TJ10 a).2.1 ≠ (TJ10 b).2.1 := by decide +kernel
theorem tyJ10_ok : ∀ k, k < 0 → parseFieldDescriptor (TJ10 k).2.2.1 = some (tyJ10 k) := by decide +kernel
def RJ7 : String := "java/util/Arrays"
def TJ7 : u_T := fun k => match k with
  | _ => ("", "", "", false)
def tyJ7 : Nat → FieldType := fun k => match k with
  | _ => .int
abbrev wsJ70 : List Cond := u_ws RJ7 TJ7 0
theorem nmJ7 : ∀ a, a < 0 → ∀ b, b < 0 → a ≠ b → (TJ7 a).2.1 ≠ (TJ7 b).2.1 := by decide +kernel
theorem tyJ7_ok : ∀ k, k < 0 → parseFieldDescriptor (TJ7 k).2.2.1 = some (tyJ7 k) := by decide +kernel
abbrev cJ7_fill_53178 : ByteArray := prog_11_method_103_code
def yJ7_fill_53178 : MethodName := ⟨RJ7, "fill", "([II)V"⟩
def RL : String := "WalkPassesLaw"
abbrev cL_law : ByteArray := code
def yL_law : MethodName := ⟨RL, "law", "([I)Z"⟩
def wsX3_init : List Cond := .code yX3_init cX3_init 1 none :: ([.methodLink RX3 3 objectInit, .instanceMethod objectInit, .code objectInit ⟨#[0xb1]⟩ 1 none, .arrayClass .int, .fieldLink RX3 9 "WalkPasses$Plans" "points" "[I", .fieldLink RX3 15 "WalkPasses$Plans" "codes" "[I"] ++ wsX30)
def wsX2_init : List Cond := .code yX2_init cX2_init 1 none :: ([.methodLink RX2 3 objectInit, .instanceMethod objectInit, .code objectInit ⟨#[0xb1]⟩ 1 none, .arrayClass .int, .fieldLink RX2 9 "WalkPasses$Passes" "order" "[I", .fieldLink RX2 15 "WalkPasses$Passes" "spilledAt" "[I", .fieldLink RX2 18 "WalkPasses$Passes" "stackerOf" "[I", .classLink RX2 21 "[[I", .fieldLink RX2 23 "WalkPasses$Passes" "piles" "[[I", .fieldLink RX2 26 "WalkPasses$Passes" "heights" "[I", .fieldLink RX2 29 "WalkPasses$Passes" "loads" "[I"] ++ wsX20)
def wsX0_init_r1 : List Cond := [Cond.methodLink RX0 3 objectInit, Cond.instanceMethod objectInit, Cond.code objectInit ⟨#[0xb1]⟩ 1 none, Cond.classLink RX0 9 RX3, Cond.instantiable RX3 4, Cond.initialized RX3, Cond.fieldLink RX0 12 "WalkPasses$Best" "candidates" "LWalkPasses$Plans;", Cond.classLink RX0 18 RX2, Cond.instantiable RX2 7, Cond.initialized RX2, Cond.fieldLink RX0 21 "WalkPasses$Best" "passes" "LWalkPasses$Passes;", Cond.arrayClass .int, Cond.fieldLink RX0 25 "WalkPasses$Best" "codes" "[I", Cond.instanceMethod yX3_init, Cond.code yX3_init cX3_init 1 none, Cond.methodLink RX3 3 objectInit, Cond.fieldLink RX3 9 "WalkPasses$Plans" "points" "[I", Cond.fieldLink RX3 15 "WalkPasses$Plans" "codes" "[I", Cond.instanceMethod yX2_init, Cond.code yX2_init cX2_init 1 none, Cond.methodLink RX2 3 objectInit, Cond.fieldLink RX2 9 "WalkPasses$Passes" "order" "[I", Cond.fieldLink RX2 15 "WalkPasses$Passes" "spilledAt" "[I", Cond.fieldLink RX2 18 "WalkPasses$Passes" "stackerOf" "[I"]
def wsX0_init_r2 : List Cond := [Cond.classLink RX2 21 "[[I", Cond.fieldLink RX2 23 "WalkPasses$Passes" "piles" "[[I", Cond.fieldLink RX2 26 "WalkPasses$Passes" "heights" "[I", Cond.fieldLink RX2 29 "WalkPasses$Passes" "loads" "[I"]
def wsX0_init : List Cond := .code yX0_init cX0_init 1 none :: ((wsX0_init_r1 ++ wsX0_init_r2) ++ wsX30 ++ wsX00 ++ wsX20)
def wsX5_power : List Cond := .code yX5_power cX5_power 4 (some .int) :: ([])
def wsX1_hasLetterAt : List Cond := .code yX1_hasLetterAt cX1_hasLetterAt 3 (some .boolean) :: ([.fieldLink RX1 43 "WalkPasses$Desk" "letters" "I", .fieldLink RX1 9 "WalkPasses$Desk" "points" "[I"] ++ wsX10)
def wsX3_begin : List Cond := .code yX3_begin cX3_begin 5 (some .boolean) :: ([.fieldLink RX3 28 "WalkPasses$Plans" "below" "I", .fieldLink RX3 31 "WalkPasses$Plans" "size" "I", .fieldLink RX3 9 "WalkPasses$Plans" "points" "[I", .fieldLink RX3 15 "WalkPasses$Plans" "codes" "[I", .static yX5_power, .initialized RX5, .code yX5_power cX5_power 4 (some .int), .methodLink RX3 37 yX1_hasLetterAt, .instanceMethod yX1_hasLetterAt, .selects RX1 yX1_hasLetterAt yX1_hasLetterAt, .initialized RX1, .code yX1_hasLetterAt cX1_hasLetterAt 3 (some .boolean), .fieldLink RX1 43 "WalkPasses$Desk" "letters" "I", .fieldLink RX1 9 "WalkPasses$Desk" "points" "[I"] ++ wsX10 ++ wsX30)
def wsX2_begin : List Cond := .code yX2_begin cX2_begin 3 none :: ([.fieldLink RX2 46 "WalkPasses$Passes" "coming" "I", .fieldLink RX2 15 "WalkPasses$Passes" "spilledAt" "[I", .fieldLink RX2 9 "WalkPasses$Passes" "order" "[I"] ++ wsX20 ++ wsX10)
def wsX5_figure : List Cond := .code yX5_figure cX5_figure 3 (some .int) :: ([])
def wsX2_aim : List Cond := .code yX2_aim cX2_aim 5 none :: ([.fieldLink RX2 18 "WalkPasses$Passes" "stackerOf" "[I", .static yX5_figure, .initialized RX5, .code yX5_figure cX5_figure 3 (some .int)] ++ wsX20)
def wsJ7_fill_53178 : List Cond := .code yJ7_fill_53178 cJ7_fill_53178 4 none :: ([])
def wsX2_stack : List Cond := .code yX2_stack cX2_stack 7 none :: ([.fieldLink RX2 26 "WalkPasses$Passes" "heights" "[I", .fieldLink RX2 29 "WalkPasses$Passes" "loads" "[I", .fieldLink RX2 46 "WalkPasses$Passes" "coming" "I", .fieldLink RX2 9 "WalkPasses$Passes" "order" "[I", .fieldLink RX2 18 "WalkPasses$Passes" "stackerOf" "[I", .fieldLink RX2 15 "WalkPasses$Passes" "spilledAt" "[I", .fieldLink RX2 23 "WalkPasses$Passes" "piles" "[[I", .methodLink RX2 71 yJ7_fill_53178, .static yJ7_fill_53178, .initialized RJ7, .code yJ7_fill_53178 cJ7_fill_53178 4 none] ++ wsX20 ++ wsX10)
def wsX2_sweep : List Cond := .code yX2_sweep cX2_sweep 3 none :: ([.fieldLink RX2 46 "WalkPasses$Passes" "coming" "I", .fieldLink RX2 23 "WalkPasses$Passes" "piles" "[[I", .fieldLink RX2 9 "WalkPasses$Passes" "order" "[I", .fieldLink RX2 26 "WalkPasses$Passes" "heights" "[I", .methodLink RX2 86 arraycopyName, .native arraycopyName, .static arraycopyName, .initialized "java/lang/System"] ++ wsX20)
def wsX2_countSpilledUpTo_r1 : List Cond := [Cond.fieldLink RX2 46 "WalkPasses$Passes" "coming" "I", Cond.methodLink RX2 36 yX2_begin, Cond.instanceMethod yX2_begin, Cond.selects RX2 yX2_begin yX2_begin, Cond.initialized RX2, Cond.code yX2_begin cX2_begin 3 none, Cond.fieldLink RX2 15 "WalkPasses$Passes" "spilledAt" "[I", Cond.fieldLink RX2 9 "WalkPasses$Passes" "order" "[I", Cond.methodLink RX2 52 yX2_aim, Cond.instanceMethod yX2_aim, Cond.selects RX2 yX2_aim yX2_aim, Cond.code yX2_aim cX2_aim 5 none, Cond.fieldLink RX2 18 "WalkPasses$Passes" "stackerOf" "[I", Cond.static yX5_figure, Cond.initialized RX5, Cond.code yX5_figure cX5_figure 3 (some .int), Cond.methodLink RX2 56 yX2_stack, Cond.instanceMethod yX2_stack, Cond.selects RX2 yX2_stack yX2_stack, Cond.code yX2_stack cX2_stack 7 none, Cond.fieldLink RX2 26 "WalkPasses$Passes" "heights" "[I", Cond.fieldLink RX2 29 "WalkPasses$Passes" "loads" "[I", Cond.fieldLink RX2 23 "WalkPasses$Passes" "piles" "[[I", Cond.methodLink RX2 71 yJ7_fill_53178]
def wsX2_countSpilledUpTo_r2 : List Cond := [Cond.static yJ7_fill_53178, Cond.initialized RJ7, Cond.code yJ7_fill_53178 cJ7_fill_53178 4 none, Cond.methodLink RX2 60 yX2_sweep, Cond.instanceMethod yX2_sweep, Cond.selects RX2 yX2_sweep yX2_sweep, Cond.code yX2_sweep cX2_sweep 3 none, Cond.methodLink RX2 86 arraycopyName, Cond.native arraycopyName, Cond.static arraycopyName, Cond.initialized "java/lang/System"]
def wsX2_countSpilledUpTo : List Cond := .code yX2_countSpilledUpTo cX2_countSpilledUpTo 7 (some .int) :: ((wsX2_countSpilledUpTo_r1 ++ wsX2_countSpilledUpTo_r2) ++ wsX10 ++ wsX20)
def wsX0_compare : List Cond := .code yX0_compare cX0_compare 2 none :: ([.fieldLink RX0 45 "WalkPasses$Best" "least" "I", .fieldLink RX0 48 "WalkPasses$Best" "ties" "I", .fieldLink RX0 12 "WalkPasses$Best" "candidates" "LWalkPasses$Plans;", .fieldLink RX0 25 "WalkPasses$Best" "codes" "[I", .methodLink RX0 71 arraycopyName, .native arraycopyName, .static arraycopyName, .initialized "java/lang/System"] ++ wsX00 ++ wsX30)
def wsX3_raise : List Cond := .code yX3_raise cX3_raise 4 none :: ([.fieldLink RX3 15 "WalkPasses$Plans" "codes" "[I", .fieldLink RX3 9 "WalkPasses$Plans" "points" "[I", .fieldLink RX3 31 "WalkPasses$Plans" "size" "I"] ++ wsX30)
def wsX3_advance : List Cond := .code yX3_advance cX3_advance 4 (some .boolean) :: ([.fieldLink RX3 31 "WalkPasses$Plans" "size" "I", .methodLink RX3 41 Lib.Math.min.name, .static Lib.Math.min.name, .initialized "java/lang/Math", .code Lib.Math.min.name Lib.Math.min.code 2 (some .int), .fieldLink RX3 15 "WalkPasses$Plans" "codes" "[I", .fieldLink RX3 9 "WalkPasses$Plans" "points" "[I", .fieldLink RX3 28 "WalkPasses$Plans" "below" "I", .methodLink RX3 46 yX3_raise, .instanceMethod yX3_raise, .selects RX3 yX3_raise yX3_raise, .initialized RX3, .code yX3_raise cX3_raise 4 none] ++ wsX30)
def wsX0_search_r1 : List Cond := [Cond.fieldLink RX0 45 "WalkPasses$Best" "least" "I", Cond.fieldLink RX0 48 "WalkPasses$Best" "ties" "I", Cond.fieldLink RX0 12 "WalkPasses$Best" "candidates" "LWalkPasses$Plans;", Cond.fieldLink RX0 55 "WalkPasses$Best" "plans" "I", Cond.fieldLink RX0 21 "WalkPasses$Best" "passes" "LWalkPasses$Passes;", Cond.methodLink RX0 51 yX3_begin, Cond.instanceMethod yX3_begin, Cond.selects RX3 yX3_begin yX3_begin, Cond.initialized RX3, Cond.code yX3_begin cX3_begin 5 (some .boolean), Cond.fieldLink RX3 28 "WalkPasses$Plans" "below" "I", Cond.fieldLink RX3 31 "WalkPasses$Plans" "size" "I", Cond.fieldLink RX3 9 "WalkPasses$Plans" "points" "[I", Cond.fieldLink RX3 15 "WalkPasses$Plans" "codes" "[I", Cond.static yX5_power, Cond.initialized RX5, Cond.code yX5_power cX5_power 4 (some .int), Cond.methodLink RX3 37 yX1_hasLetterAt, Cond.instanceMethod yX1_hasLetterAt, Cond.selects RX1 yX1_hasLetterAt yX1_hasLetterAt, Cond.initialized RX1, Cond.code yX1_hasLetterAt cX1_hasLetterAt 3 (some .boolean), Cond.fieldLink RX1 43 "WalkPasses$Desk" "letters" "I", Cond.fieldLink RX1 9 "WalkPasses$Desk" "points" "[I"]
def wsX0_search_r2 : List Cond := [Cond.methodLink RX0 59 yX2_countSpilledUpTo, Cond.instanceMethod yX2_countSpilledUpTo, Cond.selects RX2 yX2_countSpilledUpTo yX2_countSpilledUpTo, Cond.initialized RX2, Cond.code yX2_countSpilledUpTo cX2_countSpilledUpTo 7 (some .int), Cond.fieldLink RX2 46 "WalkPasses$Passes" "coming" "I", Cond.methodLink RX2 36 yX2_begin, Cond.instanceMethod yX2_begin, Cond.selects RX2 yX2_begin yX2_begin, Cond.code yX2_begin cX2_begin 3 none, Cond.fieldLink RX2 15 "WalkPasses$Passes" "spilledAt" "[I", Cond.fieldLink RX2 9 "WalkPasses$Passes" "order" "[I", Cond.methodLink RX2 52 yX2_aim, Cond.instanceMethod yX2_aim, Cond.selects RX2 yX2_aim yX2_aim, Cond.code yX2_aim cX2_aim 5 none, Cond.fieldLink RX2 18 "WalkPasses$Passes" "stackerOf" "[I", Cond.static yX5_figure, Cond.code yX5_figure cX5_figure 3 (some .int), Cond.methodLink RX2 56 yX2_stack, Cond.instanceMethod yX2_stack, Cond.selects RX2 yX2_stack yX2_stack, Cond.code yX2_stack cX2_stack 7 none, Cond.fieldLink RX2 26 "WalkPasses$Passes" "heights" "[I"]
def wsX0_search_r3 : List Cond := [Cond.fieldLink RX2 29 "WalkPasses$Passes" "loads" "[I", Cond.fieldLink RX2 23 "WalkPasses$Passes" "piles" "[[I", Cond.methodLink RX2 71 yJ7_fill_53178, Cond.static yJ7_fill_53178, Cond.initialized RJ7, Cond.code yJ7_fill_53178 cJ7_fill_53178 4 none, Cond.methodLink RX2 60 yX2_sweep, Cond.instanceMethod yX2_sweep, Cond.selects RX2 yX2_sweep yX2_sweep, Cond.code yX2_sweep cX2_sweep 3 none, Cond.methodLink RX2 86 arraycopyName, Cond.native arraycopyName, Cond.static arraycopyName, Cond.initialized "java/lang/System", Cond.methodLink RX0 63 yX0_compare, Cond.instanceMethod yX0_compare, Cond.selects RX0 yX0_compare yX0_compare, Cond.initialized RX0, Cond.code yX0_compare cX0_compare 2 none, Cond.fieldLink RX0 25 "WalkPasses$Best" "codes" "[I", Cond.methodLink RX0 71 arraycopyName, Cond.methodLink RX0 67 yX3_advance, Cond.instanceMethod yX3_advance, Cond.selects RX3 yX3_advance yX3_advance]
def wsX0_search_r4 : List Cond := [Cond.code yX3_advance cX3_advance 4 (some .boolean), Cond.methodLink RX3 41 Lib.Math.min.name, Cond.static Lib.Math.min.name, Cond.initialized "java/lang/Math", Cond.code Lib.Math.min.name Lib.Math.min.code 2 (some .int), Cond.methodLink RX3 46 yX3_raise, Cond.instanceMethod yX3_raise, Cond.selects RX3 yX3_raise yX3_raise, Cond.code yX3_raise cX3_raise 4 none]
def wsX0_search : List Cond := .code yX0_search cX0_search 4 none :: ((wsX0_search_r1 ++ (wsX0_search_r2 ++ (wsX0_search_r3 ++ wsX0_search_r4))) ++ wsX00 ++ wsX30 ++ wsX10 ++ wsX20)
def wsX0_find_r1 : List Cond := [Cond.fieldLink RX0 29 "WalkPasses$Best" "knownPasses" "I", Cond.fieldLink RX0 33 "WalkPasses$Best" "knownVersion" "I", Cond.methodLink RX0 41 yX0_search, Cond.instanceMethod yX0_search, Cond.selects RX0 yX0_search yX0_search, Cond.initialized RX0, Cond.code yX0_search cX0_search 4 none, Cond.fieldLink RX0 45 "WalkPasses$Best" "least" "I", Cond.fieldLink RX0 48 "WalkPasses$Best" "ties" "I", Cond.fieldLink RX0 12 "WalkPasses$Best" "candidates" "LWalkPasses$Plans;", Cond.fieldLink RX0 55 "WalkPasses$Best" "plans" "I", Cond.fieldLink RX0 21 "WalkPasses$Best" "passes" "LWalkPasses$Passes;", Cond.methodLink RX0 51 yX3_begin, Cond.instanceMethod yX3_begin, Cond.selects RX3 yX3_begin yX3_begin, Cond.initialized RX3, Cond.code yX3_begin cX3_begin 5 (some .boolean), Cond.fieldLink RX3 28 "WalkPasses$Plans" "below" "I", Cond.fieldLink RX3 31 "WalkPasses$Plans" "size" "I", Cond.fieldLink RX3 9 "WalkPasses$Plans" "points" "[I", Cond.fieldLink RX3 15 "WalkPasses$Plans" "codes" "[I", Cond.static yX5_power, Cond.initialized RX5, Cond.code yX5_power cX5_power 4 (some .int)]
def wsX0_find_r2 : List Cond := [Cond.methodLink RX3 37 yX1_hasLetterAt, Cond.instanceMethod yX1_hasLetterAt, Cond.selects RX1 yX1_hasLetterAt yX1_hasLetterAt, Cond.initialized RX1, Cond.code yX1_hasLetterAt cX1_hasLetterAt 3 (some .boolean), Cond.fieldLink RX1 43 "WalkPasses$Desk" "letters" "I", Cond.fieldLink RX1 9 "WalkPasses$Desk" "points" "[I", Cond.methodLink RX0 59 yX2_countSpilledUpTo, Cond.instanceMethod yX2_countSpilledUpTo, Cond.selects RX2 yX2_countSpilledUpTo yX2_countSpilledUpTo, Cond.initialized RX2, Cond.code yX2_countSpilledUpTo cX2_countSpilledUpTo 7 (some .int), Cond.fieldLink RX2 46 "WalkPasses$Passes" "coming" "I", Cond.methodLink RX2 36 yX2_begin, Cond.instanceMethod yX2_begin, Cond.selects RX2 yX2_begin yX2_begin, Cond.code yX2_begin cX2_begin 3 none, Cond.fieldLink RX2 15 "WalkPasses$Passes" "spilledAt" "[I", Cond.fieldLink RX2 9 "WalkPasses$Passes" "order" "[I", Cond.methodLink RX2 52 yX2_aim, Cond.instanceMethod yX2_aim, Cond.selects RX2 yX2_aim yX2_aim, Cond.code yX2_aim cX2_aim 5 none, Cond.fieldLink RX2 18 "WalkPasses$Passes" "stackerOf" "[I"]
def wsX0_find_r3 : List Cond := [Cond.static yX5_figure, Cond.code yX5_figure cX5_figure 3 (some .int), Cond.methodLink RX2 56 yX2_stack, Cond.instanceMethod yX2_stack, Cond.selects RX2 yX2_stack yX2_stack, Cond.code yX2_stack cX2_stack 7 none, Cond.fieldLink RX2 26 "WalkPasses$Passes" "heights" "[I", Cond.fieldLink RX2 29 "WalkPasses$Passes" "loads" "[I", Cond.fieldLink RX2 23 "WalkPasses$Passes" "piles" "[[I", Cond.methodLink RX2 71 yJ7_fill_53178, Cond.static yJ7_fill_53178, Cond.initialized RJ7, Cond.code yJ7_fill_53178 cJ7_fill_53178 4 none, Cond.methodLink RX2 60 yX2_sweep, Cond.instanceMethod yX2_sweep, Cond.selects RX2 yX2_sweep yX2_sweep, Cond.code yX2_sweep cX2_sweep 3 none, Cond.methodLink RX2 86 arraycopyName, Cond.native arraycopyName, Cond.static arraycopyName, Cond.initialized "java/lang/System", Cond.methodLink RX0 63 yX0_compare, Cond.instanceMethod yX0_compare, Cond.selects RX0 yX0_compare yX0_compare]
def wsX0_find_r4 : List Cond := [Cond.code yX0_compare cX0_compare 2 none, Cond.fieldLink RX0 25 "WalkPasses$Best" "codes" "[I", Cond.methodLink RX0 71 arraycopyName, Cond.methodLink RX0 67 yX3_advance, Cond.instanceMethod yX3_advance, Cond.selects RX3 yX3_advance yX3_advance, Cond.code yX3_advance cX3_advance 4 (some .boolean), Cond.methodLink RX3 41 Lib.Math.min.name, Cond.static Lib.Math.min.name, Cond.initialized "java/lang/Math", Cond.code Lib.Math.min.name Lib.Math.min.code 2 (some .int), Cond.methodLink RX3 46 yX3_raise, Cond.instanceMethod yX3_raise, Cond.selects RX3 yX3_raise yX3_raise, Cond.code yX3_raise cX3_raise 4 none]
def wsX0_find : List Cond := .code yX0_find cX0_find 3 none :: ((wsX0_find_r1 ++ (wsX0_find_r2 ++ (wsX0_find_r3 ++ wsX0_find_r4))) ++ wsX00 ++ wsX10 ++ wsX30 ++ wsX20)
def wsX1_init : List Cond := .code yX1_init cX1_init 2 none :: ([.methodLink RX1 3 objectInit, .instanceMethod objectInit, .code objectInit ⟨#[0xb1]⟩ 1 none, .arrayClass .int, .fieldLink RX1 9 "WalkPasses$Desk" "points" "[I", .fieldLink RX1 15 "WalkPasses$Desk" "thicks" "[I", .fieldLink RX1 18 "WalkPasses$Desk" "misreads" "[I", .fieldLink RX1 21 "WalkPasses$Desk" "order" "[I", .fieldLink RX1 24 "WalkPasses$Desk" "places" "[I", .fieldLink RX1 27 "WalkPasses$Desk" "many" "I", .fieldLink RX1 31 "WalkPasses$Desk" "rooms" "[I", .fieldLink RX1 34 "WalkPasses$Desk" "codes" "[I", .methodLink RX1 37 yJ7_fill_53178, .static yJ7_fill_53178, .initialized RJ7, .code yJ7_fill_53178 cJ7_fill_53178 4 none] ++ wsX10)
def wsX1_add : List Cond := .code yX1_add cX1_add 4 (some .int) :: ([.fieldLink RX1 43 "WalkPasses$Desk" "letters" "I", .fieldLink RX1 9 "WalkPasses$Desk" "points" "[I", .fieldLink RX1 15 "WalkPasses$Desk" "thicks" "[I", .fieldLink RX1 18 "WalkPasses$Desk" "misreads" "[I", .fieldLink RX1 46 "WalkPasses$Desk" "version" "I"] ++ wsX10)
def wsX1_mark : List Cond := .code yX1_mark cX1_mark 3 none :: ([.fieldLink RX1 18 "WalkPasses$Desk" "misreads" "[I", .fieldLink RX1 46 "WalkPasses$Desk" "version" "I"] ++ wsX10)
def wsX1_remove : List Cond := .code yX1_remove cX1_remove 3 none :: ([.fieldLink RX1 43 "WalkPasses$Desk" "letters" "I", .fieldLink RX1 9 "WalkPasses$Desk" "points" "[I", .fieldLink RX1 15 "WalkPasses$Desk" "thicks" "[I", .fieldLink RX1 18 "WalkPasses$Desk" "misreads" "[I", .fieldLink RX1 46 "WalkPasses$Desk" "version" "I"] ++ wsX10)
def wsX1_swap : List Cond := .code yX1_swap cX1_swap 4 none :: ([.fieldLink RX1 24 "WalkPasses$Desk" "places" "[I", .fieldLink RX1 21 "WalkPasses$Desk" "order" "[I", .fieldLink RX1 46 "WalkPasses$Desk" "version" "I"] ++ wsX10)
def wsX1_setMany : List Cond := .code yX1_setMany cX1_setMany 2 none :: ([.fieldLink RX1 27 "WalkPasses$Desk" "many" "I", .fieldLink RX1 46 "WalkPasses$Desk" "version" "I"] ++ wsX10)
def wsX1_setRoom : List Cond := .code yX1_setRoom cX1_setRoom 3 none :: ([.fieldLink RX1 31 "WalkPasses$Desk" "rooms" "[I", .fieldLink RX1 46 "WalkPasses$Desk" "version" "I"] ++ wsX10)
def wsX1_codeDensely : List Cond := .code yX1_codeDensely cX1_codeDensely 4 (some .int) :: ([.fieldLink RX1 21 "WalkPasses$Desk" "order" "[I", .fieldLink RX1 34 "WalkPasses$Desk" "codes" "[I", .methodLink RX1 49 yX1_hasLetterAt, .instanceMethod yX1_hasLetterAt, .selects RX1 yX1_hasLetterAt yX1_hasLetterAt, .initialized RX1, .code yX1_hasLetterAt cX1_hasLetterAt 3 (some .boolean), .fieldLink RX1 43 "WalkPasses$Desk" "letters" "I", .fieldLink RX1 9 "WalkPasses$Desk" "points" "[I"] ++ wsX10)
def wsX1_takeCodes : List Cond := .code yX1_takeCodes cX1_takeCodes 3 none :: ([.fieldLink RX1 34 "WalkPasses$Desk" "codes" "[I", .methodLink RX1 49 yX1_hasLetterAt, .instanceMethod yX1_hasLetterAt, .selects RX1 yX1_hasLetterAt yX1_hasLetterAt, .initialized RX1, .code yX1_hasLetterAt cX1_hasLetterAt 3 (some .boolean), .fieldLink RX1 43 "WalkPasses$Desk" "letters" "I", .fieldLink RX1 9 "WalkPasses$Desk" "points" "[I"] ++ wsX10)
def wsX1_codesRise : List Cond := .code yX1_codesRise cX1_codesRise 4 (some .boolean) :: ([.fieldLink RX1 21 "WalkPasses$Desk" "order" "[I", .fieldLink RX1 34 "WalkPasses$Desk" "codes" "[I", .methodLink RX1 49 yX1_hasLetterAt, .instanceMethod yX1_hasLetterAt, .selects RX1 yX1_hasLetterAt yX1_hasLetterAt, .initialized RX1, .code yX1_hasLetterAt cX1_hasLetterAt 3 (some .boolean), .fieldLink RX1 43 "WalkPasses$Desk" "letters" "I", .fieldLink RX1 9 "WalkPasses$Desk" "points" "[I"] ++ wsX10)
def wsX1_countPoints : List Cond := .code yX1_countPoints cX1_countPoints 3 (some .int) :: ([.methodLink RX1 49 yX1_hasLetterAt, .instanceMethod yX1_hasLetterAt, .selects RX1 yX1_hasLetterAt yX1_hasLetterAt, .initialized RX1, .code yX1_hasLetterAt cX1_hasLetterAt 3 (some .boolean), .fieldLink RX1 43 "WalkPasses$Desk" "letters" "I", .fieldLink RX1 9 "WalkPasses$Desk" "points" "[I"] ++ wsX10)
def wsX1_addFirst : List Cond := .code yX1_addFirst cX1_addFirst 4 (some .int) :: ([])
def wsX1_countMisread : List Cond := .code yX1_countMisread cX1_countMisread 1 (some .int) :: ([.fieldLink RX1 18 "WalkPasses$Desk" "misreads" "[I", .fieldLink RX1 43 "WalkPasses$Desk" "letters" "I", .methodLink RX1 53 yX1_addFirst, .static yX1_addFirst, .initialized RX1, .code yX1_addFirst cX1_addFirst 4 (some .int)] ++ wsX10)
def wsX1_addThicks : List Cond := .code yX1_addThicks cX1_addThicks 1 (some .int) :: ([.fieldLink RX1 15 "WalkPasses$Desk" "thicks" "[I", .fieldLink RX1 43 "WalkPasses$Desk" "letters" "I", .methodLink RX1 53 yX1_addFirst, .static yX1_addFirst, .initialized RX1, .code yX1_addFirst cX1_addFirst 4 (some .int)] ++ wsX10)
def wsX1_addRooms : List Cond := .code yX1_addRooms cX1_addRooms 1 (some .int) :: ([.fieldLink RX1 31 "WalkPasses$Desk" "rooms" "[I", .fieldLink RX1 27 "WalkPasses$Desk" "many" "I", .methodLink RX1 53 yX1_addFirst, .static yX1_addFirst, .initialized RX1, .code yX1_addFirst cX1_addFirst 4 (some .int)] ++ wsX10)
def wsX1_copyRow : List Cond := .code yX1_copyRow cX1_copyRow 2 none :: ([.methodLink RX1 61 arraycopyName, .native arraycopyName, .static arraycopyName, .initialized "java/lang/System"])
def wsX1_copyFrom : List Cond := .code yX1_copyFrom cX1_copyFrom 2 none :: ([.fieldLink RX1 43 "WalkPasses$Desk" "letters" "I", .fieldLink RX1 9 "WalkPasses$Desk" "points" "[I", .fieldLink RX1 15 "WalkPasses$Desk" "thicks" "[I", .fieldLink RX1 18 "WalkPasses$Desk" "misreads" "[I", .fieldLink RX1 21 "WalkPasses$Desk" "order" "[I", .fieldLink RX1 24 "WalkPasses$Desk" "places" "[I", .fieldLink RX1 27 "WalkPasses$Desk" "many" "I", .fieldLink RX1 31 "WalkPasses$Desk" "rooms" "[I", .fieldLink RX1 34 "WalkPasses$Desk" "codes" "[I", .fieldLink RX1 46 "WalkPasses$Desk" "version" "I", .methodLink RX1 57 yX1_copyRow, .static yX1_copyRow, .initialized RX1, .code yX1_copyRow cX1_copyRow 2 none, .methodLink RX1 61 arraycopyName, .native arraycopyName, .static arraycopyName, .initialized "java/lang/System"] ++ wsX10)
def wsX2_perform_r1 : List Cond := [Cond.methodLink RX2 32 yX2_countSpilledUpTo, Cond.instanceMethod yX2_countSpilledUpTo, Cond.selects RX2 yX2_countSpilledUpTo yX2_countSpilledUpTo, Cond.initialized RX2, Cond.code yX2_countSpilledUpTo cX2_countSpilledUpTo 7 (some .int), Cond.fieldLink RX2 46 "WalkPasses$Passes" "coming" "I", Cond.methodLink RX2 36 yX2_begin, Cond.instanceMethod yX2_begin, Cond.selects RX2 yX2_begin yX2_begin, Cond.code yX2_begin cX2_begin 3 none, Cond.fieldLink RX2 15 "WalkPasses$Passes" "spilledAt" "[I", Cond.fieldLink RX2 9 "WalkPasses$Passes" "order" "[I", Cond.methodLink RX2 52 yX2_aim, Cond.instanceMethod yX2_aim, Cond.selects RX2 yX2_aim yX2_aim, Cond.code yX2_aim cX2_aim 5 none, Cond.fieldLink RX2 18 "WalkPasses$Passes" "stackerOf" "[I", Cond.static yX5_figure, Cond.initialized RX5, Cond.code yX5_figure cX5_figure 3 (some .int), Cond.methodLink RX2 56 yX2_stack, Cond.instanceMethod yX2_stack, Cond.selects RX2 yX2_stack yX2_stack, Cond.code yX2_stack cX2_stack 7 none]
def wsX2_perform_r2 : List Cond := [Cond.fieldLink RX2 26 "WalkPasses$Passes" "heights" "[I", Cond.fieldLink RX2 29 "WalkPasses$Passes" "loads" "[I", Cond.fieldLink RX2 23 "WalkPasses$Passes" "piles" "[[I", Cond.methodLink RX2 71 yJ7_fill_53178, Cond.static yJ7_fill_53178, Cond.initialized RJ7, Cond.code yJ7_fill_53178 cJ7_fill_53178 4 none, Cond.methodLink RX2 60 yX2_sweep, Cond.instanceMethod yX2_sweep, Cond.selects RX2 yX2_sweep yX2_sweep, Cond.code yX2_sweep cX2_sweep 3 none, Cond.methodLink RX2 86 arraycopyName, Cond.native arraycopyName, Cond.static arraycopyName, Cond.initialized "java/lang/System"]
def wsX2_perform : List Cond := .code yX2_perform cX2_perform 4 none :: ((wsX2_perform_r1 ++ wsX2_perform_r2) ++ wsX10 ++ wsX20)
def wsX2_countSpilledAt : List Cond := .code yX2_countSpilledAt cX2_countSpilledAt 5 (some .int) :: ([.fieldLink RX2 15 "WalkPasses$Passes" "spilledAt" "[I"] ++ wsX10 ++ wsX20)
def wsX2_countWrong : List Cond := .code yX2_countWrong cX2_countWrong 6 (some .int) :: ([.fieldLink RX2 46 "WalkPasses$Passes" "coming" "I", .fieldLink RX2 9 "WalkPasses$Passes" "order" "[I"] ++ wsX20 ++ wsX10)
def wsX4_init : List Cond := .code yX4_init cX4_init 1 none :: ([.methodLink RX4 3 objectInit, .instanceMethod objectInit, .code objectInit ⟨#[0xb1]⟩ 1 none, .classLink RX4 9 RX3, .instantiable RX3 4, .initialized RX3, .fieldLink RX4 12 "WalkPasses$Weights" "candidates" "LWalkPasses$Plans;", .arrayClass .int, .fieldLink RX4 18 "WalkPasses$Weights" "weightOf" "[I", .classLink RX4 22 "[[I", .fieldLink RX4 24 "WalkPasses$Weights" "loads" "[[I", .fieldLink RX4 27 "WalkPasses$Weights" "limits" "[I", .instanceMethod yX3_init, .code yX3_init cX3_init 1 none, .methodLink RX3 3 objectInit, .fieldLink RX3 9 "WalkPasses$Plans" "points" "[I", .fieldLink RX3 15 "WalkPasses$Plans" "codes" "[I"] ++ wsX30 ++ wsX40)
def wsX4_weigh : List Cond := .code yX4_weigh cX4_weigh 3 none :: ([.fieldLink RX4 18 "WalkPasses$Weights" "weightOf" "[I", .methodLink RX4 58 yJ7_fill_53178, .static yJ7_fill_53178, .initialized RJ7, .code yJ7_fill_53178 cJ7_fill_53178 4 none] ++ wsX40 ++ wsX10)
def wsX4_empty : List Cond := .code yX4_empty cX4_empty 3 none :: ([.fieldLink RX4 24 "WalkPasses$Weights" "loads" "[[I", .methodLink RX4 58 yJ7_fill_53178, .static yJ7_fill_53178, .initialized RJ7, .code yJ7_fill_53178 cJ7_fill_53178 4 none] ++ wsX40)
def wsX4_pointFits : List Cond := .code yX4_pointFits cX4_pointFits 8 (some .boolean) :: ([.fieldLink RX4 12 "WalkPasses$Weights" "candidates" "LWalkPasses$Plans;", .fieldLink RX4 24 "WalkPasses$Weights" "loads" "[[I", .fieldLink RX4 18 "WalkPasses$Weights" "weightOf" "[I", .static yX5_figure, .initialized RX5, .code yX5_figure cX5_figure 3 (some .int)] ++ wsX40 ++ wsX30)
def wsX4_countFitting : List Cond := .code yX4_countFitting cX4_countFitting 5 (some .int) :: ([.fieldLink RX4 12 "WalkPasses$Weights" "candidates" "LWalkPasses$Plans;", .methodLink RX4 76 yX4_empty, .instanceMethod yX4_empty, .selects RX4 yX4_empty yX4_empty, .initialized RX4, .code yX4_empty cX4_empty 3 none, .fieldLink RX4 24 "WalkPasses$Weights" "loads" "[[I", .methodLink RX4 58 yJ7_fill_53178, .static yJ7_fill_53178, .initialized RJ7, .code yJ7_fill_53178 cJ7_fill_53178 4 none, .methodLink RX4 81 yX4_pointFits, .instanceMethod yX4_pointFits, .selects RX4 yX4_pointFits yX4_pointFits, .code yX4_pointFits cX4_pointFits 8 (some .boolean), .fieldLink RX4 18 "WalkPasses$Weights" "weightOf" "[I", .static yX5_figure, .initialized RX5, .code yX5_figure cX5_figure 3 (some .int)] ++ wsX40 ++ wsX30)
def wsX4_somePlanFits_r1 : List Cond := [Cond.fieldLink RX4 12 "WalkPasses$Weights" "candidates" "LWalkPasses$Plans;", Cond.methodLink RX4 30 yX4_weigh, Cond.instanceMethod yX4_weigh, Cond.selects RX4 yX4_weigh yX4_weigh, Cond.initialized RX4, Cond.code yX4_weigh cX4_weigh 3 none, Cond.fieldLink RX4 18 "WalkPasses$Weights" "weightOf" "[I", Cond.methodLink RX4 58 yJ7_fill_53178, Cond.static yJ7_fill_53178, Cond.initialized RJ7, Cond.code yJ7_fill_53178 cJ7_fill_53178 4 none, Cond.methodLink RX4 34 yX3_begin, Cond.instanceMethod yX3_begin, Cond.selects RX3 yX3_begin yX3_begin, Cond.initialized RX3, Cond.code yX3_begin cX3_begin 5 (some .boolean), Cond.fieldLink RX3 28 "WalkPasses$Plans" "below" "I", Cond.fieldLink RX3 31 "WalkPasses$Plans" "size" "I", Cond.fieldLink RX3 9 "WalkPasses$Plans" "points" "[I", Cond.fieldLink RX3 15 "WalkPasses$Plans" "codes" "[I", Cond.static yX5_power, Cond.initialized RX5, Cond.code yX5_power cX5_power 4 (some .int), Cond.methodLink RX3 37 yX1_hasLetterAt]
def wsX4_somePlanFits_r2 : List Cond := [Cond.instanceMethod yX1_hasLetterAt, Cond.selects RX1 yX1_hasLetterAt yX1_hasLetterAt, Cond.initialized RX1, Cond.code yX1_hasLetterAt cX1_hasLetterAt 3 (some .boolean), Cond.fieldLink RX1 43 "WalkPasses$Desk" "letters" "I", Cond.fieldLink RX1 9 "WalkPasses$Desk" "points" "[I", Cond.methodLink RX4 47 yX4_countFitting, Cond.instanceMethod yX4_countFitting, Cond.selects RX4 yX4_countFitting yX4_countFitting, Cond.code yX4_countFitting cX4_countFitting 5 (some .int), Cond.methodLink RX4 76 yX4_empty, Cond.instanceMethod yX4_empty, Cond.selects RX4 yX4_empty yX4_empty, Cond.code yX4_empty cX4_empty 3 none, Cond.fieldLink RX4 24 "WalkPasses$Weights" "loads" "[[I", Cond.methodLink RX4 81 yX4_pointFits, Cond.instanceMethod yX4_pointFits, Cond.selects RX4 yX4_pointFits yX4_pointFits, Cond.code yX4_pointFits cX4_pointFits 8 (some .boolean), Cond.static yX5_figure, Cond.code yX5_figure cX5_figure 3 (some .int), Cond.methodLink RX4 54 yX3_advance, Cond.instanceMethod yX3_advance, Cond.selects RX3 yX3_advance yX3_advance]
def wsX4_somePlanFits_r3 : List Cond := [Cond.code yX3_advance cX3_advance 4 (some .boolean), Cond.methodLink RX3 41 Lib.Math.min.name, Cond.static Lib.Math.min.name, Cond.initialized "java/lang/Math", Cond.code Lib.Math.min.name Lib.Math.min.code 2 (some .int), Cond.methodLink RX3 46 yX3_raise, Cond.instanceMethod yX3_raise, Cond.selects RX3 yX3_raise yX3_raise, Cond.code yX3_raise cX3_raise 4 none]
def wsX4_somePlanFits : List Cond := .code yX4_somePlanFits cX4_somePlanFits 6 (some .boolean) :: ((wsX4_somePlanFits_r1 ++ (wsX4_somePlanFits_r2 ++ wsX4_somePlanFits_r3)) ++ wsX40 ++ wsX10 ++ wsX30)
def wsX4_leastRoom_r1 : List Cond := [Cond.fieldLink RX4 12 "WalkPasses$Weights" "candidates" "LWalkPasses$Plans;", Cond.fieldLink RX4 27 "WalkPasses$Weights" "limits" "[I", Cond.methodLink RX4 30 yX4_weigh, Cond.instanceMethod yX4_weigh, Cond.selects RX4 yX4_weigh yX4_weigh, Cond.initialized RX4, Cond.code yX4_weigh cX4_weigh 3 none, Cond.fieldLink RX4 18 "WalkPasses$Weights" "weightOf" "[I", Cond.methodLink RX4 58 yJ7_fill_53178, Cond.static yJ7_fill_53178, Cond.initialized RJ7, Cond.code yJ7_fill_53178 cJ7_fill_53178 4 none, Cond.methodLink RX4 34 yX3_begin, Cond.instanceMethod yX3_begin, Cond.selects RX3 yX3_begin yX3_begin, Cond.initialized RX3, Cond.code yX3_begin cX3_begin 5 (some .boolean), Cond.fieldLink RX3 28 "WalkPasses$Plans" "below" "I", Cond.fieldLink RX3 31 "WalkPasses$Plans" "size" "I", Cond.fieldLink RX3 9 "WalkPasses$Plans" "points" "[I", Cond.fieldLink RX3 15 "WalkPasses$Plans" "codes" "[I", Cond.static yX5_power, Cond.initialized RX5, Cond.code yX5_power cX5_power 4 (some .int)]
def wsX4_leastRoom_r2 : List Cond := [Cond.methodLink RX3 37 yX1_hasLetterAt, Cond.instanceMethod yX1_hasLetterAt, Cond.selects RX1 yX1_hasLetterAt yX1_hasLetterAt, Cond.initialized RX1, Cond.code yX1_hasLetterAt cX1_hasLetterAt 3 (some .boolean), Cond.fieldLink RX1 43 "WalkPasses$Desk" "letters" "I", Cond.fieldLink RX1 9 "WalkPasses$Desk" "points" "[I", Cond.methodLink RX4 47 yX4_countFitting, Cond.instanceMethod yX4_countFitting, Cond.selects RX4 yX4_countFitting yX4_countFitting, Cond.code yX4_countFitting cX4_countFitting 5 (some .int), Cond.methodLink RX4 76 yX4_empty, Cond.instanceMethod yX4_empty, Cond.selects RX4 yX4_empty yX4_empty, Cond.code yX4_empty cX4_empty 3 none, Cond.fieldLink RX4 24 "WalkPasses$Weights" "loads" "[[I", Cond.methodLink RX4 81 yX4_pointFits, Cond.instanceMethod yX4_pointFits, Cond.selects RX4 yX4_pointFits yX4_pointFits, Cond.code yX4_pointFits cX4_pointFits 8 (some .boolean), Cond.static yX5_figure, Cond.code yX5_figure cX5_figure 3 (some .int), Cond.methodLink RX4 54 yX3_advance, Cond.instanceMethod yX3_advance]
def wsX4_leastRoom_r3 : List Cond := [Cond.selects RX3 yX3_advance yX3_advance, Cond.code yX3_advance cX3_advance 4 (some .boolean), Cond.methodLink RX3 41 Lib.Math.min.name, Cond.static Lib.Math.min.name, Cond.initialized "java/lang/Math", Cond.code Lib.Math.min.name Lib.Math.min.code 2 (some .int), Cond.methodLink RX3 46 yX3_raise, Cond.instanceMethod yX3_raise, Cond.selects RX3 yX3_raise yX3_raise, Cond.code yX3_raise cX3_raise 4 none]
def wsX4_leastRoom : List Cond := .code yX4_leastRoom cX4_leastRoom 7 (some .int) :: ((wsX4_leastRoom_r1 ++ (wsX4_leastRoom_r2 ++ wsX4_leastRoom_r3)) ++ wsX40 ++ wsX10 ++ wsX30)
def wsX5_init_r1 : List Cond := [Cond.methodLink RX5 1 objectInit, Cond.instanceMethod objectInit, Cond.code objectInit ⟨#[0xb1]⟩ 1 none, Cond.classLink RX5 7 RX1, Cond.instantiable RX1 10, Cond.initialized RX1, Cond.fieldLink RX5 10 "WalkPasses" "desk" "LWalkPasses$Desk;", Cond.fieldLink RX5 16 "WalkPasses" "images" "[LWalkPasses$Desk;", Cond.classLink RX5 20 RX2, Cond.instantiable RX2 7, Cond.initialized RX2, Cond.fieldLink RX5 23 "WalkPasses" "passes" "LWalkPasses$Passes;", Cond.classLink RX5 27 RX0, Cond.instantiable RX0 8, Cond.initialized RX0, Cond.fieldLink RX5 30 "WalkPasses" "bestPlan" "LWalkPasses$Best;", Cond.classLink RX5 34 RX4, Cond.instantiable RX4 4, Cond.initialized RX4, Cond.fieldLink RX5 37 "WalkPasses" "weights" "LWalkPasses$Weights;", Cond.methodLink RX5 9 yX1_init, Cond.instanceMethod yX1_init, Cond.code yX1_init cX1_init 2 none, Cond.methodLink RX1 3 objectInit]
def wsX5_init_r2 : List Cond := [Cond.arrayClass .int, Cond.fieldLink RX1 9 "WalkPasses$Desk" "points" "[I", Cond.fieldLink RX1 15 "WalkPasses$Desk" "thicks" "[I", Cond.fieldLink RX1 18 "WalkPasses$Desk" "misreads" "[I", Cond.fieldLink RX1 21 "WalkPasses$Desk" "order" "[I", Cond.fieldLink RX1 24 "WalkPasses$Desk" "places" "[I", Cond.fieldLink RX1 27 "WalkPasses$Desk" "many" "I", Cond.fieldLink RX1 31 "WalkPasses$Desk" "rooms" "[I", Cond.fieldLink RX1 34 "WalkPasses$Desk" "codes" "[I", Cond.methodLink RX1 37 yJ7_fill_53178, Cond.static yJ7_fill_53178, Cond.initialized RJ7, Cond.code yJ7_fill_53178 cJ7_fill_53178 4 none, Cond.instanceMethod yX2_init, Cond.code yX2_init cX2_init 1 none, Cond.methodLink RX2 3 objectInit, Cond.fieldLink RX2 9 "WalkPasses$Passes" "order" "[I", Cond.fieldLink RX2 15 "WalkPasses$Passes" "spilledAt" "[I", Cond.fieldLink RX2 18 "WalkPasses$Passes" "stackerOf" "[I", Cond.classLink RX2 21 "[[I", Cond.fieldLink RX2 23 "WalkPasses$Passes" "piles" "[[I", Cond.fieldLink RX2 26 "WalkPasses$Passes" "heights" "[I", Cond.fieldLink RX2 29 "WalkPasses$Passes" "loads" "[I", Cond.instanceMethod yX0_init]
def wsX5_init_r3 : List Cond := [Cond.code yX0_init cX0_init 1 none, Cond.methodLink RX0 3 objectInit, Cond.classLink RX0 9 RX3, Cond.instantiable RX3 4, Cond.initialized RX3, Cond.fieldLink RX0 12 "WalkPasses$Best" "candidates" "LWalkPasses$Plans;", Cond.classLink RX0 18 RX2, Cond.fieldLink RX0 21 "WalkPasses$Best" "passes" "LWalkPasses$Passes;", Cond.fieldLink RX0 25 "WalkPasses$Best" "codes" "[I", Cond.instanceMethod yX3_init, Cond.code yX3_init cX3_init 1 none, Cond.methodLink RX3 3 objectInit, Cond.fieldLink RX3 9 "WalkPasses$Plans" "points" "[I", Cond.fieldLink RX3 15 "WalkPasses$Plans" "codes" "[I", Cond.instanceMethod yX4_init, Cond.code yX4_init cX4_init 1 none, Cond.methodLink RX4 3 objectInit, Cond.classLink RX4 9 RX3, Cond.fieldLink RX4 12 "WalkPasses$Weights" "candidates" "LWalkPasses$Plans;", Cond.fieldLink RX4 18 "WalkPasses$Weights" "weightOf" "[I", Cond.classLink RX4 22 "[[I", Cond.fieldLink RX4 24 "WalkPasses$Weights" "loads" "[[I", Cond.fieldLink RX4 27 "WalkPasses$Weights" "limits" "[I"]
def wsX5_init : List Cond := .code yX5_init cX5_init 2 none :: ((wsX5_init_r1 ++ (wsX5_init_r2 ++ wsX5_init_r3)) ++ wsX10 ++ wsX50 ++ wsX20 ++ wsX00 ++ wsX40 ++ wsX30)
def wsX5_isWithin : List Cond := .code yX5_isWithin cX5_isWithin 3 (some .boolean) :: ([])
def wsX5_isPoint : List Cond := .code yX5_isPoint cX5_isPoint 1 (some .boolean) :: ([.methodLink RX5 45 yX5_isWithin, .static yX5_isWithin, .initialized RX5, .code yX5_isWithin cX5_isWithin 3 (some .boolean)])
def wsX5_letter : List Cond := .code yX5_letter cX5_letter 3 (some .int) :: ([.fieldLink RX5 10 "WalkPasses" "desk" "LWalkPasses$Desk;", .methodLink RX5 41 yX5_isPoint, .static yX5_isPoint, .initialized RX5, .code yX5_isPoint cX5_isPoint 1 (some .boolean), .methodLink RX5 45 yX5_isWithin, .static yX5_isWithin, .code yX5_isWithin cX5_isWithin 3 (some .boolean), .methodLink RX5 53 yX1_add, .instanceMethod yX1_add, .selects RX1 yX1_add yX1_add, .initialized RX1, .code yX1_add cX1_add 4 (some .int), .fieldLink RX1 43 "WalkPasses$Desk" "letters" "I", .fieldLink RX1 9 "WalkPasses$Desk" "points" "[I", .fieldLink RX1 15 "WalkPasses$Desk" "thicks" "[I", .fieldLink RX1 18 "WalkPasses$Desk" "misreads" "[I", .fieldLink RX1 46 "WalkPasses$Desk" "version" "I"] ++ wsX50 ++ wsX10)
def wsX5_isLetter : List Cond := .code yX5_isLetter cX5_isLetter 2 (some .boolean) :: ([.fieldLink RX5 10 "WalkPasses" "desk" "LWalkPasses$Desk;", .methodLink RX5 45 yX5_isWithin, .static yX5_isWithin, .initialized RX5, .code yX5_isWithin cX5_isWithin 3 (some .boolean)] ++ wsX50 ++ wsX10)
def wsX5_misread : List Cond := .code yX5_misread cX5_misread 3 (some .int) :: ([.fieldLink RX5 10 "WalkPasses" "desk" "LWalkPasses$Desk;", .methodLink RX5 57 yX5_isLetter, .instanceMethod yX5_isLetter, .selects RX5 yX5_isLetter yX5_isLetter, .initialized RX5, .code yX5_isLetter cX5_isLetter 2 (some .boolean), .methodLink RX5 45 yX5_isWithin, .static yX5_isWithin, .code yX5_isWithin cX5_isWithin 3 (some .boolean), .methodLink RX5 60 yX1_mark, .instanceMethod yX1_mark, .selects RX1 yX1_mark yX1_mark, .initialized RX1, .code yX1_mark cX1_mark 3 none, .fieldLink RX1 18 "WalkPasses$Desk" "misreads" "[I", .fieldLink RX1 46 "WalkPasses$Desk" "version" "I", .methodLink RX5 64 yX1_countMisread, .instanceMethod yX1_countMisread, .selects RX1 yX1_countMisread yX1_countMisread, .code yX1_countMisread cX1_countMisread 1 (some .int), .fieldLink RX1 43 "WalkPasses$Desk" "letters" "I", .methodLink RX1 53 yX1_addFirst, .static yX1_addFirst, .code yX1_addFirst cX1_addFirst 4 (some .int)] ++ wsX50 ++ wsX10)
def wsX5_drop : List Cond := .code yX5_drop cX5_drop 2 (some .int) :: ([.fieldLink RX5 10 "WalkPasses" "desk" "LWalkPasses$Desk;", .methodLink RX5 57 yX5_isLetter, .instanceMethod yX5_isLetter, .selects RX5 yX5_isLetter yX5_isLetter, .initialized RX5, .code yX5_isLetter cX5_isLetter 2 (some .boolean), .methodLink RX5 45 yX5_isWithin, .static yX5_isWithin, .code yX5_isWithin cX5_isWithin 3 (some .boolean), .methodLink RX5 68 yX1_remove, .instanceMethod yX1_remove, .selects RX1 yX1_remove yX1_remove, .initialized RX1, .code yX1_remove cX1_remove 3 none, .fieldLink RX1 43 "WalkPasses$Desk" "letters" "I", .fieldLink RX1 9 "WalkPasses$Desk" "points" "[I", .fieldLink RX1 15 "WalkPasses$Desk" "thicks" "[I", .fieldLink RX1 18 "WalkPasses$Desk" "misreads" "[I", .fieldLink RX1 46 "WalkPasses$Desk" "version" "I"] ++ wsX50 ++ wsX10)
def wsX5_change : List Cond := .code yX5_change cX5_change 3 (some .int) :: ([.fieldLink RX5 10 "WalkPasses" "desk" "LWalkPasses$Desk;", .methodLink RX5 41 yX5_isPoint, .static yX5_isPoint, .initialized RX5, .code yX5_isPoint cX5_isPoint 1 (some .boolean), .methodLink RX5 45 yX5_isWithin, .static yX5_isWithin, .code yX5_isWithin cX5_isWithin 3 (some .boolean), .methodLink RX5 72 yX1_swap, .instanceMethod yX1_swap, .selects RX1 yX1_swap yX1_swap, .initialized RX1, .code yX1_swap cX1_swap 4 none, .fieldLink RX1 24 "WalkPasses$Desk" "places" "[I", .fieldLink RX1 21 "WalkPasses$Desk" "order" "[I", .fieldLink RX1 46 "WalkPasses$Desk" "version" "I"] ++ wsX50 ++ wsX10)
def wsX5_walk : List Cond := .code yX5_walk cX5_walk 2 (some .int) :: ([.fieldLink RX5 10 "WalkPasses" "desk" "LWalkPasses$Desk;", .methodLink RX5 45 yX5_isWithin, .static yX5_isWithin, .initialized RX5, .code yX5_isWithin cX5_isWithin 3 (some .boolean)] ++ wsX50 ++ wsX10)
def wsX5_stackers : List Cond := .code yX5_stackers cX5_stackers 3 (some .int) :: ([.fieldLink RX5 10 "WalkPasses" "desk" "LWalkPasses$Desk;", .methodLink RX5 45 yX5_isWithin, .static yX5_isWithin, .initialized RX5, .code yX5_isWithin cX5_isWithin 3 (some .boolean), .methodLink RX5 85 yX1_setMany, .instanceMethod yX1_setMany, .selects RX1 yX1_setMany yX1_setMany, .initialized RX1, .code yX1_setMany cX1_setMany 2 none, .fieldLink RX1 27 "WalkPasses$Desk" "many" "I", .fieldLink RX1 46 "WalkPasses$Desk" "version" "I"] ++ wsX50 ++ wsX10)
def wsX5_isStacker : List Cond := .code yX5_isStacker cX5_isStacker 2 (some .boolean) :: ([.fieldLink RX5 10 "WalkPasses" "desk" "LWalkPasses$Desk;", .methodLink RX5 45 yX5_isWithin, .static yX5_isWithin, .initialized RX5, .code yX5_isWithin cX5_isWithin 3 (some .boolean)] ++ wsX50 ++ wsX10)
def wsX5_room : List Cond := .code yX5_room cX5_room 4 (some .int) :: ([.fieldLink RX5 10 "WalkPasses" "desk" "LWalkPasses$Desk;", .methodLink RX5 88 yX5_isStacker, .instanceMethod yX5_isStacker, .selects RX5 yX5_isStacker yX5_isStacker, .initialized RX5, .code yX5_isStacker cX5_isStacker 2 (some .boolean), .methodLink RX5 45 yX5_isWithin, .static yX5_isWithin, .code yX5_isWithin cX5_isWithin 3 (some .boolean), .methodLink RX5 94 yX1_setRoom, .instanceMethod yX1_setRoom, .selects RX1 yX1_setRoom yX1_setRoom, .initialized RX1, .code yX1_setRoom cX1_setRoom 3 none, .fieldLink RX1 31 "WalkPasses$Desk" "rooms" "[I", .fieldLink RX1 46 "WalkPasses$Desk" "version" "I"] ++ wsX50 ++ wsX10)
def wsX5_code : List Cond := .code yX5_code cX5_code 4 (some .int) :: ([.fieldLink RX5 10 "WalkPasses" "desk" "LWalkPasses$Desk;", .methodLink RX5 41 yX5_isPoint, .static yX5_isPoint, .initialized RX5, .code yX5_isPoint cX5_isPoint 1 (some .boolean), .methodLink RX5 45 yX5_isWithin, .static yX5_isWithin, .code yX5_isWithin cX5_isWithin 3 (some .boolean)] ++ wsX50 ++ wsX10)
def wsX5_dense : List Cond := .code yX5_dense cX5_dense 1 (some .int) :: ([.fieldLink RX5 10 "WalkPasses" "desk" "LWalkPasses$Desk;", .methodLink RX5 100 yX1_codeDensely, .instanceMethod yX1_codeDensely, .selects RX1 yX1_codeDensely yX1_codeDensely, .initialized RX1, .code yX1_codeDensely cX1_codeDensely 4 (some .int), .fieldLink RX1 21 "WalkPasses$Desk" "order" "[I", .fieldLink RX1 34 "WalkPasses$Desk" "codes" "[I", .methodLink RX1 49 yX1_hasLetterAt, .instanceMethod yX1_hasLetterAt, .selects RX1 yX1_hasLetterAt yX1_hasLetterAt, .code yX1_hasLetterAt cX1_hasLetterAt 3 (some .boolean), .fieldLink RX1 43 "WalkPasses$Desk" "letters" "I", .fieldLink RX1 9 "WalkPasses$Desk" "points" "[I"] ++ wsX50 ++ wsX10)
def wsX5_of : List Cond := .code yX5_of cX5_of 3 (some .int) :: ([.fieldLink RX5 10 "WalkPasses" "desk" "LWalkPasses$Desk;", .methodLink RX5 57 yX5_isLetter, .instanceMethod yX5_isLetter, .selects RX5 yX5_isLetter yX5_isLetter, .initialized RX5, .code yX5_isLetter cX5_isLetter 2 (some .boolean), .methodLink RX5 45 yX5_isWithin, .static yX5_isWithin, .code yX5_isWithin cX5_isWithin 3 (some .boolean)] ++ wsX50 ++ wsX10)
def wsX5_isPasses : List Cond := .code yX5_isPasses cX5_isPasses 1 (some .boolean) :: ([.methodLink RX5 45 yX5_isWithin, .static yX5_isWithin, .initialized RX5, .code yX5_isWithin cX5_isWithin 3 (some .boolean)])
def wsX5_run_r1 : List Cond := [Cond.fieldLink RX5 23 "WalkPasses" "passes" "LWalkPasses$Passes;", Cond.fieldLink RX5 10 "WalkPasses" "desk" "LWalkPasses$Desk;", Cond.methodLink RX5 112 yX5_isPasses, Cond.static yX5_isPasses, Cond.initialized RX5, Cond.code yX5_isPasses cX5_isPasses 1 (some .boolean), Cond.methodLink RX5 45 yX5_isWithin, Cond.static yX5_isWithin, Cond.code yX5_isWithin cX5_isWithin 3 (some .boolean), Cond.methodLink RX5 115 yX2_perform, Cond.instanceMethod yX2_perform, Cond.selects RX2 yX2_perform yX2_perform, Cond.initialized RX2, Cond.code yX2_perform cX2_perform 4 none, Cond.methodLink RX2 32 yX2_countSpilledUpTo, Cond.instanceMethod yX2_countSpilledUpTo, Cond.selects RX2 yX2_countSpilledUpTo yX2_countSpilledUpTo, Cond.code yX2_countSpilledUpTo cX2_countSpilledUpTo 7 (some .int), Cond.fieldLink RX2 46 "WalkPasses$Passes" "coming" "I", Cond.methodLink RX2 36 yX2_begin, Cond.instanceMethod yX2_begin, Cond.selects RX2 yX2_begin yX2_begin, Cond.code yX2_begin cX2_begin 3 none, Cond.fieldLink RX2 15 "WalkPasses$Passes" "spilledAt" "[I"]
def wsX5_run_r2 : List Cond := [Cond.fieldLink RX2 9 "WalkPasses$Passes" "order" "[I", Cond.methodLink RX2 52 yX2_aim, Cond.instanceMethod yX2_aim, Cond.selects RX2 yX2_aim yX2_aim, Cond.code yX2_aim cX2_aim 5 none, Cond.fieldLink RX2 18 "WalkPasses$Passes" "stackerOf" "[I", Cond.static yX5_figure, Cond.code yX5_figure cX5_figure 3 (some .int), Cond.methodLink RX2 56 yX2_stack, Cond.instanceMethod yX2_stack, Cond.selects RX2 yX2_stack yX2_stack, Cond.code yX2_stack cX2_stack 7 none, Cond.fieldLink RX2 26 "WalkPasses$Passes" "heights" "[I", Cond.fieldLink RX2 29 "WalkPasses$Passes" "loads" "[I", Cond.fieldLink RX2 23 "WalkPasses$Passes" "piles" "[[I", Cond.methodLink RX2 71 yJ7_fill_53178, Cond.static yJ7_fill_53178, Cond.initialized RJ7, Cond.code yJ7_fill_53178 cJ7_fill_53178 4 none, Cond.methodLink RX2 60 yX2_sweep, Cond.instanceMethod yX2_sweep, Cond.selects RX2 yX2_sweep yX2_sweep, Cond.code yX2_sweep cX2_sweep 3 none, Cond.methodLink RX2 86 arraycopyName]
def wsX5_run_r3 : List Cond := [Cond.native arraycopyName, Cond.static arraycopyName, Cond.initialized "java/lang/System", Cond.methodLink RX5 122 yX2_countWrong, Cond.instanceMethod yX2_countWrong, Cond.selects RX2 yX2_countWrong yX2_countWrong, Cond.code yX2_countWrong cX2_countWrong 6 (some .int), Cond.methodLink RX5 126 yX2_countSpilledAt, Cond.instanceMethod yX2_countSpilledAt, Cond.selects RX2 yX2_countSpilledAt yX2_countSpilledAt, Cond.code yX2_countSpilledAt cX2_countSpilledAt 5 (some .int)]
def wsX5_run : List Cond := .code yX5_run cX5_run 3 (some .int) :: ((wsX5_run_r1 ++ (wsX5_run_r2 ++ wsX5_run_r3)) ++ wsX50 ++ wsX10 ++ wsX20)
def wsX5_out_r1 : List Cond := [Cond.fieldLink RX5 23 "WalkPasses" "passes" "LWalkPasses$Passes;", Cond.fieldLink RX5 10 "WalkPasses" "desk" "LWalkPasses$Desk;", Cond.methodLink RX5 112 yX5_isPasses, Cond.static yX5_isPasses, Cond.initialized RX5, Cond.code yX5_isPasses cX5_isPasses 1 (some .boolean), Cond.methodLink RX5 45 yX5_isWithin, Cond.static yX5_isWithin, Cond.code yX5_isWithin cX5_isWithin 3 (some .boolean), Cond.methodLink RX5 115 yX2_perform, Cond.instanceMethod yX2_perform, Cond.selects RX2 yX2_perform yX2_perform, Cond.initialized RX2, Cond.code yX2_perform cX2_perform 4 none, Cond.methodLink RX2 32 yX2_countSpilledUpTo, Cond.instanceMethod yX2_countSpilledUpTo, Cond.selects RX2 yX2_countSpilledUpTo yX2_countSpilledUpTo, Cond.code yX2_countSpilledUpTo cX2_countSpilledUpTo 7 (some .int), Cond.fieldLink RX2 46 "WalkPasses$Passes" "coming" "I", Cond.methodLink RX2 36 yX2_begin, Cond.instanceMethod yX2_begin, Cond.selects RX2 yX2_begin yX2_begin, Cond.code yX2_begin cX2_begin 3 none, Cond.fieldLink RX2 15 "WalkPasses$Passes" "spilledAt" "[I"]
def wsX5_out_r2 : List Cond := [Cond.fieldLink RX2 9 "WalkPasses$Passes" "order" "[I", Cond.methodLink RX2 52 yX2_aim, Cond.instanceMethod yX2_aim, Cond.selects RX2 yX2_aim yX2_aim, Cond.code yX2_aim cX2_aim 5 none, Cond.fieldLink RX2 18 "WalkPasses$Passes" "stackerOf" "[I", Cond.static yX5_figure, Cond.code yX5_figure cX5_figure 3 (some .int), Cond.methodLink RX2 56 yX2_stack, Cond.instanceMethod yX2_stack, Cond.selects RX2 yX2_stack yX2_stack, Cond.code yX2_stack cX2_stack 7 none, Cond.fieldLink RX2 26 "WalkPasses$Passes" "heights" "[I", Cond.fieldLink RX2 29 "WalkPasses$Passes" "loads" "[I", Cond.fieldLink RX2 23 "WalkPasses$Passes" "piles" "[[I", Cond.methodLink RX2 71 yJ7_fill_53178, Cond.static yJ7_fill_53178, Cond.initialized RJ7, Cond.code yJ7_fill_53178 cJ7_fill_53178 4 none, Cond.methodLink RX2 60 yX2_sweep, Cond.instanceMethod yX2_sweep, Cond.selects RX2 yX2_sweep yX2_sweep, Cond.code yX2_sweep cX2_sweep 3 none, Cond.methodLink RX2 86 arraycopyName]
def wsX5_out_r3 : List Cond := [Cond.native arraycopyName, Cond.static arraycopyName, Cond.initialized "java/lang/System"]
def wsX5_out : List Cond := .code yX5_out cX5_out 3 (some .int) :: ((wsX5_out_r1 ++ (wsX5_out_r2 ++ wsX5_out_r3)) ++ wsX50 ++ wsX10 ++ wsX20)
def wsX5_spilled_r1 : List Cond := [Cond.fieldLink RX5 23 "WalkPasses" "passes" "LWalkPasses$Passes;", Cond.fieldLink RX5 10 "WalkPasses" "desk" "LWalkPasses$Desk;", Cond.methodLink RX5 112 yX5_isPasses, Cond.static yX5_isPasses, Cond.initialized RX5, Cond.code yX5_isPasses cX5_isPasses 1 (some .boolean), Cond.methodLink RX5 45 yX5_isWithin, Cond.static yX5_isWithin, Cond.code yX5_isWithin cX5_isWithin 3 (some .boolean), Cond.methodLink RX5 57 yX5_isLetter, Cond.instanceMethod yX5_isLetter, Cond.selects RX5 yX5_isLetter yX5_isLetter, Cond.code yX5_isLetter cX5_isLetter 2 (some .boolean), Cond.methodLink RX5 115 yX2_perform, Cond.instanceMethod yX2_perform, Cond.selects RX2 yX2_perform yX2_perform, Cond.initialized RX2, Cond.code yX2_perform cX2_perform 4 none, Cond.methodLink RX2 32 yX2_countSpilledUpTo, Cond.instanceMethod yX2_countSpilledUpTo, Cond.selects RX2 yX2_countSpilledUpTo yX2_countSpilledUpTo, Cond.code yX2_countSpilledUpTo cX2_countSpilledUpTo 7 (some .int), Cond.fieldLink RX2 46 "WalkPasses$Passes" "coming" "I", Cond.methodLink RX2 36 yX2_begin]
def wsX5_spilled_r2 : List Cond := [Cond.instanceMethod yX2_begin, Cond.selects RX2 yX2_begin yX2_begin, Cond.code yX2_begin cX2_begin 3 none, Cond.fieldLink RX2 15 "WalkPasses$Passes" "spilledAt" "[I", Cond.fieldLink RX2 9 "WalkPasses$Passes" "order" "[I", Cond.methodLink RX2 52 yX2_aim, Cond.instanceMethod yX2_aim, Cond.selects RX2 yX2_aim yX2_aim, Cond.code yX2_aim cX2_aim 5 none, Cond.fieldLink RX2 18 "WalkPasses$Passes" "stackerOf" "[I", Cond.static yX5_figure, Cond.code yX5_figure cX5_figure 3 (some .int), Cond.methodLink RX2 56 yX2_stack, Cond.instanceMethod yX2_stack, Cond.selects RX2 yX2_stack yX2_stack, Cond.code yX2_stack cX2_stack 7 none, Cond.fieldLink RX2 26 "WalkPasses$Passes" "heights" "[I", Cond.fieldLink RX2 29 "WalkPasses$Passes" "loads" "[I", Cond.fieldLink RX2 23 "WalkPasses$Passes" "piles" "[[I", Cond.methodLink RX2 71 yJ7_fill_53178, Cond.static yJ7_fill_53178, Cond.initialized RJ7, Cond.code yJ7_fill_53178 cJ7_fill_53178 4 none, Cond.methodLink RX2 60 yX2_sweep]
def wsX5_spilled_r3 : List Cond := [Cond.instanceMethod yX2_sweep, Cond.selects RX2 yX2_sweep yX2_sweep, Cond.code yX2_sweep cX2_sweep 3 none, Cond.methodLink RX2 86 arraycopyName, Cond.native arraycopyName, Cond.static arraycopyName, Cond.initialized "java/lang/System"]
def wsX5_spilled : List Cond := .code yX5_spilled cX5_spilled 3 (some .int) :: ((wsX5_spilled_r1 ++ (wsX5_spilled_r2 ++ wsX5_spilled_r3)) ++ wsX50 ++ wsX10 ++ wsX20)
def wsX5_load_r1 : List Cond := [Cond.fieldLink RX5 23 "WalkPasses" "passes" "LWalkPasses$Passes;", Cond.fieldLink RX5 10 "WalkPasses" "desk" "LWalkPasses$Desk;", Cond.methodLink RX5 112 yX5_isPasses, Cond.static yX5_isPasses, Cond.initialized RX5, Cond.code yX5_isPasses cX5_isPasses 1 (some .boolean), Cond.methodLink RX5 45 yX5_isWithin, Cond.static yX5_isWithin, Cond.code yX5_isWithin cX5_isWithin 3 (some .boolean), Cond.methodLink RX5 88 yX5_isStacker, Cond.instanceMethod yX5_isStacker, Cond.selects RX5 yX5_isStacker yX5_isStacker, Cond.code yX5_isStacker cX5_isStacker 2 (some .boolean), Cond.methodLink RX5 115 yX2_perform, Cond.instanceMethod yX2_perform, Cond.selects RX2 yX2_perform yX2_perform, Cond.initialized RX2, Cond.code yX2_perform cX2_perform 4 none, Cond.methodLink RX2 32 yX2_countSpilledUpTo, Cond.instanceMethod yX2_countSpilledUpTo, Cond.selects RX2 yX2_countSpilledUpTo yX2_countSpilledUpTo, Cond.code yX2_countSpilledUpTo cX2_countSpilledUpTo 7 (some .int), Cond.fieldLink RX2 46 "WalkPasses$Passes" "coming" "I", Cond.methodLink RX2 36 yX2_begin]
def wsX5_load_r2 : List Cond := [Cond.instanceMethod yX2_begin, Cond.selects RX2 yX2_begin yX2_begin, Cond.code yX2_begin cX2_begin 3 none, Cond.fieldLink RX2 15 "WalkPasses$Passes" "spilledAt" "[I", Cond.fieldLink RX2 9 "WalkPasses$Passes" "order" "[I", Cond.methodLink RX2 52 yX2_aim, Cond.instanceMethod yX2_aim, Cond.selects RX2 yX2_aim yX2_aim, Cond.code yX2_aim cX2_aim 5 none, Cond.fieldLink RX2 18 "WalkPasses$Passes" "stackerOf" "[I", Cond.static yX5_figure, Cond.code yX5_figure cX5_figure 3 (some .int), Cond.methodLink RX2 56 yX2_stack, Cond.instanceMethod yX2_stack, Cond.selects RX2 yX2_stack yX2_stack, Cond.code yX2_stack cX2_stack 7 none, Cond.fieldLink RX2 26 "WalkPasses$Passes" "heights" "[I", Cond.fieldLink RX2 29 "WalkPasses$Passes" "loads" "[I", Cond.fieldLink RX2 23 "WalkPasses$Passes" "piles" "[[I", Cond.methodLink RX2 71 yJ7_fill_53178, Cond.static yJ7_fill_53178, Cond.initialized RJ7, Cond.code yJ7_fill_53178 cJ7_fill_53178 4 none, Cond.methodLink RX2 60 yX2_sweep]
def wsX5_load_r3 : List Cond := [Cond.instanceMethod yX2_sweep, Cond.selects RX2 yX2_sweep yX2_sweep, Cond.code yX2_sweep cX2_sweep 3 none, Cond.methodLink RX2 86 arraycopyName, Cond.native arraycopyName, Cond.static arraycopyName, Cond.initialized "java/lang/System"]
def wsX5_load : List Cond := .code yX5_load cX5_load 3 (some .int) :: ((wsX5_load_r1 ++ (wsX5_load_r2 ++ wsX5_load_r3)) ++ wsX50 ++ wsX10 ++ wsX20)
def wsX5_rise : List Cond := .code yX5_rise cX5_rise 1 (some .int) :: ([.fieldLink RX5 10 "WalkPasses" "desk" "LWalkPasses$Desk;", .methodLink RX5 137 yX1_codesRise, .instanceMethod yX1_codesRise, .selects RX1 yX1_codesRise yX1_codesRise, .initialized RX1, .code yX1_codesRise cX1_codesRise 4 (some .boolean), .fieldLink RX1 21 "WalkPasses$Desk" "order" "[I", .fieldLink RX1 34 "WalkPasses$Desk" "codes" "[I", .methodLink RX1 49 yX1_hasLetterAt, .instanceMethod yX1_hasLetterAt, .selects RX1 yX1_hasLetterAt yX1_hasLetterAt, .code yX1_hasLetterAt cX1_hasLetterAt 3 (some .boolean), .fieldLink RX1 43 "WalkPasses$Desk" "letters" "I", .fieldLink RX1 9 "WalkPasses$Desk" "points" "[I"] ++ wsX50 ++ wsX10)
def wsX5_asksCode : List Cond := .code yX5_asksCode cX5_asksCode 1 (some .boolean) :: ([.methodLink RX5 45 yX5_isWithin, .static yX5_isWithin, .initialized RX5, .code yX5_isWithin cX5_isWithin 3 (some .boolean)])
def wsX5_hasPlanCodes : List Cond := .code yX5_hasPlanCodes cX5_hasPlanCodes 2 (some .boolean) :: ([.fieldLink RX5 10 "WalkPasses" "desk" "LWalkPasses$Desk;", .methodLink RX5 194 yX5_power, .static yX5_power, .initialized RX5, .code yX5_power cX5_power 4 (some .int)] ++ wsX50 ++ wsX10)
def wsX5_best_r1 : List Cond := [Cond.fieldLink RX5 30 "WalkPasses" "bestPlan" "LWalkPasses$Best;", Cond.fieldLink RX5 10 "WalkPasses" "desk" "LWalkPasses$Desk;", Cond.methodLink RX5 112 yX5_isPasses, Cond.static yX5_isPasses, Cond.initialized RX5, Cond.code yX5_isPasses cX5_isPasses 1 (some .boolean), Cond.methodLink RX5 45 yX5_isWithin, Cond.static yX5_isWithin, Cond.code yX5_isWithin cX5_isWithin 3 (some .boolean), Cond.methodLink RX5 141 yX5_asksCode, Cond.static yX5_asksCode, Cond.code yX5_asksCode cX5_asksCode 1 (some .boolean), Cond.methodLink RX5 144 yX5_hasPlanCodes, Cond.instanceMethod yX5_hasPlanCodes, Cond.selects RX5 yX5_hasPlanCodes yX5_hasPlanCodes, Cond.code yX5_hasPlanCodes cX5_hasPlanCodes 2 (some .boolean), Cond.methodLink RX5 194 yX5_power, Cond.static yX5_power, Cond.code yX5_power cX5_power 4 (some .int), Cond.methodLink RX5 147 yX0_find, Cond.instanceMethod yX0_find, Cond.selects RX0 yX0_find yX0_find, Cond.initialized RX0, Cond.code yX0_find cX0_find 3 none]
def wsX5_best_r2 : List Cond := [Cond.fieldLink RX0 29 "WalkPasses$Best" "knownPasses" "I", Cond.fieldLink RX0 33 "WalkPasses$Best" "knownVersion" "I", Cond.methodLink RX0 41 yX0_search, Cond.instanceMethod yX0_search, Cond.selects RX0 yX0_search yX0_search, Cond.code yX0_search cX0_search 4 none, Cond.fieldLink RX0 45 "WalkPasses$Best" "least" "I", Cond.fieldLink RX0 48 "WalkPasses$Best" "ties" "I", Cond.fieldLink RX0 12 "WalkPasses$Best" "candidates" "LWalkPasses$Plans;", Cond.fieldLink RX0 55 "WalkPasses$Best" "plans" "I", Cond.fieldLink RX0 21 "WalkPasses$Best" "passes" "LWalkPasses$Passes;", Cond.methodLink RX0 51 yX3_begin, Cond.instanceMethod yX3_begin, Cond.selects RX3 yX3_begin yX3_begin, Cond.initialized RX3, Cond.code yX3_begin cX3_begin 5 (some .boolean), Cond.fieldLink RX3 28 "WalkPasses$Plans" "below" "I", Cond.fieldLink RX3 31 "WalkPasses$Plans" "size" "I", Cond.fieldLink RX3 9 "WalkPasses$Plans" "points" "[I", Cond.fieldLink RX3 15 "WalkPasses$Plans" "codes" "[I", Cond.methodLink RX3 37 yX1_hasLetterAt, Cond.instanceMethod yX1_hasLetterAt, Cond.selects RX1 yX1_hasLetterAt yX1_hasLetterAt, Cond.initialized RX1]
def wsX5_best_r3 : List Cond := [Cond.code yX1_hasLetterAt cX1_hasLetterAt 3 (some .boolean), Cond.fieldLink RX1 43 "WalkPasses$Desk" "letters" "I", Cond.fieldLink RX1 9 "WalkPasses$Desk" "points" "[I", Cond.methodLink RX0 59 yX2_countSpilledUpTo, Cond.instanceMethod yX2_countSpilledUpTo, Cond.selects RX2 yX2_countSpilledUpTo yX2_countSpilledUpTo, Cond.initialized RX2, Cond.code yX2_countSpilledUpTo cX2_countSpilledUpTo 7 (some .int), Cond.fieldLink RX2 46 "WalkPasses$Passes" "coming" "I", Cond.methodLink RX2 36 yX2_begin, Cond.instanceMethod yX2_begin, Cond.selects RX2 yX2_begin yX2_begin, Cond.code yX2_begin cX2_begin 3 none, Cond.fieldLink RX2 15 "WalkPasses$Passes" "spilledAt" "[I", Cond.fieldLink RX2 9 "WalkPasses$Passes" "order" "[I", Cond.methodLink RX2 52 yX2_aim, Cond.instanceMethod yX2_aim, Cond.selects RX2 yX2_aim yX2_aim, Cond.code yX2_aim cX2_aim 5 none, Cond.fieldLink RX2 18 "WalkPasses$Passes" "stackerOf" "[I", Cond.static yX5_figure, Cond.code yX5_figure cX5_figure 3 (some .int), Cond.methodLink RX2 56 yX2_stack, Cond.instanceMethod yX2_stack]
def wsX5_best_r4 : List Cond := [Cond.selects RX2 yX2_stack yX2_stack, Cond.code yX2_stack cX2_stack 7 none, Cond.fieldLink RX2 26 "WalkPasses$Passes" "heights" "[I", Cond.fieldLink RX2 29 "WalkPasses$Passes" "loads" "[I", Cond.fieldLink RX2 23 "WalkPasses$Passes" "piles" "[[I", Cond.methodLink RX2 71 yJ7_fill_53178, Cond.static yJ7_fill_53178, Cond.initialized RJ7, Cond.code yJ7_fill_53178 cJ7_fill_53178 4 none, Cond.methodLink RX2 60 yX2_sweep, Cond.instanceMethod yX2_sweep, Cond.selects RX2 yX2_sweep yX2_sweep, Cond.code yX2_sweep cX2_sweep 3 none, Cond.methodLink RX2 86 arraycopyName, Cond.native arraycopyName, Cond.static arraycopyName, Cond.initialized "java/lang/System", Cond.methodLink RX0 63 yX0_compare, Cond.instanceMethod yX0_compare, Cond.selects RX0 yX0_compare yX0_compare, Cond.code yX0_compare cX0_compare 2 none, Cond.fieldLink RX0 25 "WalkPasses$Best" "codes" "[I", Cond.methodLink RX0 71 arraycopyName, Cond.methodLink RX0 67 yX3_advance]
def wsX5_best_r5 : List Cond := [Cond.instanceMethod yX3_advance, Cond.selects RX3 yX3_advance yX3_advance, Cond.code yX3_advance cX3_advance 4 (some .boolean), Cond.methodLink RX3 41 Lib.Math.min.name, Cond.static Lib.Math.min.name, Cond.initialized "java/lang/Math", Cond.code Lib.Math.min.name Lib.Math.min.code 2 (some .int), Cond.methodLink RX3 46 yX3_raise, Cond.instanceMethod yX3_raise, Cond.selects RX3 yX3_raise yX3_raise, Cond.code yX3_raise cX3_raise 4 none, Cond.methodLink RX5 160 yX1_hasLetterAt]
def wsX5_best : List Cond := .code yX5_best cX5_best 4 (some .int) :: ((wsX5_best_r1 ++ (wsX5_best_r2 ++ (wsX5_best_r3 ++ (wsX5_best_r4 ++ wsX5_best_r5)))) ++ wsX50 ++ wsX00 ++ wsX10 ++ wsX30 ++ wsX20)
def wsX5_take_r1 : List Cond := [Cond.fieldLink RX5 30 "WalkPasses" "bestPlan" "LWalkPasses$Best;", Cond.fieldLink RX5 10 "WalkPasses" "desk" "LWalkPasses$Desk;", Cond.methodLink RX5 112 yX5_isPasses, Cond.static yX5_isPasses, Cond.initialized RX5, Cond.code yX5_isPasses cX5_isPasses 1 (some .boolean), Cond.methodLink RX5 45 yX5_isWithin, Cond.static yX5_isWithin, Cond.code yX5_isWithin cX5_isWithin 3 (some .boolean), Cond.methodLink RX5 144 yX5_hasPlanCodes, Cond.instanceMethod yX5_hasPlanCodes, Cond.selects RX5 yX5_hasPlanCodes yX5_hasPlanCodes, Cond.code yX5_hasPlanCodes cX5_hasPlanCodes 2 (some .boolean), Cond.methodLink RX5 194 yX5_power, Cond.static yX5_power, Cond.code yX5_power cX5_power 4 (some .int), Cond.methodLink RX5 147 yX0_find, Cond.instanceMethod yX0_find, Cond.selects RX0 yX0_find yX0_find, Cond.initialized RX0, Cond.code yX0_find cX0_find 3 none, Cond.fieldLink RX0 29 "WalkPasses$Best" "knownPasses" "I", Cond.fieldLink RX0 33 "WalkPasses$Best" "knownVersion" "I", Cond.methodLink RX0 41 yX0_search]
def wsX5_take_r2 : List Cond := [Cond.instanceMethod yX0_search, Cond.selects RX0 yX0_search yX0_search, Cond.code yX0_search cX0_search 4 none, Cond.fieldLink RX0 45 "WalkPasses$Best" "least" "I", Cond.fieldLink RX0 48 "WalkPasses$Best" "ties" "I", Cond.fieldLink RX0 12 "WalkPasses$Best" "candidates" "LWalkPasses$Plans;", Cond.fieldLink RX0 55 "WalkPasses$Best" "plans" "I", Cond.fieldLink RX0 21 "WalkPasses$Best" "passes" "LWalkPasses$Passes;", Cond.methodLink RX0 51 yX3_begin, Cond.instanceMethod yX3_begin, Cond.selects RX3 yX3_begin yX3_begin, Cond.initialized RX3, Cond.code yX3_begin cX3_begin 5 (some .boolean), Cond.fieldLink RX3 28 "WalkPasses$Plans" "below" "I", Cond.fieldLink RX3 31 "WalkPasses$Plans" "size" "I", Cond.fieldLink RX3 9 "WalkPasses$Plans" "points" "[I", Cond.fieldLink RX3 15 "WalkPasses$Plans" "codes" "[I", Cond.methodLink RX3 37 yX1_hasLetterAt, Cond.instanceMethod yX1_hasLetterAt, Cond.selects RX1 yX1_hasLetterAt yX1_hasLetterAt, Cond.initialized RX1, Cond.code yX1_hasLetterAt cX1_hasLetterAt 3 (some .boolean), Cond.fieldLink RX1 43 "WalkPasses$Desk" "letters" "I", Cond.fieldLink RX1 9 "WalkPasses$Desk" "points" "[I"]
def wsX5_take_r3 : List Cond := [Cond.methodLink RX0 59 yX2_countSpilledUpTo, Cond.instanceMethod yX2_countSpilledUpTo, Cond.selects RX2 yX2_countSpilledUpTo yX2_countSpilledUpTo, Cond.initialized RX2, Cond.code yX2_countSpilledUpTo cX2_countSpilledUpTo 7 (some .int), Cond.fieldLink RX2 46 "WalkPasses$Passes" "coming" "I", Cond.methodLink RX2 36 yX2_begin, Cond.instanceMethod yX2_begin, Cond.selects RX2 yX2_begin yX2_begin, Cond.code yX2_begin cX2_begin 3 none, Cond.fieldLink RX2 15 "WalkPasses$Passes" "spilledAt" "[I", Cond.fieldLink RX2 9 "WalkPasses$Passes" "order" "[I", Cond.methodLink RX2 52 yX2_aim, Cond.instanceMethod yX2_aim, Cond.selects RX2 yX2_aim yX2_aim, Cond.code yX2_aim cX2_aim 5 none, Cond.fieldLink RX2 18 "WalkPasses$Passes" "stackerOf" "[I", Cond.static yX5_figure, Cond.code yX5_figure cX5_figure 3 (some .int), Cond.methodLink RX2 56 yX2_stack, Cond.instanceMethod yX2_stack, Cond.selects RX2 yX2_stack yX2_stack, Cond.code yX2_stack cX2_stack 7 none, Cond.fieldLink RX2 26 "WalkPasses$Passes" "heights" "[I"]
def wsX5_take_r4 : List Cond := [Cond.fieldLink RX2 29 "WalkPasses$Passes" "loads" "[I", Cond.fieldLink RX2 23 "WalkPasses$Passes" "piles" "[[I", Cond.methodLink RX2 71 yJ7_fill_53178, Cond.static yJ7_fill_53178, Cond.initialized RJ7, Cond.code yJ7_fill_53178 cJ7_fill_53178 4 none, Cond.methodLink RX2 60 yX2_sweep, Cond.instanceMethod yX2_sweep, Cond.selects RX2 yX2_sweep yX2_sweep, Cond.code yX2_sweep cX2_sweep 3 none, Cond.methodLink RX2 86 arraycopyName, Cond.native arraycopyName, Cond.static arraycopyName, Cond.initialized "java/lang/System", Cond.methodLink RX0 63 yX0_compare, Cond.instanceMethod yX0_compare, Cond.selects RX0 yX0_compare yX0_compare, Cond.code yX0_compare cX0_compare 2 none, Cond.fieldLink RX0 25 "WalkPasses$Best" "codes" "[I", Cond.methodLink RX0 71 arraycopyName, Cond.methodLink RX0 67 yX3_advance, Cond.instanceMethod yX3_advance, Cond.selects RX3 yX3_advance yX3_advance, Cond.code yX3_advance cX3_advance 4 (some .boolean)]
def wsX5_take_r5 : List Cond := [Cond.methodLink RX3 41 Lib.Math.min.name, Cond.static Lib.Math.min.name, Cond.initialized "java/lang/Math", Cond.code Lib.Math.min.name Lib.Math.min.code 2 (some .int), Cond.methodLink RX3 46 yX3_raise, Cond.instanceMethod yX3_raise, Cond.selects RX3 yX3_raise yX3_raise, Cond.code yX3_raise cX3_raise 4 none, Cond.methodLink RX5 164 yX1_takeCodes, Cond.instanceMethod yX1_takeCodes, Cond.selects RX1 yX1_takeCodes yX1_takeCodes, Cond.code yX1_takeCodes cX1_takeCodes 3 none, Cond.fieldLink RX1 34 "WalkPasses$Desk" "codes" "[I", Cond.methodLink RX1 49 yX1_hasLetterAt]
def wsX5_take : List Cond := .code yX5_take cX5_take 2 (some .int) :: ((wsX5_take_r1 ++ (wsX5_take_r2 ++ (wsX5_take_r3 ++ (wsX5_take_r4 ++ wsX5_take_r5)))) ++ wsX50 ++ wsX00 ++ wsX10 ++ wsX30 ++ wsX20)
def wsX5_fewest_r1 : List Cond := [Cond.fieldLink RX5 37 "WalkPasses" "weights" "LWalkPasses$Weights;", Cond.fieldLink RX5 10 "WalkPasses" "desk" "LWalkPasses$Desk;", Cond.methodLink RX5 144 yX5_hasPlanCodes, Cond.instanceMethod yX5_hasPlanCodes, Cond.selects RX5 yX5_hasPlanCodes yX5_hasPlanCodes, Cond.initialized RX5, Cond.code yX5_hasPlanCodes cX5_hasPlanCodes 2 (some .boolean), Cond.methodLink RX5 194 yX5_power, Cond.static yX5_power, Cond.code yX5_power cX5_power 4 (some .int), Cond.methodLink RX5 168 yX4_somePlanFits, Cond.instanceMethod yX4_somePlanFits, Cond.selects RX4 yX4_somePlanFits yX4_somePlanFits, Cond.initialized RX4, Cond.code yX4_somePlanFits cX4_somePlanFits 6 (some .boolean), Cond.fieldLink RX4 12 "WalkPasses$Weights" "candidates" "LWalkPasses$Plans;", Cond.methodLink RX4 30 yX4_weigh, Cond.instanceMethod yX4_weigh, Cond.selects RX4 yX4_weigh yX4_weigh, Cond.code yX4_weigh cX4_weigh 3 none, Cond.fieldLink RX4 18 "WalkPasses$Weights" "weightOf" "[I", Cond.methodLink RX4 58 yJ7_fill_53178, Cond.static yJ7_fill_53178, Cond.initialized RJ7]
def wsX5_fewest_r2 : List Cond := [Cond.code yJ7_fill_53178 cJ7_fill_53178 4 none, Cond.methodLink RX4 34 yX3_begin, Cond.instanceMethod yX3_begin, Cond.selects RX3 yX3_begin yX3_begin, Cond.initialized RX3, Cond.code yX3_begin cX3_begin 5 (some .boolean), Cond.fieldLink RX3 28 "WalkPasses$Plans" "below" "I", Cond.fieldLink RX3 31 "WalkPasses$Plans" "size" "I", Cond.fieldLink RX3 9 "WalkPasses$Plans" "points" "[I", Cond.fieldLink RX3 15 "WalkPasses$Plans" "codes" "[I", Cond.methodLink RX3 37 yX1_hasLetterAt, Cond.instanceMethod yX1_hasLetterAt, Cond.selects RX1 yX1_hasLetterAt yX1_hasLetterAt, Cond.initialized RX1, Cond.code yX1_hasLetterAt cX1_hasLetterAt 3 (some .boolean), Cond.fieldLink RX1 43 "WalkPasses$Desk" "letters" "I", Cond.fieldLink RX1 9 "WalkPasses$Desk" "points" "[I", Cond.methodLink RX4 47 yX4_countFitting, Cond.instanceMethod yX4_countFitting, Cond.selects RX4 yX4_countFitting yX4_countFitting, Cond.code yX4_countFitting cX4_countFitting 5 (some .int), Cond.methodLink RX4 76 yX4_empty, Cond.instanceMethod yX4_empty, Cond.selects RX4 yX4_empty yX4_empty]
def wsX5_fewest_r3 : List Cond := [Cond.code yX4_empty cX4_empty 3 none, Cond.fieldLink RX4 24 "WalkPasses$Weights" "loads" "[[I", Cond.methodLink RX4 81 yX4_pointFits, Cond.instanceMethod yX4_pointFits, Cond.selects RX4 yX4_pointFits yX4_pointFits, Cond.code yX4_pointFits cX4_pointFits 8 (some .boolean), Cond.static yX5_figure, Cond.code yX5_figure cX5_figure 3 (some .int), Cond.methodLink RX4 54 yX3_advance, Cond.instanceMethod yX3_advance, Cond.selects RX3 yX3_advance yX3_advance, Cond.code yX3_advance cX3_advance 4 (some .boolean), Cond.methodLink RX3 41 Lib.Math.min.name, Cond.static Lib.Math.min.name, Cond.initialized "java/lang/Math", Cond.code Lib.Math.min.name Lib.Math.min.code 2 (some .int), Cond.methodLink RX3 46 yX3_raise, Cond.instanceMethod yX3_raise, Cond.selects RX3 yX3_raise yX3_raise, Cond.code yX3_raise cX3_raise 4 none]
def wsX5_fewest : List Cond := .code yX5_fewest cX5_fewest 2 (some .int) :: ((wsX5_fewest_r1 ++ (wsX5_fewest_r2 ++ wsX5_fewest_r3)) ++ wsX50 ++ wsX10 ++ wsX40 ++ wsX30)
def wsX5_needs_r1 : List Cond := [Cond.fieldLink RX5 37 "WalkPasses" "weights" "LWalkPasses$Weights;", Cond.fieldLink RX5 10 "WalkPasses" "desk" "LWalkPasses$Desk;", Cond.methodLink RX5 112 yX5_isPasses, Cond.static yX5_isPasses, Cond.initialized RX5, Cond.code yX5_isPasses cX5_isPasses 1 (some .boolean), Cond.methodLink RX5 45 yX5_isWithin, Cond.static yX5_isWithin, Cond.code yX5_isWithin cX5_isWithin 3 (some .boolean), Cond.methodLink RX5 144 yX5_hasPlanCodes, Cond.instanceMethod yX5_hasPlanCodes, Cond.selects RX5 yX5_hasPlanCodes yX5_hasPlanCodes, Cond.code yX5_hasPlanCodes cX5_hasPlanCodes 2 (some .boolean), Cond.methodLink RX5 194 yX5_power, Cond.static yX5_power, Cond.code yX5_power cX5_power 4 (some .int), Cond.methodLink RX5 172 yX4_leastRoom, Cond.instanceMethod yX4_leastRoom, Cond.selects RX4 yX4_leastRoom yX4_leastRoom, Cond.initialized RX4, Cond.code yX4_leastRoom cX4_leastRoom 7 (some .int), Cond.fieldLink RX4 12 "WalkPasses$Weights" "candidates" "LWalkPasses$Plans;", Cond.fieldLink RX4 27 "WalkPasses$Weights" "limits" "[I", Cond.methodLink RX4 30 yX4_weigh]
def wsX5_needs_r2 : List Cond := [Cond.instanceMethod yX4_weigh, Cond.selects RX4 yX4_weigh yX4_weigh, Cond.code yX4_weigh cX4_weigh 3 none, Cond.fieldLink RX4 18 "WalkPasses$Weights" "weightOf" "[I", Cond.methodLink RX4 58 yJ7_fill_53178, Cond.static yJ7_fill_53178, Cond.initialized RJ7, Cond.code yJ7_fill_53178 cJ7_fill_53178 4 none, Cond.methodLink RX4 34 yX3_begin, Cond.instanceMethod yX3_begin, Cond.selects RX3 yX3_begin yX3_begin, Cond.initialized RX3, Cond.code yX3_begin cX3_begin 5 (some .boolean), Cond.fieldLink RX3 28 "WalkPasses$Plans" "below" "I", Cond.fieldLink RX3 31 "WalkPasses$Plans" "size" "I", Cond.fieldLink RX3 9 "WalkPasses$Plans" "points" "[I", Cond.fieldLink RX3 15 "WalkPasses$Plans" "codes" "[I", Cond.methodLink RX3 37 yX1_hasLetterAt, Cond.instanceMethod yX1_hasLetterAt, Cond.selects RX1 yX1_hasLetterAt yX1_hasLetterAt, Cond.initialized RX1, Cond.code yX1_hasLetterAt cX1_hasLetterAt 3 (some .boolean), Cond.fieldLink RX1 43 "WalkPasses$Desk" "letters" "I", Cond.fieldLink RX1 9 "WalkPasses$Desk" "points" "[I"]
def wsX5_needs_r3 : List Cond := [Cond.methodLink RX4 47 yX4_countFitting, Cond.instanceMethod yX4_countFitting, Cond.selects RX4 yX4_countFitting yX4_countFitting, Cond.code yX4_countFitting cX4_countFitting 5 (some .int), Cond.methodLink RX4 76 yX4_empty, Cond.instanceMethod yX4_empty, Cond.selects RX4 yX4_empty yX4_empty, Cond.code yX4_empty cX4_empty 3 none, Cond.fieldLink RX4 24 "WalkPasses$Weights" "loads" "[[I", Cond.methodLink RX4 81 yX4_pointFits, Cond.instanceMethod yX4_pointFits, Cond.selects RX4 yX4_pointFits yX4_pointFits, Cond.code yX4_pointFits cX4_pointFits 8 (some .boolean), Cond.static yX5_figure, Cond.code yX5_figure cX5_figure 3 (some .int), Cond.methodLink RX4 54 yX3_advance, Cond.instanceMethod yX3_advance, Cond.selects RX3 yX3_advance yX3_advance, Cond.code yX3_advance cX3_advance 4 (some .boolean), Cond.methodLink RX3 41 Lib.Math.min.name, Cond.static Lib.Math.min.name, Cond.initialized "java/lang/Math", Cond.code Lib.Math.min.name Lib.Math.min.code 2 (some .int), Cond.methodLink RX3 46 yX3_raise]
def wsX5_needs_r4 : List Cond := [Cond.instanceMethod yX3_raise, Cond.selects RX3 yX3_raise yX3_raise, Cond.code yX3_raise cX3_raise 4 none]
def wsX5_needs : List Cond := .code yX5_needs cX5_needs 3 (some .int) :: ((wsX5_needs_r1 ++ (wsX5_needs_r2 ++ (wsX5_needs_r3 ++ wsX5_needs_r4))) ++ wsX50 ++ wsX10 ++ wsX40 ++ wsX30)
def wsX5_isImage : List Cond := .code yX5_isImage cX5_isImage 1 (some .boolean) :: ([.methodLink RX5 45 yX5_isWithin, .static yX5_isWithin, .initialized RX5, .code yX5_isWithin cX5_isWithin 3 (some .boolean)])
def wsX5_image_r1 : List Cond := [Cond.fieldLink RX5 16 "WalkPasses" "images" "[LWalkPasses$Desk;", Cond.fieldLink RX5 10 "WalkPasses" "desk" "LWalkPasses$Desk;", Cond.fieldLink RX5 182 "WalkPasses" "keptImages" "I", Cond.methodLink RX5 175 yX5_isImage, Cond.static yX5_isImage, Cond.initialized RX5, Cond.code yX5_isImage cX5_isImage 1 (some .boolean), Cond.methodLink RX5 45 yX5_isWithin, Cond.static yX5_isWithin, Cond.code yX5_isWithin cX5_isWithin 3 (some .boolean), Cond.methodLink RX5 178 yX1_copyFrom, Cond.instanceMethod yX1_copyFrom, Cond.selects RX1 yX1_copyFrom yX1_copyFrom, Cond.initialized RX1, Cond.code yX1_copyFrom cX1_copyFrom 2 none, Cond.fieldLink RX1 43 "WalkPasses$Desk" "letters" "I", Cond.fieldLink RX1 9 "WalkPasses$Desk" "points" "[I", Cond.fieldLink RX1 15 "WalkPasses$Desk" "thicks" "[I", Cond.fieldLink RX1 18 "WalkPasses$Desk" "misreads" "[I", Cond.fieldLink RX1 21 "WalkPasses$Desk" "order" "[I", Cond.fieldLink RX1 24 "WalkPasses$Desk" "places" "[I", Cond.fieldLink RX1 27 "WalkPasses$Desk" "many" "I", Cond.fieldLink RX1 31 "WalkPasses$Desk" "rooms" "[I", Cond.fieldLink RX1 34 "WalkPasses$Desk" "codes" "[I"]
def wsX5_image_r2 : List Cond := [Cond.fieldLink RX1 46 "WalkPasses$Desk" "version" "I", Cond.methodLink RX1 57 yX1_copyRow, Cond.static yX1_copyRow, Cond.code yX1_copyRow cX1_copyRow 2 none, Cond.methodLink RX1 61 arraycopyName, Cond.native arraycopyName, Cond.static arraycopyName, Cond.initialized "java/lang/System"]
def wsX5_image : List Cond := .code yX5_image cX5_image 2 (some .int) :: ((wsX5_image_r1 ++ wsX5_image_r2) ++ wsX50 ++ wsX10)
def wsX5_restore_r1 : List Cond := [Cond.fieldLink RX5 182 "WalkPasses" "keptImages" "I", Cond.fieldLink RX5 10 "WalkPasses" "desk" "LWalkPasses$Desk;", Cond.fieldLink RX5 16 "WalkPasses" "images" "[LWalkPasses$Desk;", Cond.methodLink RX5 175 yX5_isImage, Cond.static yX5_isImage, Cond.initialized RX5, Cond.code yX5_isImage cX5_isImage 1 (some .boolean), Cond.methodLink RX5 45 yX5_isWithin, Cond.static yX5_isWithin, Cond.code yX5_isWithin cX5_isWithin 3 (some .boolean), Cond.methodLink RX5 178 yX1_copyFrom, Cond.instanceMethod yX1_copyFrom, Cond.selects RX1 yX1_copyFrom yX1_copyFrom, Cond.initialized RX1, Cond.code yX1_copyFrom cX1_copyFrom 2 none, Cond.fieldLink RX1 43 "WalkPasses$Desk" "letters" "I", Cond.fieldLink RX1 9 "WalkPasses$Desk" "points" "[I", Cond.fieldLink RX1 15 "WalkPasses$Desk" "thicks" "[I", Cond.fieldLink RX1 18 "WalkPasses$Desk" "misreads" "[I", Cond.fieldLink RX1 21 "WalkPasses$Desk" "order" "[I", Cond.fieldLink RX1 24 "WalkPasses$Desk" "places" "[I", Cond.fieldLink RX1 27 "WalkPasses$Desk" "many" "I", Cond.fieldLink RX1 31 "WalkPasses$Desk" "rooms" "[I", Cond.fieldLink RX1 34 "WalkPasses$Desk" "codes" "[I"]
def wsX5_restore_r2 : List Cond := [Cond.fieldLink RX1 46 "WalkPasses$Desk" "version" "I", Cond.methodLink RX1 57 yX1_copyRow, Cond.static yX1_copyRow, Cond.code yX1_copyRow cX1_copyRow 2 none, Cond.methodLink RX1 61 arraycopyName, Cond.native arraycopyName, Cond.static arraycopyName, Cond.initialized "java/lang/System"]
def wsX5_restore : List Cond := .code yX5_restore cX5_restore 2 (some .int) :: ((wsX5_restore_r1 ++ wsX5_restore_r2) ++ wsX50 ++ wsX10)
def wsX5_count_r1 : List Cond := [Cond.fieldLink RX5 10 "WalkPasses" "desk" "LWalkPasses$Desk;", Cond.fieldLink RX5 182 "WalkPasses" "keptImages" "I", Cond.methodLink RX5 141 yX5_asksCode, Cond.static yX5_asksCode, Cond.initialized RX5, Cond.code yX5_asksCode cX5_asksCode 1 (some .boolean), Cond.methodLink RX5 45 yX5_isWithin, Cond.static yX5_isWithin, Cond.code yX5_isWithin cX5_isWithin 3 (some .boolean), Cond.methodLink RX5 64 yX1_countMisread, Cond.instanceMethod yX1_countMisread, Cond.selects RX1 yX1_countMisread yX1_countMisread, Cond.initialized RX1, Cond.code yX1_countMisread cX1_countMisread 1 (some .int), Cond.fieldLink RX1 18 "WalkPasses$Desk" "misreads" "[I", Cond.fieldLink RX1 43 "WalkPasses$Desk" "letters" "I", Cond.methodLink RX1 53 yX1_addFirst, Cond.static yX1_addFirst, Cond.code yX1_addFirst cX1_addFirst 4 (some .int), Cond.methodLink RX5 185 yX1_countPoints, Cond.instanceMethod yX1_countPoints, Cond.selects RX1 yX1_countPoints yX1_countPoints, Cond.code yX1_countPoints cX1_countPoints 3 (some .int), Cond.methodLink RX1 49 yX1_hasLetterAt]
def wsX5_count_r2 : List Cond := [Cond.instanceMethod yX1_hasLetterAt, Cond.selects RX1 yX1_hasLetterAt yX1_hasLetterAt, Cond.code yX1_hasLetterAt cX1_hasLetterAt 3 (some .boolean), Cond.fieldLink RX1 9 "WalkPasses$Desk" "points" "[I", Cond.methodLink RX5 188 yX1_addThicks, Cond.instanceMethod yX1_addThicks, Cond.selects RX1 yX1_addThicks yX1_addThicks, Cond.code yX1_addThicks cX1_addThicks 1 (some .int), Cond.fieldLink RX1 15 "WalkPasses$Desk" "thicks" "[I", Cond.methodLink RX5 191 yX1_addRooms, Cond.instanceMethod yX1_addRooms, Cond.selects RX1 yX1_addRooms yX1_addRooms, Cond.code yX1_addRooms cX1_addRooms 1 (some .int), Cond.fieldLink RX1 31 "WalkPasses$Desk" "rooms" "[I", Cond.fieldLink RX1 27 "WalkPasses$Desk" "many" "I"]
def wsX5_count : List Cond := .code yX5_count cX5_count 2 (some .int) :: ((wsX5_count_r1 ++ wsX5_count_r2) ++ wsX50 ++ wsX10)
def wsX6_init : List Cond := .code yX6_init cX6_init 2 none :: ([.methodLink RX6 1 objectInit, .instanceMethod objectInit, .code objectInit ⟨#[0xb1]⟩ 1 none, .arrayClass .int, .fieldLink RX6 7 "WalkPassesModel" "state" "[I", .fieldLink RX6 13 "WalkPassesModel" "images" "[I", .arrayClass .boolean, .fieldLink RX6 16 "WalkPassesModel" "isKept" "[Z", .fieldLink RX6 20 "WalkPassesModel" "row" "[I", .fieldLink RX6 23 "WalkPassesModel" "swept" "[I", .fieldLink RX6 26 "WalkPassesModel" "goesTo" "[I", .fieldLink RX6 29 "WalkPassesModel" "spilledAt" "[I", .fieldLink RX6 32 "WalkPassesModel" "load" "[I", .fieldLink RX6 35 "WalkPassesModel" "codes" "[I", .fieldLink RX6 38 "WalkPassesModel" "rooms" "[I"] ++ wsX60)
def wsX6_in : List Cond := .code yX6_in cX6_in 3 (some .boolean) :: ([])
def wsX6_isPoint : List Cond := .code yX6_isPoint cX6_isPoint 1 (some .boolean) :: ([.methodLink RX6 41 yX6_in, .static yX6_in, .initialized RX6, .code yX6_in cX6_in 3 (some .boolean)])
def wsX6_isLetter : List Cond := .code yX6_isLetter cX6_isLetter 2 (some .boolean) :: ([.fieldLink RX6 7 "WalkPassesModel" "state" "[I", .methodLink RX6 41 yX6_in, .static yX6_in, .initialized RX6, .code yX6_in cX6_in 3 (some .boolean)] ++ wsX60)
def wsX6_isStacker : List Cond := .code yX6_isStacker cX6_isStacker 2 (some .boolean) :: ([.fieldLink RX6 7 "WalkPassesModel" "state" "[I", .methodLink RX6 41 yX6_in, .static yX6_in, .initialized RX6, .code yX6_in cX6_in 3 (some .boolean)] ++ wsX60)
def wsX6_isRun : List Cond := .code yX6_isRun cX6_isRun 1 (some .boolean) :: ([.methodLink RX6 41 yX6_in, .static yX6_in, .initialized RX6, .code yX6_in cX6_in 3 (some .boolean)])
def wsX6_letter : List Cond := .code yX6_letter cX6_letter 4 (some .int) :: ([.fieldLink RX6 7 "WalkPassesModel" "state" "[I", .methodLink RX6 45 yX6_isPoint, .static yX6_isPoint, .initialized RX6, .code yX6_isPoint cX6_isPoint 1 (some .boolean), .methodLink RX6 41 yX6_in, .static yX6_in, .code yX6_in cX6_in 3 (some .boolean)] ++ wsX60)
def wsX6_misreads : List Cond := .code yX6_misreads cX6_misreads 3 (some .int) :: ([.fieldLink RX6 7 "WalkPassesModel" "state" "[I"] ++ wsX60)
def wsX6_misread : List Cond := .code yX6_misread cX6_misread 3 (some .int) :: ([.fieldLink RX6 7 "WalkPassesModel" "state" "[I", .methodLink RX6 49 yX6_isLetter, .instanceMethod yX6_isLetter, .selects RX6 yX6_isLetter yX6_isLetter, .initialized RX6, .code yX6_isLetter cX6_isLetter 2 (some .boolean), .methodLink RX6 41 yX6_in, .static yX6_in, .code yX6_in cX6_in 3 (some .boolean), .methodLink RX6 52 yX6_misreads, .instanceMethod yX6_misreads, .selects RX6 yX6_misreads yX6_misreads, .code yX6_misreads cX6_misreads 3 (some .int)] ++ wsX60)
def wsX6_drop : List Cond := .code yX6_drop cX6_drop 3 (some .int) :: ([.fieldLink RX6 7 "WalkPassesModel" "state" "[I", .methodLink RX6 49 yX6_isLetter, .instanceMethod yX6_isLetter, .selects RX6 yX6_isLetter yX6_isLetter, .initialized RX6, .code yX6_isLetter cX6_isLetter 2 (some .boolean), .methodLink RX6 41 yX6_in, .static yX6_in, .code yX6_in cX6_in 3 (some .boolean)] ++ wsX60)
def wsX6_placeOf : List Cond := .code yX6_placeOf cX6_placeOf 4 (some .int) :: ([.fieldLink RX6 7 "WalkPassesModel" "state" "[I"] ++ wsX60)
def wsX6_change : List Cond := .code yX6_change cX6_change 5 (some .int) :: ([.fieldLink RX6 7 "WalkPassesModel" "state" "[I", .methodLink RX6 45 yX6_isPoint, .static yX6_isPoint, .initialized RX6, .code yX6_isPoint cX6_isPoint 1 (some .boolean), .methodLink RX6 41 yX6_in, .static yX6_in, .code yX6_in cX6_in 3 (some .boolean), .methodLink RX6 56 yX6_placeOf, .instanceMethod yX6_placeOf, .selects RX6 yX6_placeOf yX6_placeOf, .code yX6_placeOf cX6_placeOf 4 (some .int)] ++ wsX60)
def wsX6_walk : List Cond := .code yX6_walk cX6_walk 2 (some .int) :: ([.fieldLink RX6 7 "WalkPassesModel" "state" "[I", .methodLink RX6 41 yX6_in, .static yX6_in, .initialized RX6, .code yX6_in cX6_in 3 (some .boolean)] ++ wsX60)
def wsX6_stackers : List Cond := .code yX6_stackers cX6_stackers 3 (some .int) :: ([.fieldLink RX6 7 "WalkPassesModel" "state" "[I", .methodLink RX6 41 yX6_in, .static yX6_in, .initialized RX6, .code yX6_in cX6_in 3 (some .boolean)] ++ wsX60)
def wsX6_room : List Cond := .code yX6_room cX6_room 4 (some .int) :: ([.fieldLink RX6 7 "WalkPassesModel" "state" "[I", .methodLink RX6 60 yX6_isStacker, .instanceMethod yX6_isStacker, .selects RX6 yX6_isStacker yX6_isStacker, .initialized RX6, .code yX6_isStacker cX6_isStacker 2 (some .boolean), .methodLink RX6 41 yX6_in, .static yX6_in, .code yX6_in cX6_in 3 (some .boolean)] ++ wsX60)
def wsX6_code : List Cond := .code yX6_code cX6_code 4 (some .int) :: ([.fieldLink RX6 7 "WalkPassesModel" "state" "[I", .methodLink RX6 45 yX6_isPoint, .static yX6_isPoint, .initialized RX6, .code yX6_isPoint cX6_isPoint 1 (some .boolean), .methodLink RX6 41 yX6_in, .static yX6_in, .code yX6_in cX6_in 3 (some .boolean)] ++ wsX60)
def wsX6_isUsed : List Cond := .code yX6_isUsed cX6_isUsed 4 (some .boolean) :: ([.fieldLink RX6 7 "WalkPassesModel" "state" "[I"] ++ wsX60)
def wsX6_dense : List Cond := .code yX6_dense cX6_dense 3 (some .int) :: ([.fieldLink RX6 7 "WalkPassesModel" "state" "[I", .methodLink RX6 63 yX6_isUsed, .instanceMethod yX6_isUsed, .selects RX6 yX6_isUsed yX6_isUsed, .initialized RX6, .code yX6_isUsed cX6_isUsed 4 (some .boolean)] ++ wsX60)
def wsX6_of : List Cond := .code yX6_of cX6_of 3 (some .int) :: ([.fieldLink RX6 7 "WalkPassesModel" "state" "[I", .methodLink RX6 49 yX6_isLetter, .instanceMethod yX6_isLetter, .selects RX6 yX6_isLetter yX6_isLetter, .initialized RX6, .code yX6_isLetter cX6_isLetter 2 (some .boolean), .methodLink RX6 41 yX6_in, .static yX6_in, .code yX6_in cX6_in 3 (some .boolean)] ++ wsX60)
def wsX6_figure : List Cond := .code yX6_figure cX6_figure 5 (some .int) :: ([.fieldLink RX6 7 "WalkPassesModel" "state" "[I"] ++ wsX60)
def wsX6_place : List Cond := .code yX6_place cX6_place 4 (some .int) :: ([.fieldLink RX6 7 "WalkPassesModel" "state" "[I", .fieldLink RX6 32 "WalkPassesModel" "load" "[I", .methodLink RX6 66 yX6_figure, .instanceMethod yX6_figure, .selects RX6 yX6_figure yX6_figure, .initialized RX6, .code yX6_figure cX6_figure 5 (some .int)] ++ wsX60)
def wsX6_pass : List Cond := .code yX6_pass cX6_pass 4 none :: ([.fieldLink RX6 32 "WalkPassesModel" "load" "[I", .fieldLink RX6 70 "WalkPassesModel" "rowMany" "I", .fieldLink RX6 20 "WalkPassesModel" "row" "[I", .fieldLink RX6 26 "WalkPassesModel" "goesTo" "[I", .fieldLink RX6 29 "WalkPassesModel" "spilledAt" "[I", .fieldLink RX6 77 "WalkPassesModel" "sweptMany" "I", .fieldLink RX6 7 "WalkPassesModel" "state" "[I", .fieldLink RX6 23 "WalkPassesModel" "swept" "[I", .methodLink RX6 74 yX6_place, .instanceMethod yX6_place, .selects RX6 yX6_place yX6_place, .initialized RX6, .code yX6_place cX6_place 4 (some .int), .methodLink RX6 66 yX6_figure, .instanceMethod yX6_figure, .selects RX6 yX6_figure yX6_figure, .code yX6_figure cX6_figure 5 (some .int)] ++ wsX60)
def wsX6_goRun : List Cond := .code yX6_goRun cX6_goRun 3 none :: ([.fieldLink RX6 7 "WalkPassesModel" "state" "[I", .fieldLink RX6 70 "WalkPassesModel" "rowMany" "I", .fieldLink RX6 20 "WalkPassesModel" "row" "[I", .methodLink RX6 80 yX6_pass, .instanceMethod yX6_pass, .selects RX6 yX6_pass yX6_pass, .initialized RX6, .code yX6_pass cX6_pass 4 none, .fieldLink RX6 32 "WalkPassesModel" "load" "[I", .fieldLink RX6 26 "WalkPassesModel" "goesTo" "[I", .fieldLink RX6 29 "WalkPassesModel" "spilledAt" "[I", .fieldLink RX6 77 "WalkPassesModel" "sweptMany" "I", .fieldLink RX6 23 "WalkPassesModel" "swept" "[I", .methodLink RX6 74 yX6_place, .instanceMethod yX6_place, .selects RX6 yX6_place yX6_place, .code yX6_place cX6_place 4 (some .int), .methodLink RX6 66 yX6_figure, .instanceMethod yX6_figure, .selects RX6 yX6_figure yX6_figure, .code yX6_figure cX6_figure 5 (some .int)] ++ wsX60)
def wsX6_wrong : List Cond := .code yX6_wrong cX6_wrong 4 (some .int) :: ([.fieldLink RX6 70 "WalkPassesModel" "rowMany" "I", .fieldLink RX6 7 "WalkPassesModel" "state" "[I", .fieldLink RX6 20 "WalkPassesModel" "row" "[I", .methodLink RX6 56 yX6_placeOf, .instanceMethod yX6_placeOf, .selects RX6 yX6_placeOf yX6_placeOf, .initialized RX6, .code yX6_placeOf cX6_placeOf 4 (some .int)] ++ wsX60)
def wsX6_spilledIn : List Cond := .code yX6_spilledIn cX6_spilledIn 4 (some .int) :: ([.fieldLink RX6 7 "WalkPassesModel" "state" "[I", .fieldLink RX6 29 "WalkPassesModel" "spilledAt" "[I"] ++ wsX60)
def wsX6_run_r1 : List Cond := [Cond.fieldLink RX6 70 "WalkPassesModel" "rowMany" "I", Cond.fieldLink RX6 7 "WalkPassesModel" "state" "[I", Cond.methodLink RX6 84 yX6_isRun, Cond.static yX6_isRun, Cond.initialized RX6, Cond.code yX6_isRun cX6_isRun 1 (some .boolean), Cond.methodLink RX6 41 yX6_in, Cond.static yX6_in, Cond.code yX6_in cX6_in 3 (some .boolean), Cond.methodLink RX6 87 yX6_goRun, Cond.instanceMethod yX6_goRun, Cond.selects RX6 yX6_goRun yX6_goRun, Cond.code yX6_goRun cX6_goRun 3 none, Cond.fieldLink RX6 20 "WalkPassesModel" "row" "[I", Cond.methodLink RX6 80 yX6_pass, Cond.instanceMethod yX6_pass, Cond.selects RX6 yX6_pass yX6_pass, Cond.code yX6_pass cX6_pass 4 none, Cond.fieldLink RX6 32 "WalkPassesModel" "load" "[I", Cond.fieldLink RX6 26 "WalkPassesModel" "goesTo" "[I", Cond.fieldLink RX6 29 "WalkPassesModel" "spilledAt" "[I", Cond.fieldLink RX6 77 "WalkPassesModel" "sweptMany" "I", Cond.fieldLink RX6 23 "WalkPassesModel" "swept" "[I", Cond.methodLink RX6 74 yX6_place]
def wsX6_run_r2 : List Cond := [Cond.instanceMethod yX6_place, Cond.selects RX6 yX6_place yX6_place, Cond.code yX6_place cX6_place 4 (some .int), Cond.methodLink RX6 66 yX6_figure, Cond.instanceMethod yX6_figure, Cond.selects RX6 yX6_figure yX6_figure, Cond.code yX6_figure cX6_figure 5 (some .int), Cond.methodLink RX6 90 yX6_wrong, Cond.instanceMethod yX6_wrong, Cond.selects RX6 yX6_wrong yX6_wrong, Cond.code yX6_wrong cX6_wrong 4 (some .int), Cond.methodLink RX6 56 yX6_placeOf, Cond.instanceMethod yX6_placeOf, Cond.selects RX6 yX6_placeOf yX6_placeOf, Cond.code yX6_placeOf cX6_placeOf 4 (some .int), Cond.methodLink RX6 93 yX6_spilledIn, Cond.instanceMethod yX6_spilledIn, Cond.selects RX6 yX6_spilledIn yX6_spilledIn, Cond.code yX6_spilledIn cX6_spilledIn 4 (some .int)]
def wsX6_run : List Cond := .code yX6_run cX6_run 3 (some .int) :: ((wsX6_run_r1 ++ wsX6_run_r2) ++ wsX60)
def wsX6_out_r1 : List Cond := [Cond.fieldLink RX6 70 "WalkPassesModel" "rowMany" "I", Cond.fieldLink RX6 20 "WalkPassesModel" "row" "[I", Cond.methodLink RX6 84 yX6_isRun, Cond.static yX6_isRun, Cond.initialized RX6, Cond.code yX6_isRun cX6_isRun 1 (some .boolean), Cond.methodLink RX6 41 yX6_in, Cond.static yX6_in, Cond.code yX6_in cX6_in 3 (some .boolean), Cond.methodLink RX6 87 yX6_goRun, Cond.instanceMethod yX6_goRun, Cond.selects RX6 yX6_goRun yX6_goRun, Cond.code yX6_goRun cX6_goRun 3 none, Cond.fieldLink RX6 7 "WalkPassesModel" "state" "[I", Cond.methodLink RX6 80 yX6_pass, Cond.instanceMethod yX6_pass, Cond.selects RX6 yX6_pass yX6_pass, Cond.code yX6_pass cX6_pass 4 none, Cond.fieldLink RX6 32 "WalkPassesModel" "load" "[I", Cond.fieldLink RX6 26 "WalkPassesModel" "goesTo" "[I", Cond.fieldLink RX6 29 "WalkPassesModel" "spilledAt" "[I", Cond.fieldLink RX6 77 "WalkPassesModel" "sweptMany" "I", Cond.fieldLink RX6 23 "WalkPassesModel" "swept" "[I", Cond.methodLink RX6 74 yX6_place]
def wsX6_out_r2 : List Cond := [Cond.instanceMethod yX6_place, Cond.selects RX6 yX6_place yX6_place, Cond.code yX6_place cX6_place 4 (some .int), Cond.methodLink RX6 66 yX6_figure, Cond.instanceMethod yX6_figure, Cond.selects RX6 yX6_figure yX6_figure, Cond.code yX6_figure cX6_figure 5 (some .int)]
def wsX6_out : List Cond := .code yX6_out cX6_out 3 (some .int) :: ((wsX6_out_r1 ++ wsX6_out_r2) ++ wsX60)
def wsX6_spilled_r1 : List Cond := [Cond.fieldLink RX6 29 "WalkPassesModel" "spilledAt" "[I", Cond.methodLink RX6 84 yX6_isRun, Cond.static yX6_isRun, Cond.initialized RX6, Cond.code yX6_isRun cX6_isRun 1 (some .boolean), Cond.methodLink RX6 41 yX6_in, Cond.static yX6_in, Cond.code yX6_in cX6_in 3 (some .boolean), Cond.methodLink RX6 49 yX6_isLetter, Cond.instanceMethod yX6_isLetter, Cond.selects RX6 yX6_isLetter yX6_isLetter, Cond.code yX6_isLetter cX6_isLetter 2 (some .boolean), Cond.fieldLink RX6 7 "WalkPassesModel" "state" "[I", Cond.methodLink RX6 87 yX6_goRun, Cond.instanceMethod yX6_goRun, Cond.selects RX6 yX6_goRun yX6_goRun, Cond.code yX6_goRun cX6_goRun 3 none, Cond.fieldLink RX6 70 "WalkPassesModel" "rowMany" "I", Cond.fieldLink RX6 20 "WalkPassesModel" "row" "[I", Cond.methodLink RX6 80 yX6_pass, Cond.instanceMethod yX6_pass, Cond.selects RX6 yX6_pass yX6_pass, Cond.code yX6_pass cX6_pass 4 none, Cond.fieldLink RX6 32 "WalkPassesModel" "load" "[I"]
def wsX6_spilled_r2 : List Cond := [Cond.fieldLink RX6 26 "WalkPassesModel" "goesTo" "[I", Cond.fieldLink RX6 77 "WalkPassesModel" "sweptMany" "I", Cond.fieldLink RX6 23 "WalkPassesModel" "swept" "[I", Cond.methodLink RX6 74 yX6_place, Cond.instanceMethod yX6_place, Cond.selects RX6 yX6_place yX6_place, Cond.code yX6_place cX6_place 4 (some .int), Cond.methodLink RX6 66 yX6_figure, Cond.instanceMethod yX6_figure, Cond.selects RX6 yX6_figure yX6_figure, Cond.code yX6_figure cX6_figure 5 (some .int)]
def wsX6_spilled : List Cond := .code yX6_spilled cX6_spilled 3 (some .int) :: ((wsX6_spilled_r1 ++ wsX6_spilled_r2) ++ wsX60)
def wsX6_load_r1 : List Cond := [Cond.fieldLink RX6 32 "WalkPassesModel" "load" "[I", Cond.methodLink RX6 84 yX6_isRun, Cond.static yX6_isRun, Cond.initialized RX6, Cond.code yX6_isRun cX6_isRun 1 (some .boolean), Cond.methodLink RX6 41 yX6_in, Cond.static yX6_in, Cond.code yX6_in cX6_in 3 (some .boolean), Cond.methodLink RX6 60 yX6_isStacker, Cond.instanceMethod yX6_isStacker, Cond.selects RX6 yX6_isStacker yX6_isStacker, Cond.code yX6_isStacker cX6_isStacker 2 (some .boolean), Cond.fieldLink RX6 7 "WalkPassesModel" "state" "[I", Cond.methodLink RX6 87 yX6_goRun, Cond.instanceMethod yX6_goRun, Cond.selects RX6 yX6_goRun yX6_goRun, Cond.code yX6_goRun cX6_goRun 3 none, Cond.fieldLink RX6 70 "WalkPassesModel" "rowMany" "I", Cond.fieldLink RX6 20 "WalkPassesModel" "row" "[I", Cond.methodLink RX6 80 yX6_pass, Cond.instanceMethod yX6_pass, Cond.selects RX6 yX6_pass yX6_pass, Cond.code yX6_pass cX6_pass 4 none, Cond.fieldLink RX6 26 "WalkPassesModel" "goesTo" "[I"]
def wsX6_load_r2 : List Cond := [Cond.fieldLink RX6 29 "WalkPassesModel" "spilledAt" "[I", Cond.fieldLink RX6 77 "WalkPassesModel" "sweptMany" "I", Cond.fieldLink RX6 23 "WalkPassesModel" "swept" "[I", Cond.methodLink RX6 74 yX6_place, Cond.instanceMethod yX6_place, Cond.selects RX6 yX6_place yX6_place, Cond.code yX6_place cX6_place 4 (some .int), Cond.methodLink RX6 66 yX6_figure, Cond.instanceMethod yX6_figure, Cond.selects RX6 yX6_figure yX6_figure, Cond.code yX6_figure cX6_figure 5 (some .int)]
def wsX6_load : List Cond := .code yX6_load cX6_load 3 (some .int) :: ((wsX6_load_r1 ++ wsX6_load_r2) ++ wsX60)
def wsX6_rise : List Cond := .code yX6_rise cX6_rise 4 (some .int) :: ([.fieldLink RX6 7 "WalkPassesModel" "state" "[I", .methodLink RX6 63 yX6_isUsed, .instanceMethod yX6_isUsed, .selects RX6 yX6_isUsed yX6_isUsed, .initialized RX6, .code yX6_isUsed cX6_isUsed 4 (some .boolean)] ++ wsX60)
def wsX6_power : List Cond := .code yX6_power cX6_power 4 (some .int) :: ([.fieldLink RX6 7 "WalkPassesModel" "state" "[I"] ++ wsX60)
def wsX6_size : List Cond := .code yX6_size cX6_size 3 (some .int) :: ([])
def wsX6_usedMany : List Cond := .code yX6_usedMany cX6_usedMany 3 (some .int) :: ([.methodLink RX6 63 yX6_isUsed, .instanceMethod yX6_isUsed, .selects RX6 yX6_isUsed yX6_isUsed, .initialized RX6, .code yX6_isUsed cX6_isUsed 4 (some .boolean), .fieldLink RX6 7 "WalkPassesModel" "state" "[I"] ++ wsX60)
def wsX6_takeCodes : List Cond := .code yX6_takeCodes cX6_takeCodes 4 none :: ([.fieldLink RX6 7 "WalkPassesModel" "state" "[I", .methodLink RX6 63 yX6_isUsed, .instanceMethod yX6_isUsed, .selects RX6 yX6_isUsed yX6_isUsed, .initialized RX6, .code yX6_isUsed cX6_isUsed 4 (some .boolean)] ++ wsX60)
def wsX6_saveCodes : List Cond := .code yX6_saveCodes cX6_saveCodes 2 none :: ([.fieldLink RX6 35 "WalkPassesModel" "codes" "[I", .fieldLink RX6 7 "WalkPassesModel" "state" "[I"] ++ wsX60)
def wsX6_loadCodes : List Cond := .code yX6_loadCodes cX6_loadCodes 2 none :: ([.fieldLink RX6 7 "WalkPassesModel" "state" "[I", .fieldLink RX6 35 "WalkPassesModel" "codes" "[I"] ++ wsX60)
def wsX6_isAhead : List Cond := .code yX6_isAhead cX6_isAhead 3 (some .boolean) :: ([])
def wsX6_tryPlan_r1 : List Cond := [Cond.fieldLink RX6 7 "WalkPassesModel" "state" "[I", Cond.fieldLink RX6 70 "WalkPassesModel" "rowMany" "I", Cond.fieldLink RX6 99 "WalkPassesModel" "plans" "I", Cond.fieldLink RX6 102 "WalkPassesModel" "bestPlan" "I", Cond.fieldLink RX6 105 "WalkPassesModel" "cost" "I", Cond.fieldLink RX6 108 "WalkPassesModel" "asGood" "I", Cond.methodLink RX6 96 yX6_takeCodes, Cond.instanceMethod yX6_takeCodes, Cond.selects RX6 yX6_takeCodes yX6_takeCodes, Cond.initialized RX6, Cond.code yX6_takeCodes cX6_takeCodes 4 none, Cond.methodLink RX6 63 yX6_isUsed, Cond.instanceMethod yX6_isUsed, Cond.selects RX6 yX6_isUsed yX6_isUsed, Cond.code yX6_isUsed cX6_isUsed 4 (some .boolean), Cond.methodLink RX6 87 yX6_goRun, Cond.instanceMethod yX6_goRun, Cond.selects RX6 yX6_goRun yX6_goRun, Cond.code yX6_goRun cX6_goRun 3 none, Cond.fieldLink RX6 20 "WalkPassesModel" "row" "[I", Cond.methodLink RX6 80 yX6_pass, Cond.instanceMethod yX6_pass, Cond.selects RX6 yX6_pass yX6_pass, Cond.code yX6_pass cX6_pass 4 none]
def wsX6_tryPlan_r2 : List Cond := [Cond.fieldLink RX6 32 "WalkPassesModel" "load" "[I", Cond.fieldLink RX6 26 "WalkPassesModel" "goesTo" "[I", Cond.fieldLink RX6 29 "WalkPassesModel" "spilledAt" "[I", Cond.fieldLink RX6 77 "WalkPassesModel" "sweptMany" "I", Cond.fieldLink RX6 23 "WalkPassesModel" "swept" "[I", Cond.methodLink RX6 74 yX6_place, Cond.instanceMethod yX6_place, Cond.selects RX6 yX6_place yX6_place, Cond.code yX6_place cX6_place 4 (some .int), Cond.methodLink RX6 66 yX6_figure, Cond.instanceMethod yX6_figure, Cond.selects RX6 yX6_figure yX6_figure, Cond.code yX6_figure cX6_figure 5 (some .int), Cond.methodLink RX6 111 yX6_isAhead, Cond.static yX6_isAhead, Cond.code yX6_isAhead cX6_isAhead 3 (some .boolean)]
def wsX6_tryPlan : List Cond := .code yX6_tryPlan cX6_tryPlan 4 none :: ((wsX6_tryPlan_r1 ++ wsX6_tryPlan_r2) ++ wsX60)
def wsX6_layBest_r1 : List Cond := [Cond.fieldLink RX6 99 "WalkPassesModel" "plans" "I", Cond.fieldLink RX6 108 "WalkPassesModel" "asGood" "I", Cond.fieldLink RX6 102 "WalkPassesModel" "bestPlan" "I", Cond.fieldLink RX6 105 "WalkPassesModel" "cost" "I", Cond.methodLink RX6 115 yX6_usedMany, Cond.instanceMethod yX6_usedMany, Cond.selects RX6 yX6_usedMany yX6_usedMany, Cond.initialized RX6, Cond.code yX6_usedMany cX6_usedMany 3 (some .int), Cond.methodLink RX6 63 yX6_isUsed, Cond.instanceMethod yX6_isUsed, Cond.selects RX6 yX6_isUsed yX6_isUsed, Cond.code yX6_isUsed cX6_isUsed 4 (some .boolean), Cond.fieldLink RX6 7 "WalkPassesModel" "state" "[I", Cond.methodLink RX6 118 yX6_saveCodes, Cond.instanceMethod yX6_saveCodes, Cond.selects RX6 yX6_saveCodes yX6_saveCodes, Cond.code yX6_saveCodes cX6_saveCodes 2 none, Cond.fieldLink RX6 35 "WalkPassesModel" "codes" "[I", Cond.methodLink RX6 121 yX6_power, Cond.instanceMethod yX6_power, Cond.selects RX6 yX6_power yX6_power, Cond.code yX6_power cX6_power 4 (some .int), Cond.methodLink RX6 124 yX6_size]
def wsX6_layBest_r2 : List Cond := [Cond.static yX6_size, Cond.code yX6_size cX6_size 3 (some .int), Cond.methodLink RX6 127 yX6_tryPlan, Cond.instanceMethod yX6_tryPlan, Cond.selects RX6 yX6_tryPlan yX6_tryPlan, Cond.code yX6_tryPlan cX6_tryPlan 4 none, Cond.fieldLink RX6 70 "WalkPassesModel" "rowMany" "I", Cond.methodLink RX6 96 yX6_takeCodes, Cond.instanceMethod yX6_takeCodes, Cond.selects RX6 yX6_takeCodes yX6_takeCodes, Cond.code yX6_takeCodes cX6_takeCodes 4 none, Cond.methodLink RX6 87 yX6_goRun, Cond.instanceMethod yX6_goRun, Cond.selects RX6 yX6_goRun yX6_goRun, Cond.code yX6_goRun cX6_goRun 3 none, Cond.fieldLink RX6 20 "WalkPassesModel" "row" "[I", Cond.methodLink RX6 80 yX6_pass, Cond.instanceMethod yX6_pass, Cond.selects RX6 yX6_pass yX6_pass, Cond.code yX6_pass cX6_pass 4 none, Cond.fieldLink RX6 32 "WalkPassesModel" "load" "[I", Cond.fieldLink RX6 26 "WalkPassesModel" "goesTo" "[I", Cond.fieldLink RX6 29 "WalkPassesModel" "spilledAt" "[I", Cond.fieldLink RX6 77 "WalkPassesModel" "sweptMany" "I"]
def wsX6_layBest_r3 : List Cond := [Cond.fieldLink RX6 23 "WalkPassesModel" "swept" "[I", Cond.methodLink RX6 74 yX6_place, Cond.instanceMethod yX6_place, Cond.selects RX6 yX6_place yX6_place, Cond.code yX6_place cX6_place 4 (some .int), Cond.methodLink RX6 66 yX6_figure, Cond.instanceMethod yX6_figure, Cond.selects RX6 yX6_figure yX6_figure, Cond.code yX6_figure cX6_figure 5 (some .int), Cond.methodLink RX6 111 yX6_isAhead, Cond.static yX6_isAhead, Cond.code yX6_isAhead cX6_isAhead 3 (some .boolean), Cond.methodLink RX6 131 yX6_loadCodes, Cond.instanceMethod yX6_loadCodes, Cond.selects RX6 yX6_loadCodes yX6_loadCodes, Cond.code yX6_loadCodes cX6_loadCodes 2 none]
def wsX6_layBest : List Cond := .code yX6_layBest cX6_layBest 4 none :: ((wsX6_layBest_r1 ++ (wsX6_layBest_r2 ++ wsX6_layBest_r3)) ++ wsX60)
def wsX6_codeOf : List Cond := .code yX6_codeOf cX6_codeOf 3 (some .int) :: ([.fieldLink RX6 102 "WalkPassesModel" "bestPlan" "I", .fieldLink RX6 7 "WalkPassesModel" "state" "[I", .methodLink RX6 63 yX6_isUsed, .instanceMethod yX6_isUsed, .selects RX6 yX6_isUsed yX6_isUsed, .initialized RX6, .code yX6_isUsed cX6_isUsed 4 (some .boolean), .methodLink RX6 118 yX6_saveCodes, .instanceMethod yX6_saveCodes, .selects RX6 yX6_saveCodes yX6_saveCodes, .code yX6_saveCodes cX6_saveCodes 2 none, .fieldLink RX6 35 "WalkPassesModel" "codes" "[I", .methodLink RX6 96 yX6_takeCodes, .instanceMethod yX6_takeCodes, .selects RX6 yX6_takeCodes yX6_takeCodes, .code yX6_takeCodes cX6_takeCodes 4 none, .methodLink RX6 131 yX6_loadCodes, .instanceMethod yX6_loadCodes, .selects RX6 yX6_loadCodes yX6_loadCodes, .code yX6_loadCodes cX6_loadCodes 2 none] ++ wsX60)
def wsX6_best_r1 : List Cond := [Cond.fieldLink RX6 99 "WalkPassesModel" "plans" "I", Cond.fieldLink RX6 105 "WalkPassesModel" "cost" "I", Cond.fieldLink RX6 108 "WalkPassesModel" "asGood" "I", Cond.methodLink RX6 84 yX6_isRun, Cond.static yX6_isRun, Cond.initialized RX6, Cond.code yX6_isRun cX6_isRun 1 (some .boolean), Cond.methodLink RX6 41 yX6_in, Cond.static yX6_in, Cond.code yX6_in cX6_in 3 (some .boolean), Cond.methodLink RX6 121 yX6_power, Cond.instanceMethod yX6_power, Cond.selects RX6 yX6_power yX6_power, Cond.code yX6_power cX6_power 4 (some .int), Cond.fieldLink RX6 7 "WalkPassesModel" "state" "[I", Cond.methodLink RX6 134 yX6_layBest, Cond.instanceMethod yX6_layBest, Cond.selects RX6 yX6_layBest yX6_layBest, Cond.code yX6_layBest cX6_layBest 4 none, Cond.fieldLink RX6 102 "WalkPassesModel" "bestPlan" "I", Cond.methodLink RX6 115 yX6_usedMany, Cond.instanceMethod yX6_usedMany, Cond.selects RX6 yX6_usedMany yX6_usedMany, Cond.code yX6_usedMany cX6_usedMany 3 (some .int)]
def wsX6_best_r2 : List Cond := [Cond.methodLink RX6 63 yX6_isUsed, Cond.instanceMethod yX6_isUsed, Cond.selects RX6 yX6_isUsed yX6_isUsed, Cond.code yX6_isUsed cX6_isUsed 4 (some .boolean), Cond.methodLink RX6 118 yX6_saveCodes, Cond.instanceMethod yX6_saveCodes, Cond.selects RX6 yX6_saveCodes yX6_saveCodes, Cond.code yX6_saveCodes cX6_saveCodes 2 none, Cond.fieldLink RX6 35 "WalkPassesModel" "codes" "[I", Cond.methodLink RX6 124 yX6_size, Cond.static yX6_size, Cond.code yX6_size cX6_size 3 (some .int), Cond.methodLink RX6 127 yX6_tryPlan, Cond.instanceMethod yX6_tryPlan, Cond.selects RX6 yX6_tryPlan yX6_tryPlan, Cond.code yX6_tryPlan cX6_tryPlan 4 none, Cond.fieldLink RX6 70 "WalkPassesModel" "rowMany" "I", Cond.methodLink RX6 96 yX6_takeCodes, Cond.instanceMethod yX6_takeCodes, Cond.selects RX6 yX6_takeCodes yX6_takeCodes, Cond.code yX6_takeCodes cX6_takeCodes 4 none, Cond.methodLink RX6 87 yX6_goRun, Cond.instanceMethod yX6_goRun, Cond.selects RX6 yX6_goRun yX6_goRun]
def wsX6_best_r3 : List Cond := [Cond.code yX6_goRun cX6_goRun 3 none, Cond.fieldLink RX6 20 "WalkPassesModel" "row" "[I", Cond.methodLink RX6 80 yX6_pass, Cond.instanceMethod yX6_pass, Cond.selects RX6 yX6_pass yX6_pass, Cond.code yX6_pass cX6_pass 4 none, Cond.fieldLink RX6 32 "WalkPassesModel" "load" "[I", Cond.fieldLink RX6 26 "WalkPassesModel" "goesTo" "[I", Cond.fieldLink RX6 29 "WalkPassesModel" "spilledAt" "[I", Cond.fieldLink RX6 77 "WalkPassesModel" "sweptMany" "I", Cond.fieldLink RX6 23 "WalkPassesModel" "swept" "[I", Cond.methodLink RX6 74 yX6_place, Cond.instanceMethod yX6_place, Cond.selects RX6 yX6_place yX6_place, Cond.code yX6_place cX6_place 4 (some .int), Cond.methodLink RX6 66 yX6_figure, Cond.instanceMethod yX6_figure, Cond.selects RX6 yX6_figure yX6_figure, Cond.code yX6_figure cX6_figure 5 (some .int), Cond.methodLink RX6 111 yX6_isAhead, Cond.static yX6_isAhead, Cond.code yX6_isAhead cX6_isAhead 3 (some .boolean), Cond.methodLink RX6 131 yX6_loadCodes, Cond.instanceMethod yX6_loadCodes]
def wsX6_best_r4 : List Cond := [Cond.selects RX6 yX6_loadCodes yX6_loadCodes, Cond.code yX6_loadCodes cX6_loadCodes 2 none, Cond.methodLink RX6 137 yX6_codeOf, Cond.instanceMethod yX6_codeOf, Cond.selects RX6 yX6_codeOf yX6_codeOf, Cond.code yX6_codeOf cX6_codeOf 3 (some .int)]
def wsX6_best : List Cond := .code yX6_best cX6_best 3 (some .int) :: ((wsX6_best_r1 ++ (wsX6_best_r2 ++ (wsX6_best_r3 ++ wsX6_best_r4))) ++ wsX60)
def wsX6_take_r1 : List Cond := [Cond.fieldLink RX6 99 "WalkPassesModel" "plans" "I", Cond.fieldLink RX6 102 "WalkPassesModel" "bestPlan" "I", Cond.fieldLink RX6 105 "WalkPassesModel" "cost" "I", Cond.methodLink RX6 84 yX6_isRun, Cond.static yX6_isRun, Cond.initialized RX6, Cond.code yX6_isRun cX6_isRun 1 (some .boolean), Cond.methodLink RX6 41 yX6_in, Cond.static yX6_in, Cond.code yX6_in cX6_in 3 (some .boolean), Cond.methodLink RX6 121 yX6_power, Cond.instanceMethod yX6_power, Cond.selects RX6 yX6_power yX6_power, Cond.code yX6_power cX6_power 4 (some .int), Cond.fieldLink RX6 7 "WalkPassesModel" "state" "[I", Cond.methodLink RX6 134 yX6_layBest, Cond.instanceMethod yX6_layBest, Cond.selects RX6 yX6_layBest yX6_layBest, Cond.code yX6_layBest cX6_layBest 4 none, Cond.fieldLink RX6 108 "WalkPassesModel" "asGood" "I", Cond.methodLink RX6 115 yX6_usedMany, Cond.instanceMethod yX6_usedMany, Cond.selects RX6 yX6_usedMany yX6_usedMany, Cond.code yX6_usedMany cX6_usedMany 3 (some .int)]
def wsX6_take_r2 : List Cond := [Cond.methodLink RX6 63 yX6_isUsed, Cond.instanceMethod yX6_isUsed, Cond.selects RX6 yX6_isUsed yX6_isUsed, Cond.code yX6_isUsed cX6_isUsed 4 (some .boolean), Cond.methodLink RX6 118 yX6_saveCodes, Cond.instanceMethod yX6_saveCodes, Cond.selects RX6 yX6_saveCodes yX6_saveCodes, Cond.code yX6_saveCodes cX6_saveCodes 2 none, Cond.fieldLink RX6 35 "WalkPassesModel" "codes" "[I", Cond.methodLink RX6 124 yX6_size, Cond.static yX6_size, Cond.code yX6_size cX6_size 3 (some .int), Cond.methodLink RX6 127 yX6_tryPlan, Cond.instanceMethod yX6_tryPlan, Cond.selects RX6 yX6_tryPlan yX6_tryPlan, Cond.code yX6_tryPlan cX6_tryPlan 4 none, Cond.fieldLink RX6 70 "WalkPassesModel" "rowMany" "I", Cond.methodLink RX6 96 yX6_takeCodes, Cond.instanceMethod yX6_takeCodes, Cond.selects RX6 yX6_takeCodes yX6_takeCodes, Cond.code yX6_takeCodes cX6_takeCodes 4 none, Cond.methodLink RX6 87 yX6_goRun, Cond.instanceMethod yX6_goRun, Cond.selects RX6 yX6_goRun yX6_goRun]
def wsX6_take_r3 : List Cond := [Cond.code yX6_goRun cX6_goRun 3 none, Cond.fieldLink RX6 20 "WalkPassesModel" "row" "[I", Cond.methodLink RX6 80 yX6_pass, Cond.instanceMethod yX6_pass, Cond.selects RX6 yX6_pass yX6_pass, Cond.code yX6_pass cX6_pass 4 none, Cond.fieldLink RX6 32 "WalkPassesModel" "load" "[I", Cond.fieldLink RX6 26 "WalkPassesModel" "goesTo" "[I", Cond.fieldLink RX6 29 "WalkPassesModel" "spilledAt" "[I", Cond.fieldLink RX6 77 "WalkPassesModel" "sweptMany" "I", Cond.fieldLink RX6 23 "WalkPassesModel" "swept" "[I", Cond.methodLink RX6 74 yX6_place, Cond.instanceMethod yX6_place, Cond.selects RX6 yX6_place yX6_place, Cond.code yX6_place cX6_place 4 (some .int), Cond.methodLink RX6 66 yX6_figure, Cond.instanceMethod yX6_figure, Cond.selects RX6 yX6_figure yX6_figure, Cond.code yX6_figure cX6_figure 5 (some .int), Cond.methodLink RX6 111 yX6_isAhead, Cond.static yX6_isAhead, Cond.code yX6_isAhead cX6_isAhead 3 (some .boolean), Cond.methodLink RX6 131 yX6_loadCodes, Cond.instanceMethod yX6_loadCodes]
def wsX6_take_r4 : List Cond := [Cond.selects RX6 yX6_loadCodes yX6_loadCodes, Cond.code yX6_loadCodes cX6_loadCodes 2 none]
def wsX6_take : List Cond := .code yX6_take cX6_take 2 (some .int) :: ((wsX6_take_r1 ++ (wsX6_take_r2 ++ (wsX6_take_r3 ++ wsX6_take_r4))) ++ wsX60)
def wsX6_isClean_r1 : List Cond := [Cond.fieldLink RX6 99 "WalkPassesModel" "plans" "I", Cond.fieldLink RX6 105 "WalkPassesModel" "cost" "I", Cond.methodLink RX6 134 yX6_layBest, Cond.instanceMethod yX6_layBest, Cond.selects RX6 yX6_layBest yX6_layBest, Cond.initialized RX6, Cond.code yX6_layBest cX6_layBest 4 none, Cond.fieldLink RX6 108 "WalkPassesModel" "asGood" "I", Cond.fieldLink RX6 102 "WalkPassesModel" "bestPlan" "I", Cond.methodLink RX6 115 yX6_usedMany, Cond.instanceMethod yX6_usedMany, Cond.selects RX6 yX6_usedMany yX6_usedMany, Cond.code yX6_usedMany cX6_usedMany 3 (some .int), Cond.methodLink RX6 63 yX6_isUsed, Cond.instanceMethod yX6_isUsed, Cond.selects RX6 yX6_isUsed yX6_isUsed, Cond.code yX6_isUsed cX6_isUsed 4 (some .boolean), Cond.fieldLink RX6 7 "WalkPassesModel" "state" "[I", Cond.methodLink RX6 118 yX6_saveCodes, Cond.instanceMethod yX6_saveCodes, Cond.selects RX6 yX6_saveCodes yX6_saveCodes, Cond.code yX6_saveCodes cX6_saveCodes 2 none, Cond.fieldLink RX6 35 "WalkPassesModel" "codes" "[I", Cond.methodLink RX6 121 yX6_power]
def wsX6_isClean_r2 : List Cond := [Cond.instanceMethod yX6_power, Cond.selects RX6 yX6_power yX6_power, Cond.code yX6_power cX6_power 4 (some .int), Cond.methodLink RX6 124 yX6_size, Cond.static yX6_size, Cond.code yX6_size cX6_size 3 (some .int), Cond.methodLink RX6 127 yX6_tryPlan, Cond.instanceMethod yX6_tryPlan, Cond.selects RX6 yX6_tryPlan yX6_tryPlan, Cond.code yX6_tryPlan cX6_tryPlan 4 none, Cond.fieldLink RX6 70 "WalkPassesModel" "rowMany" "I", Cond.methodLink RX6 96 yX6_takeCodes, Cond.instanceMethod yX6_takeCodes, Cond.selects RX6 yX6_takeCodes yX6_takeCodes, Cond.code yX6_takeCodes cX6_takeCodes 4 none, Cond.methodLink RX6 87 yX6_goRun, Cond.instanceMethod yX6_goRun, Cond.selects RX6 yX6_goRun yX6_goRun, Cond.code yX6_goRun cX6_goRun 3 none, Cond.fieldLink RX6 20 "WalkPassesModel" "row" "[I", Cond.methodLink RX6 80 yX6_pass, Cond.instanceMethod yX6_pass, Cond.selects RX6 yX6_pass yX6_pass, Cond.code yX6_pass cX6_pass 4 none]
def wsX6_isClean_r3 : List Cond := [Cond.fieldLink RX6 32 "WalkPassesModel" "load" "[I", Cond.fieldLink RX6 26 "WalkPassesModel" "goesTo" "[I", Cond.fieldLink RX6 29 "WalkPassesModel" "spilledAt" "[I", Cond.fieldLink RX6 77 "WalkPassesModel" "sweptMany" "I", Cond.fieldLink RX6 23 "WalkPassesModel" "swept" "[I", Cond.methodLink RX6 74 yX6_place, Cond.instanceMethod yX6_place, Cond.selects RX6 yX6_place yX6_place, Cond.code yX6_place cX6_place 4 (some .int), Cond.methodLink RX6 66 yX6_figure, Cond.instanceMethod yX6_figure, Cond.selects RX6 yX6_figure yX6_figure, Cond.code yX6_figure cX6_figure 5 (some .int), Cond.methodLink RX6 111 yX6_isAhead, Cond.static yX6_isAhead, Cond.code yX6_isAhead cX6_isAhead 3 (some .boolean), Cond.methodLink RX6 131 yX6_loadCodes, Cond.instanceMethod yX6_loadCodes, Cond.selects RX6 yX6_loadCodes yX6_loadCodes, Cond.code yX6_loadCodes cX6_loadCodes 2 none, Cond.methodLink RX6 52 yX6_misreads, Cond.instanceMethod yX6_misreads, Cond.selects RX6 yX6_misreads yX6_misreads, Cond.code yX6_misreads cX6_misreads 3 (some .int)]
def wsX6_isClean : List Cond := .code yX6_isClean cX6_isClean 2 (some .boolean) :: ((wsX6_isClean_r1 ++ (wsX6_isClean_r2 ++ wsX6_isClean_r3)) ++ wsX60)
def wsX6_fewest_r1 : List Cond := [Cond.methodLink RX6 121 yX6_power, Cond.instanceMethod yX6_power, Cond.selects RX6 yX6_power yX6_power, Cond.initialized RX6, Cond.code yX6_power cX6_power 4 (some .int), Cond.fieldLink RX6 7 "WalkPassesModel" "state" "[I", Cond.methodLink RX6 140 yX6_isClean, Cond.instanceMethod yX6_isClean, Cond.selects RX6 yX6_isClean yX6_isClean, Cond.code yX6_isClean cX6_isClean 2 (some .boolean), Cond.fieldLink RX6 99 "WalkPassesModel" "plans" "I", Cond.fieldLink RX6 105 "WalkPassesModel" "cost" "I", Cond.methodLink RX6 134 yX6_layBest, Cond.instanceMethod yX6_layBest, Cond.selects RX6 yX6_layBest yX6_layBest, Cond.code yX6_layBest cX6_layBest 4 none, Cond.fieldLink RX6 108 "WalkPassesModel" "asGood" "I", Cond.fieldLink RX6 102 "WalkPassesModel" "bestPlan" "I", Cond.methodLink RX6 115 yX6_usedMany, Cond.instanceMethod yX6_usedMany, Cond.selects RX6 yX6_usedMany yX6_usedMany, Cond.code yX6_usedMany cX6_usedMany 3 (some .int), Cond.methodLink RX6 63 yX6_isUsed, Cond.instanceMethod yX6_isUsed]
def wsX6_fewest_r2 : List Cond := [Cond.selects RX6 yX6_isUsed yX6_isUsed, Cond.code yX6_isUsed cX6_isUsed 4 (some .boolean), Cond.methodLink RX6 118 yX6_saveCodes, Cond.instanceMethod yX6_saveCodes, Cond.selects RX6 yX6_saveCodes yX6_saveCodes, Cond.code yX6_saveCodes cX6_saveCodes 2 none, Cond.fieldLink RX6 35 "WalkPassesModel" "codes" "[I", Cond.methodLink RX6 124 yX6_size, Cond.static yX6_size, Cond.code yX6_size cX6_size 3 (some .int), Cond.methodLink RX6 127 yX6_tryPlan, Cond.instanceMethod yX6_tryPlan, Cond.selects RX6 yX6_tryPlan yX6_tryPlan, Cond.code yX6_tryPlan cX6_tryPlan 4 none, Cond.fieldLink RX6 70 "WalkPassesModel" "rowMany" "I", Cond.methodLink RX6 96 yX6_takeCodes, Cond.instanceMethod yX6_takeCodes, Cond.selects RX6 yX6_takeCodes yX6_takeCodes, Cond.code yX6_takeCodes cX6_takeCodes 4 none, Cond.methodLink RX6 87 yX6_goRun, Cond.instanceMethod yX6_goRun, Cond.selects RX6 yX6_goRun yX6_goRun, Cond.code yX6_goRun cX6_goRun 3 none, Cond.fieldLink RX6 20 "WalkPassesModel" "row" "[I"]
def wsX6_fewest_r3 : List Cond := [Cond.methodLink RX6 80 yX6_pass, Cond.instanceMethod yX6_pass, Cond.selects RX6 yX6_pass yX6_pass, Cond.code yX6_pass cX6_pass 4 none, Cond.fieldLink RX6 32 "WalkPassesModel" "load" "[I", Cond.fieldLink RX6 26 "WalkPassesModel" "goesTo" "[I", Cond.fieldLink RX6 29 "WalkPassesModel" "spilledAt" "[I", Cond.fieldLink RX6 77 "WalkPassesModel" "sweptMany" "I", Cond.fieldLink RX6 23 "WalkPassesModel" "swept" "[I", Cond.methodLink RX6 74 yX6_place, Cond.instanceMethod yX6_place, Cond.selects RX6 yX6_place yX6_place, Cond.code yX6_place cX6_place 4 (some .int), Cond.methodLink RX6 66 yX6_figure, Cond.instanceMethod yX6_figure, Cond.selects RX6 yX6_figure yX6_figure, Cond.code yX6_figure cX6_figure 5 (some .int), Cond.methodLink RX6 111 yX6_isAhead, Cond.static yX6_isAhead, Cond.code yX6_isAhead cX6_isAhead 3 (some .boolean), Cond.methodLink RX6 131 yX6_loadCodes, Cond.instanceMethod yX6_loadCodes, Cond.selects RX6 yX6_loadCodes yX6_loadCodes, Cond.code yX6_loadCodes cX6_loadCodes 2 none]
def wsX6_fewest_r4 : List Cond := [Cond.methodLink RX6 52 yX6_misreads, Cond.instanceMethod yX6_misreads, Cond.selects RX6 yX6_misreads yX6_misreads, Cond.code yX6_misreads cX6_misreads 3 (some .int)]
def wsX6_fewest : List Cond := .code yX6_fewest cX6_fewest 2 (some .int) :: ((wsX6_fewest_r1 ++ (wsX6_fewest_r2 ++ (wsX6_fewest_r3 ++ wsX6_fewest_r4))) ++ wsX60)
def wsX6_setRooms : List Cond := .code yX6_setRooms cX6_setRooms 3 none :: ([.fieldLink RX6 7 "WalkPassesModel" "state" "[I"] ++ wsX60)
def wsX6_needs_r1 : List Cond := [Cond.fieldLink RX6 38 "WalkPassesModel" "rooms" "[I", Cond.fieldLink RX6 7 "WalkPassesModel" "state" "[I", Cond.methodLink RX6 84 yX6_isRun, Cond.static yX6_isRun, Cond.initialized RX6, Cond.code yX6_isRun cX6_isRun 1 (some .boolean), Cond.methodLink RX6 41 yX6_in, Cond.static yX6_in, Cond.code yX6_in cX6_in 3 (some .boolean), Cond.methodLink RX6 121 yX6_power, Cond.instanceMethod yX6_power, Cond.selects RX6 yX6_power yX6_power, Cond.code yX6_power cX6_power 4 (some .int), Cond.methodLink RX6 143 yX6_setRooms, Cond.instanceMethod yX6_setRooms, Cond.selects RX6 yX6_setRooms yX6_setRooms, Cond.code yX6_setRooms cX6_setRooms 3 none, Cond.methodLink RX6 140 yX6_isClean, Cond.instanceMethod yX6_isClean, Cond.selects RX6 yX6_isClean yX6_isClean, Cond.code yX6_isClean cX6_isClean 2 (some .boolean), Cond.fieldLink RX6 99 "WalkPassesModel" "plans" "I", Cond.fieldLink RX6 105 "WalkPassesModel" "cost" "I", Cond.methodLink RX6 134 yX6_layBest]
def wsX6_needs_r2 : List Cond := [Cond.instanceMethod yX6_layBest, Cond.selects RX6 yX6_layBest yX6_layBest, Cond.code yX6_layBest cX6_layBest 4 none, Cond.fieldLink RX6 108 "WalkPassesModel" "asGood" "I", Cond.fieldLink RX6 102 "WalkPassesModel" "bestPlan" "I", Cond.methodLink RX6 115 yX6_usedMany, Cond.instanceMethod yX6_usedMany, Cond.selects RX6 yX6_usedMany yX6_usedMany, Cond.code yX6_usedMany cX6_usedMany 3 (some .int), Cond.methodLink RX6 63 yX6_isUsed, Cond.instanceMethod yX6_isUsed, Cond.selects RX6 yX6_isUsed yX6_isUsed, Cond.code yX6_isUsed cX6_isUsed 4 (some .boolean), Cond.methodLink RX6 118 yX6_saveCodes, Cond.instanceMethod yX6_saveCodes, Cond.selects RX6 yX6_saveCodes yX6_saveCodes, Cond.code yX6_saveCodes cX6_saveCodes 2 none, Cond.fieldLink RX6 35 "WalkPassesModel" "codes" "[I", Cond.methodLink RX6 124 yX6_size, Cond.static yX6_size, Cond.code yX6_size cX6_size 3 (some .int), Cond.methodLink RX6 127 yX6_tryPlan, Cond.instanceMethod yX6_tryPlan, Cond.selects RX6 yX6_tryPlan yX6_tryPlan]
def wsX6_needs_r3 : List Cond := [Cond.code yX6_tryPlan cX6_tryPlan 4 none, Cond.fieldLink RX6 70 "WalkPassesModel" "rowMany" "I", Cond.methodLink RX6 96 yX6_takeCodes, Cond.instanceMethod yX6_takeCodes, Cond.selects RX6 yX6_takeCodes yX6_takeCodes, Cond.code yX6_takeCodes cX6_takeCodes 4 none, Cond.methodLink RX6 87 yX6_goRun, Cond.instanceMethod yX6_goRun, Cond.selects RX6 yX6_goRun yX6_goRun, Cond.code yX6_goRun cX6_goRun 3 none, Cond.fieldLink RX6 20 "WalkPassesModel" "row" "[I", Cond.methodLink RX6 80 yX6_pass, Cond.instanceMethod yX6_pass, Cond.selects RX6 yX6_pass yX6_pass, Cond.code yX6_pass cX6_pass 4 none, Cond.fieldLink RX6 32 "WalkPassesModel" "load" "[I", Cond.fieldLink RX6 26 "WalkPassesModel" "goesTo" "[I", Cond.fieldLink RX6 29 "WalkPassesModel" "spilledAt" "[I", Cond.fieldLink RX6 77 "WalkPassesModel" "sweptMany" "I", Cond.fieldLink RX6 23 "WalkPassesModel" "swept" "[I", Cond.methodLink RX6 74 yX6_place, Cond.instanceMethod yX6_place, Cond.selects RX6 yX6_place yX6_place, Cond.code yX6_place cX6_place 4 (some .int)]
def wsX6_needs_r4 : List Cond := [Cond.methodLink RX6 66 yX6_figure, Cond.instanceMethod yX6_figure, Cond.selects RX6 yX6_figure yX6_figure, Cond.code yX6_figure cX6_figure 5 (some .int), Cond.methodLink RX6 111 yX6_isAhead, Cond.static yX6_isAhead, Cond.code yX6_isAhead cX6_isAhead 3 (some .boolean), Cond.methodLink RX6 131 yX6_loadCodes, Cond.instanceMethod yX6_loadCodes, Cond.selects RX6 yX6_loadCodes yX6_loadCodes, Cond.code yX6_loadCodes cX6_loadCodes 2 none, Cond.methodLink RX6 52 yX6_misreads, Cond.instanceMethod yX6_misreads, Cond.selects RX6 yX6_misreads yX6_misreads, Cond.code yX6_misreads cX6_misreads 3 (some .int)]
def wsX6_needs : List Cond := .code yX6_needs cX6_needs 5 (some .int) :: ((wsX6_needs_r1 ++ (wsX6_needs_r2 ++ (wsX6_needs_r3 ++ wsX6_needs_r4))) ++ wsX60)
def wsX6_image : List Cond := .code yX6_image cX6_image 3 (some .int) :: ([.fieldLink RX6 13 "WalkPassesModel" "images" "[I", .fieldLink RX6 7 "WalkPassesModel" "state" "[I", .fieldLink RX6 16 "WalkPassesModel" "isKept" "[Z", .methodLink RX6 41 yX6_in, .static yX6_in, .initialized RX6, .code yX6_in cX6_in 3 (some .boolean)] ++ wsX60)
def wsX6_restore : List Cond := .code yX6_restore cX6_restore 3 (some .int) :: ([.fieldLink RX6 16 "WalkPassesModel" "isKept" "[Z", .fieldLink RX6 7 "WalkPassesModel" "state" "[I", .fieldLink RX6 13 "WalkPassesModel" "images" "[I", .methodLink RX6 41 yX6_in, .static yX6_in, .initialized RX6, .code yX6_in cX6_in 3 (some .boolean)] ++ wsX60)
def wsX6_sumOf : List Cond := .code yX6_sumOf cX6_sumOf 5 (some .int) :: ([.fieldLink RX6 7 "WalkPassesModel" "state" "[I"] ++ wsX60)
def wsX6_count : List Cond := .code yX6_count cX6_count 2 (some .int) :: ([.fieldLink RX6 7 "WalkPassesModel" "state" "[I", .fieldLink RX6 16 "WalkPassesModel" "isKept" "[Z", .methodLink RX6 41 yX6_in, .static yX6_in, .initialized RX6, .code yX6_in cX6_in 3 (some .boolean), .methodLink RX6 52 yX6_misreads, .instanceMethod yX6_misreads, .selects RX6 yX6_misreads yX6_misreads, .code yX6_misreads cX6_misreads 3 (some .int), .methodLink RX6 115 yX6_usedMany, .instanceMethod yX6_usedMany, .selects RX6 yX6_usedMany yX6_usedMany, .code yX6_usedMany cX6_usedMany 3 (some .int), .methodLink RX6 63 yX6_isUsed, .instanceMethod yX6_isUsed, .selects RX6 yX6_isUsed yX6_isUsed, .code yX6_isUsed cX6_isUsed 4 (some .boolean), .methodLink RX6 146 yX6_sumOf, .instanceMethod yX6_sumOf, .selects RX6 yX6_sumOf yX6_sumOf, .code yX6_sumOf cX6_sumOf 5 (some .int)] ++ wsX60)
def wsJ9_min_7cf53 : List Cond := .code yJ9_min_7cf53 cJ9_min_7cf53 2 (some .int) :: ([])
abbrev vwCl : List vw_C := [(RX0, TX0, 8), (RX1, TX1, 10), (RX2, TX2, 7), (RX3, TX3, 4), (RX4, TX4, 4), (RX5, TX5, 6), (RX6, TX6, 16)]
end
section
set_option maxRecDepth 20000 in
theorem ggX0_init_X3_init : GoodIn wsX0_init wsX3_init := goodIn_r _ [15, 16, 2, 3, 12, 17, 18, 29, 30, 31, 32] (by decide +kernel) (by decide +kernel)
set_option maxRecDepth 20000 in
theorem gX0_init_X3_init_n11 : GoodIn wsX0_init (wsX3_init) := ggX0_init_X3_init
set_option maxRecDepth 20000 in
theorem ggX0_init_X2_init : GoodIn wsX0_init wsX2_init := goodIn_r _ [20, 21, 2, 3, 12, 22, 23, 24, 25, 26, 27, 28, 41, 42, 43, 44, 45, 46, 47] (by decide +kernel) (by decide +kernel)
set_option maxRecDepth 20000 in
theorem gX0_init_X2_init_n20 : GoodIn wsX0_init (wsX2_init) := ggX0_init_X2_init
theorem dX0_init_0 : decode cX0_init 0 = .ok (.aload_n 0, 1) := by decide +kernel
theorem dX0_init_1 : decode cX0_init 1 = .ok (.invokespecial 3, 3) := by decide +kernel
theorem dX0_init_4 : decode cX0_init 4 = .ok (.aload_n 0, 1) := by decide +kernel
theorem dX0_init_5 : decode cX0_init 5 = .ok (.new 9, 3) := by decide +kernel
theorem dX0_init_8 : decode cX0_init 8 = .ok (.dup, 1) := by decide +kernel
theorem dX0_init_9 : decode cX0_init 9 = .ok (.invokespecial 11, 3) := by decide +kernel
theorem dX0_init_12 : decode cX0_init 12 = .ok (.putfield 12, 3) := by decide +kernel
theorem dX0_init_15 : decode cX0_init 15 = .ok (.aload_n 0, 1) := by decide +kernel
theorem dX0_init_16 : decode cX0_init 16 = .ok (.new 18, 3) := by decide +kernel
theorem dX0_init_19 : decode cX0_init 19 = .ok (.dup, 1) := by decide +kernel
theorem dX0_init_20 : decode cX0_init 20 = .ok (.invokespecial 20, 3) := by decide +kernel
theorem dX0_init_23 : decode cX0_init 23 = .ok (.putfield 21, 3) := by decide +kernel
theorem dX0_init_26 : decode cX0_init 26 = .ok (.aload_n 0, 1) := by decide +kernel
theorem dX0_init_27 : decode cX0_init 27 = .ok (.bipush 10, 2) := by decide +kernel
theorem dX0_init_29 : decode cX0_init 29 = .ok (.newarray .int, 2) := by decide +kernel
theorem dX0_init_31 : decode cX0_init 31 = .ok (.putfield 25, 3) := by decide +kernel
theorem dX0_init_34 : decode cX0_init 34 = .ok (.return_, 1) := by decide +kernel
set_option maxRecDepth 20000 in
theorem ggX0_find_X0_search : GoodIn wsX0_find wsX0_search := goodIn_r _ [7, 8, 9, 10, 11, 12, 13, 14, 15, 16, 17, 18, 19, 20, 21, 22, 23, 24, 25, 26, 27, 28, 29, 30, 31, 32, 33, 34, 35, 36, 37, 38, 39, 40, 41, 42, 43, 44, 45, 46, 47, 48, 49, 50, 51, 52, 53, 54, 55, 56, 57, 58, 59, 60, 61, 62, 63, 64, 65, 66, 67, 68, 69, 70, 71, 72, 6, 73, 74, 75, 76, 77, 78, 79, 80, 81, 82, 83, 84, 85, 86, 87, 88, 89, 90, 91, 92, 93, 94, 95, 106, 107, 108, 109, 96, 97, 98, 99, 100, 101, 102, 103, 104, 105, 110, 111, 112, 113, 114, 115, 116] (by decide +kernel) (by decide +kernel)
set_option maxRecDepth 20000 in
theorem gX0_find_X0_search : GoodIn wsX0_find (wsV RX0 41 RX0 yX0_search wsX0_search) := goodIn_app (goodIn_of _ (by decide +kernel)) ggX0_find_X0_search
theorem dX0_find_0 : decode cX0_find 0 = .ok (.aload_n 0, 1) := by decide +kernel
theorem dX0_find_1 : decode cX0_find 1 = .ok (.getfield 29, 3) := by decide +kernel
theorem dX0_find_4 : decode cX0_find 4 = .ok (.iload_n 2, 1) := by decide +kernel
theorem dX0_find_5 : decode cX0_find 5 = .ok (.if_icmp .ne 15, 3) := by decide +kernel
theorem dX0_find_8 : decode cX0_find 8 = .ok (.aload_n 0, 1) := by decide +kernel
theorem dX0_find_9 : decode cX0_find 9 = .ok (.getfield 33, 3) := by decide +kernel
theorem dX0_find_12 : decode cX0_find 12 = .ok (.aload_n 1, 1) := by decide +kernel
theorem dX0_find_13 : decode cX0_find 13 = .ok (.getfield 36, 3) := by decide +kernel
theorem dX0_find_16 : decode cX0_find 16 = .ok (.if_icmp .ne 4, 3) := by decide +kernel
theorem dX0_find_19 : decode cX0_find 19 = .ok (.return_, 1) := by decide +kernel
theorem dX0_find_20 : decode cX0_find 20 = .ok (.aload_n 0, 1) := by decide +kernel
theorem dX0_find_21 : decode cX0_find 21 = .ok (.aload_n 1, 1) := by decide +kernel
theorem dX0_find_22 : decode cX0_find 22 = .ok (.iload_n 2, 1) := by decide +kernel
theorem dX0_find_23 : decode cX0_find 23 = .ok (.invokevirtual 41, 3) := by decide +kernel
theorem dX0_find_26 : decode cX0_find 26 = .ok (.aload_n 0, 1) := by decide +kernel
theorem dX0_find_27 : decode cX0_find 27 = .ok (.iload_n 2, 1) := by decide +kernel
theorem dX0_find_28 : decode cX0_find 28 = .ok (.putfield 29, 3) := by decide +kernel
theorem dX0_find_31 : decode cX0_find 31 = .ok (.aload_n 0, 1) := by decide +kernel
theorem dX0_find_32 : decode cX0_find 32 = .ok (.aload_n 1, 1) := by decide +kernel
theorem dX0_find_33 : decode cX0_find 33 = .ok (.getfield 36, 3) := by decide +kernel
theorem dX0_find_36 : decode cX0_find 36 = .ok (.putfield 33, 3) := by decide +kernel
theorem dX0_find_39 : decode cX0_find 39 = .ok (.return_, 1) := by decide +kernel
set_option maxRecDepth 20000 in
theorem ggX0_search_X3_begin : GoodIn wsX0_search wsX3_begin := goodIn_r _ [10, 11, 12, 13, 14, 15, 16, 17, 18, 19, 20, 21, 22, 23, 24, 94, 95, 96, 97, 98, 99, 100, 101, 102, 103, 90, 91, 92, 93] (by decide +kernel) (by decide +kernel)
set_option maxRecDepth 20000 in
theorem gX0_search_X3_begin : GoodIn wsX0_search (wsV RX0 51 RX3 yX3_begin wsX3_begin) := goodIn_app (goodIn_of _ (by decide +kernel)) ggX0_search_X3_begin
set_option maxRecDepth 20000 in
theorem ggX0_search_X2_countSpilledUpTo : GoodIn wsX0_search wsX2_countSpilledUpTo := goodIn_r _ [29, 30, 31, 32, 33, 28, 34, 35, 36, 37, 38, 39, 40, 41, 42, 16, 43, 44, 45, 46, 47, 48, 49, 50, 51, 52, 53, 54, 55, 56, 57, 58, 59, 60, 61, 62, 94, 95, 96, 97, 98, 99, 100, 101, 102, 103, 104, 105, 106, 107, 108, 109, 110] (by decide +kernel) (by decide +kernel)
set_option maxRecDepth 20000 in
theorem gX0_search_X2_countSpilledUpTo : GoodIn wsX0_search (wsV RX0 59 RX2 yX2_countSpilledUpTo wsX2_countSpilledUpTo) := goodIn_app (goodIn_of _ (by decide +kernel)) ggX0_search_X2_countSpilledUpTo
set_option maxRecDepth 20000 in
theorem ggX0_search_X0_compare : GoodIn wsX0_search wsX0_compare := goodIn_r _ [67, 1, 2, 3, 68, 69, 60, 61, 62, 82, 83, 84, 85, 86, 87, 88, 89, 90, 91, 92, 93] (by decide +kernel) (by decide +kernel)
set_option maxRecDepth 20000 in
theorem gX0_search_X0_compare : GoodIn wsX0_search (wsV RX0 63 RX0 yX0_compare wsX0_compare) := goodIn_app (goodIn_of _ (by decide +kernel)) ggX0_search_X0_compare
set_option maxRecDepth 20000 in
theorem ggX0_search_X3_advance : GoodIn wsX0_search wsX3_advance := goodIn_r _ [73, 12, 74, 75, 76, 77, 14, 13, 11, 78, 79, 80, 9, 81, 90, 91, 92, 93] (by decide +kernel) (by decide +kernel)
set_option maxRecDepth 20000 in
theorem gX0_search_X3_advance : GoodIn wsX0_search (wsV RX0 67 RX3 yX3_advance wsX3_advance) := goodIn_app (goodIn_of _ (by decide +kernel)) ggX0_search_X3_advance
theorem dX0_search_0 : decode cX0_search 0 = .ok (.aload_n 0, 1) := by decide +kernel
theorem dX0_search_1 : decode cX0_search 1 = .ok (.bipush 25, 2) := by decide +kernel
theorem dX0_search_3 : decode cX0_search 3 = .ok (.putfield 45, 3) := by decide +kernel
theorem dX0_search_6 : decode cX0_search 6 = .ok (.aload_n 0, 1) := by decide +kernel
theorem dX0_search_7 : decode cX0_search 7 = .ok (.iconst 0, 1) := by decide +kernel
theorem dX0_search_8 : decode cX0_search 8 = .ok (.putfield 48, 3) := by decide +kernel
theorem dX0_search_11 : decode cX0_search 11 = .ok (.aload_n 0, 1) := by decide +kernel
theorem dX0_search_12 : decode cX0_search 12 = .ok (.getfield 12, 3) := by decide +kernel
theorem dX0_search_15 : decode cX0_search 15 = .ok (.aload_n 1, 1) := by decide +kernel
theorem dX0_search_16 : decode cX0_search 16 = .ok (.iload_n 2, 1) := by decide +kernel
theorem dX0_search_17 : decode cX0_search 17 = .ok (.invokevirtual 51, 3) := by decide +kernel
theorem dX0_search_20 : decode cX0_search 20 = .ok (.istore_n 3, 1) := by decide +kernel
theorem dX0_search_21 : decode cX0_search 21 = .ok (.aload_n 0, 1) := by decide +kernel
theorem dX0_search_22 : decode cX0_search 22 = .ok (.iconst 0, 1) := by decide +kernel
theorem dX0_search_23 : decode cX0_search 23 = .ok (.putfield 55, 3) := by decide +kernel
theorem dX0_search_26 : decode cX0_search 26 = .ok (.aload_n 0, 1) := by decide +kernel
theorem dX0_search_27 : decode cX0_search 27 = .ok (.getfield 55, 3) := by decide +kernel
theorem dX0_search_30 : decode cX0_search 30 = .ok (.sipush 12870, 3) := by decide +kernel
theorem dX0_search_33 : decode cX0_search 33 = .ok (.if_icmp .ge 54, 3) := by decide +kernel
theorem dX0_search_36 : decode cX0_search 36 = .ok (.iload_n 3, 1) := by decide +kernel
theorem dX0_search_37 : decode cX0_search 37 = .ok (.ifCond .eq 50, 3) := by decide +kernel
theorem dX0_search_40 : decode cX0_search 40 = .ok (.aload_n 0, 1) := by decide +kernel
theorem dX0_search_41 : decode cX0_search 41 = .ok (.aload_n 0, 1) := by decide +kernel
theorem dX0_search_42 : decode cX0_search 42 = .ok (.getfield 21, 3) := by decide +kernel
theorem dX0_search_45 : decode cX0_search 45 = .ok (.aload_n 1, 1) := by decide +kernel
theorem dX0_search_46 : decode cX0_search 46 = .ok (.aload_n 0, 1) := by decide +kernel
theorem dX0_search_47 : decode cX0_search 47 = .ok (.getfield 12, 3) := by decide +kernel
theorem dX0_search_50 : decode cX0_search 50 = .ok (.getfield 58, 3) := by decide +kernel
theorem dX0_search_53 : decode cX0_search 53 = .ok (.iload_n 2, 1) := by decide +kernel
theorem dX0_search_54 : decode cX0_search 54 = .ok (.aload_n 0, 1) := by decide +kernel
theorem dX0_search_55 : decode cX0_search 55 = .ok (.getfield 45, 3) := by decide +kernel
theorem dX0_search_58 : decode cX0_search 58 = .ok (.invokevirtual 59, 3) := by decide +kernel
theorem dX0_search_61 : decode cX0_search 61 = .ok (.invokevirtual 63, 3) := by decide +kernel
theorem dX0_search_64 : decode cX0_search 64 = .ok (.aload_n 0, 1) := by decide +kernel
theorem dX0_search_65 : decode cX0_search 65 = .ok (.getfield 12, 3) := by decide +kernel
theorem dX0_search_68 : decode cX0_search 68 = .ok (.bipush 10, 2) := by decide +kernel
theorem dX0_search_70 : decode cX0_search 70 = .ok (.invokevirtual 67, 3) := by decide +kernel
theorem dX0_search_73 : decode cX0_search 73 = .ok (.istore_n 3, 1) := by decide +kernel
theorem dX0_search_74 : decode cX0_search 74 = .ok (.aload_n 0, 1) := by decide +kernel
theorem dX0_search_75 : decode cX0_search 75 = .ok (.dup, 1) := by decide +kernel
theorem dX0_search_76 : decode cX0_search 76 = .ok (.getfield 55, 3) := by decide +kernel
theorem dX0_search_79 : decode cX0_search 79 = .ok (.iconst 1, 1) := by decide +kernel
theorem dX0_search_80 : decode cX0_search 80 = .ok (.iadd, 1) := by decide +kernel
theorem dX0_search_81 : decode cX0_search 81 = .ok (.putfield 55, 3) := by decide +kernel
theorem dX0_search_84 : decode cX0_search 84 = .ok (.goto (-58), 3) := by decide +kernel
theorem dX0_search_87 : decode cX0_search 87 = .ok (.return_, 1) := by decide +kernel
theorem dX0_compare_0 : decode cX0_compare 0 = .ok (.iload_n 1, 1) := by decide +kernel
theorem dX0_compare_1 : decode cX0_compare 1 = .ok (.aload_n 0, 1) := by decide +kernel
theorem dX0_compare_2 : decode cX0_compare 2 = .ok (.getfield 45, 3) := by decide +kernel
theorem dX0_compare_5 : decode cX0_compare 5 = .ok (.if_icmp .ge 31, 3) := by decide +kernel
theorem dX0_compare_8 : decode cX0_compare 8 = .ok (.aload_n 0, 1) := by decide +kernel
theorem dX0_compare_9 : decode cX0_compare 9 = .ok (.iload_n 1, 1) := by decide +kernel
theorem dX0_compare_10 : decode cX0_compare 10 = .ok (.putfield 45, 3) := by decide +kernel
theorem dX0_compare_13 : decode cX0_compare 13 = .ok (.aload_n 0, 1) := by decide +kernel
theorem dX0_compare_14 : decode cX0_compare 14 = .ok (.iconst 0, 1) := by decide +kernel
theorem dX0_compare_15 : decode cX0_compare 15 = .ok (.putfield 48, 3) := by decide +kernel
theorem dX0_compare_18 : decode cX0_compare 18 = .ok (.aload_n 0, 1) := by decide +kernel
theorem dX0_compare_19 : decode cX0_compare 19 = .ok (.getfield 12, 3) := by decide +kernel
theorem dX0_compare_22 : decode cX0_compare 22 = .ok (.getfield 58, 3) := by decide +kernel
theorem dX0_compare_25 : decode cX0_compare 25 = .ok (.iconst 0, 1) := by decide +kernel
theorem dX0_compare_26 : decode cX0_compare 26 = .ok (.aload_n 0, 1) := by decide +kernel
theorem dX0_compare_27 : decode cX0_compare 27 = .ok (.getfield 25, 3) := by decide +kernel
theorem dX0_compare_30 : decode cX0_compare 30 = .ok (.iconst 0, 1) := by decide +kernel
theorem dX0_compare_31 : decode cX0_compare 31 = .ok (.bipush 10, 2) := by decide +kernel
theorem dX0_compare_33 : decode cX0_compare 33 = .ok (.invokestatic 71, 3) := by decide +kernel
theorem dX0_compare_36 : decode cX0_compare 36 = .ok (.iload_n 1, 1) := by decide +kernel
theorem dX0_compare_37 : decode cX0_compare 37 = .ok (.aload_n 0, 1) := by decide +kernel
theorem dX0_compare_38 : decode cX0_compare 38 = .ok (.getfield 45, 3) := by decide +kernel
theorem dX0_compare_41 : decode cX0_compare 41 = .ok (.if_icmp .ne 13, 3) := by decide +kernel
theorem dX0_compare_44 : decode cX0_compare 44 = .ok (.aload_n 0, 1) := by decide +kernel
theorem dX0_compare_45 : decode cX0_compare 45 = .ok (.dup, 1) := by decide +kernel
theorem dX0_compare_46 : decode cX0_compare 46 = .ok (.getfield 48, 3) := by decide +kernel
theorem dX0_compare_49 : decode cX0_compare 49 = .ok (.iconst 1, 1) := by decide +kernel
theorem dX0_compare_50 : decode cX0_compare 50 = .ok (.iadd, 1) := by decide +kernel
theorem dX0_compare_51 : decode cX0_compare 51 = .ok (.putfield 48, 3) := by decide +kernel
theorem dX0_compare_54 : decode cX0_compare 54 = .ok (.return_, 1) := by decide +kernel
set_option maxRecDepth 20000 in
theorem ggX1_init_J7_fill_53178 : GoodIn wsX1_init wsJ7_fill_53178 := goodIn_r _ [16] (by decide +kernel) (by decide +kernel)
set_option maxRecDepth 20000 in
theorem gX1_init_J7_fill_53178 : GoodIn wsX1_init (va_wsS RX1 37 yJ7_fill_53178 wsJ7_fill_53178) := goodIn_app (goodIn_of _ (by decide +kernel)) ggX1_init_J7_fill_53178
theorem dX1_init_0 : decode cX1_init 0 = .ok (.aload_n 0, 1) := by decide +kernel
theorem dX1_init_1 : decode cX1_init 1 = .ok (.invokespecial 3, 3) := by decide +kernel
theorem dX1_init_4 : decode cX1_init 4 = .ok (.aload_n 0, 1) := by decide +kernel
theorem dX1_init_5 : decode cX1_init 5 = .ok (.bipush 24, 2) := by decide +kernel
theorem dX1_init_7 : decode cX1_init 7 = .ok (.newarray .int, 2) := by decide +kernel
theorem dX1_init_9 : decode cX1_init 9 = .ok (.putfield 9, 3) := by decide +kernel
theorem dX1_init_12 : decode cX1_init 12 = .ok (.aload_n 0, 1) := by decide +kernel
theorem dX1_init_13 : decode cX1_init 13 = .ok (.bipush 24, 2) := by decide +kernel
theorem dX1_init_15 : decode cX1_init 15 = .ok (.newarray .int, 2) := by decide +kernel
theorem dX1_init_17 : decode cX1_init 17 = .ok (.putfield 15, 3) := by decide +kernel
theorem dX1_init_20 : decode cX1_init 20 = .ok (.aload_n 0, 1) := by decide +kernel
theorem dX1_init_21 : decode cX1_init 21 = .ok (.bipush 24, 2) := by decide +kernel
theorem dX1_init_23 : decode cX1_init 23 = .ok (.newarray .int, 2) := by decide +kernel
theorem dX1_init_25 : decode cX1_init 25 = .ok (.putfield 18, 3) := by decide +kernel
theorem dX1_init_28 : decode cX1_init 28 = .ok (.aload_n 0, 1) := by decide +kernel
theorem dX1_init_29 : decode cX1_init 29 = .ok (.bipush 10, 2) := by decide +kernel
theorem dX1_init_31 : decode cX1_init 31 = .ok (.newarray .int, 2) := by decide +kernel
theorem dX1_init_33 : decode cX1_init 33 = .ok (.putfield 21, 3) := by decide +kernel
theorem dX1_init_36 : decode cX1_init 36 = .ok (.aload_n 0, 1) := by decide +kernel
theorem dX1_init_37 : decode cX1_init 37 = .ok (.bipush 10, 2) := by decide +kernel
theorem dX1_init_39 : decode cX1_init 39 = .ok (.newarray .int, 2) := by decide +kernel
theorem dX1_init_41 : decode cX1_init 41 = .ok (.putfield 24, 3) := by decide +kernel
theorem dX1_init_44 : decode cX1_init 44 = .ok (.aload_n 0, 1) := by decide +kernel
theorem dX1_init_45 : decode cX1_init 45 = .ok (.iconst 3, 1) := by decide +kernel
theorem dX1_init_46 : decode cX1_init 46 = .ok (.putfield 27, 3) := by decide +kernel
theorem dX1_init_49 : decode cX1_init 49 = .ok (.aload_n 0, 1) := by decide +kernel
theorem dX1_init_50 : decode cX1_init 50 = .ok (.iconst 4, 1) := by decide +kernel
theorem dX1_init_51 : decode cX1_init 51 = .ok (.newarray .int, 2) := by decide +kernel
theorem dX1_init_53 : decode cX1_init 53 = .ok (.putfield 31, 3) := by decide +kernel
theorem dX1_init_56 : decode cX1_init 56 = .ok (.aload_n 0, 1) := by decide +kernel
theorem dX1_init_57 : decode cX1_init 57 = .ok (.bipush 10, 2) := by decide +kernel
theorem dX1_init_59 : decode cX1_init 59 = .ok (.newarray .int, 2) := by decide +kernel
theorem dX1_init_61 : decode cX1_init 61 = .ok (.putfield 34, 3) := by decide +kernel
theorem dX1_init_64 : decode cX1_init 64 = .ok (.iconst 0, 1) := by decide +kernel
theorem dX1_init_65 : decode cX1_init 65 = .ok (.istore_n 1, 1) := by decide +kernel
theorem dX1_init_66 : decode cX1_init 66 = .ok (.iload_n 1, 1) := by decide +kernel
theorem dX1_init_67 : decode cX1_init 67 = .ok (.bipush 10, 2) := by decide +kernel
theorem dX1_init_69 : decode cX1_init 69 = .ok (.if_icmp .ge 23, 3) := by decide +kernel
theorem dX1_init_72 : decode cX1_init 72 = .ok (.aload_n 0, 1) := by decide +kernel
theorem dX1_init_73 : decode cX1_init 73 = .ok (.getfield 21, 3) := by decide +kernel
theorem dX1_init_76 : decode cX1_init 76 = .ok (.iload_n 1, 1) := by decide +kernel
theorem dX1_init_77 : decode cX1_init 77 = .ok (.iload_n 1, 1) := by decide +kernel
theorem dX1_init_78 : decode cX1_init 78 = .ok (.iastore, 1) := by decide +kernel
theorem dX1_init_79 : decode cX1_init 79 = .ok (.aload_n 0, 1) := by decide +kernel
theorem dX1_init_80 : decode cX1_init 80 = .ok (.getfield 24, 3) := by decide +kernel
theorem dX1_init_83 : decode cX1_init 83 = .ok (.iload_n 1, 1) := by decide +kernel
theorem dX1_init_84 : decode cX1_init 84 = .ok (.iload_n 1, 1) := by decide +kernel
theorem dX1_init_85 : decode cX1_init 85 = .ok (.iastore, 1) := by decide +kernel
theorem dX1_init_86 : decode cX1_init 86 = .ok (.iinc 1 1, 3) := by decide +kernel
theorem dX1_init_89 : decode cX1_init 89 = .ok (.goto (-23), 3) := by decide +kernel
theorem dX1_init_92 : decode cX1_init 92 = .ok (.aload_n 0, 1) := by decide +kernel
theorem dX1_init_93 : decode cX1_init 93 = .ok (.getfield 31, 3) := by decide +kernel
theorem dX1_init_96 : decode cX1_init 96 = .ok (.bipush 20, 2) := by decide +kernel
theorem dX1_init_98 : decode cX1_init 98 = .ok (.invokestatic 37, 3) := by decide +kernel
theorem dX1_init_101 : decode cX1_init 101 = .ok (.return_, 1) := by decide +kernel
theorem dX1_add_0 : decode cX1_add 0 = .ok (.aload_n 0, 1) := by decide +kernel
theorem dX1_add_1 : decode cX1_add 1 = .ok (.getfield 43, 3) := by decide +kernel
theorem dX1_add_4 : decode cX1_add 4 = .ok (.istore_n 3, 1) := by decide +kernel
theorem dX1_add_5 : decode cX1_add 5 = .ok (.aload_n 0, 1) := by decide +kernel
theorem dX1_add_6 : decode cX1_add 6 = .ok (.getfield 9, 3) := by decide +kernel
theorem dX1_add_9 : decode cX1_add 9 = .ok (.iload_n 3, 1) := by decide +kernel
theorem dX1_add_10 : decode cX1_add 10 = .ok (.iload_n 1, 1) := by decide +kernel
theorem dX1_add_11 : decode cX1_add 11 = .ok (.iastore, 1) := by decide +kernel
theorem dX1_add_12 : decode cX1_add 12 = .ok (.aload_n 0, 1) := by decide +kernel
theorem dX1_add_13 : decode cX1_add 13 = .ok (.getfield 15, 3) := by decide +kernel
theorem dX1_add_16 : decode cX1_add 16 = .ok (.iload_n 3, 1) := by decide +kernel
theorem dX1_add_17 : decode cX1_add 17 = .ok (.iload_n 2, 1) := by decide +kernel
theorem dX1_add_18 : decode cX1_add 18 = .ok (.iastore, 1) := by decide +kernel
theorem dX1_add_19 : decode cX1_add 19 = .ok (.aload_n 0, 1) := by decide +kernel
theorem dX1_add_20 : decode cX1_add 20 = .ok (.getfield 18, 3) := by decide +kernel
theorem dX1_add_23 : decode cX1_add 23 = .ok (.iload_n 3, 1) := by decide +kernel
theorem dX1_add_24 : decode cX1_add 24 = .ok (.iconst 0, 1) := by decide +kernel
theorem dX1_add_25 : decode cX1_add 25 = .ok (.iastore, 1) := by decide +kernel
theorem dX1_add_26 : decode cX1_add 26 = .ok (.aload_n 0, 1) := by decide +kernel
theorem dX1_add_27 : decode cX1_add 27 = .ok (.dup, 1) := by decide +kernel
theorem dX1_add_28 : decode cX1_add 28 = .ok (.getfield 43, 3) := by decide +kernel
theorem dX1_add_31 : decode cX1_add 31 = .ok (.iconst 1, 1) := by decide +kernel
theorem dX1_add_32 : decode cX1_add 32 = .ok (.iadd, 1) := by decide +kernel
theorem dX1_add_33 : decode cX1_add 33 = .ok (.putfield 43, 3) := by decide +kernel
theorem dX1_add_36 : decode cX1_add 36 = .ok (.aload_n 0, 1) := by decide +kernel
theorem dX1_add_37 : decode cX1_add 37 = .ok (.dup, 1) := by decide +kernel
theorem dX1_add_38 : decode cX1_add 38 = .ok (.getfield 46, 3) := by decide +kernel
theorem dX1_add_41 : decode cX1_add 41 = .ok (.iconst 1, 1) := by decide +kernel
theorem dX1_add_42 : decode cX1_add 42 = .ok (.iadd, 1) := by decide +kernel
theorem dX1_add_43 : decode cX1_add 43 = .ok (.putfield 46, 3) := by decide +kernel
theorem dX1_add_46 : decode cX1_add 46 = .ok (.iload_n 3, 1) := by decide +kernel
theorem dX1_add_47 : decode cX1_add 47 = .ok (.ireturn, 1) := by decide +kernel
theorem dX1_mark_0 : decode cX1_mark 0 = .ok (.aload_n 0, 1) := by decide +kernel
theorem dX1_mark_1 : decode cX1_mark 1 = .ok (.getfield 18, 3) := by decide +kernel
theorem dX1_mark_4 : decode cX1_mark 4 = .ok (.iload_n 1, 1) := by decide +kernel
theorem dX1_mark_5 : decode cX1_mark 5 = .ok (.iload_n 2, 1) := by decide +kernel
theorem dX1_mark_6 : decode cX1_mark 6 = .ok (.iastore, 1) := by decide +kernel
theorem dX1_mark_7 : decode cX1_mark 7 = .ok (.aload_n 0, 1) := by decide +kernel
theorem dX1_mark_8 : decode cX1_mark 8 = .ok (.dup, 1) := by decide +kernel
theorem dX1_mark_9 : decode cX1_mark 9 = .ok (.getfield 46, 3) := by decide +kernel
theorem dX1_mark_12 : decode cX1_mark 12 = .ok (.iconst 1, 1) := by decide +kernel
theorem dX1_mark_13 : decode cX1_mark 13 = .ok (.iadd, 1) := by decide +kernel
theorem dX1_mark_14 : decode cX1_mark 14 = .ok (.putfield 46, 3) := by decide +kernel
theorem dX1_mark_17 : decode cX1_mark 17 = .ok (.return_, 1) := by decide +kernel
theorem dX1_remove_0 : decode cX1_remove 0 = .ok (.aload_n 0, 1) := by decide +kernel
theorem dX1_remove_1 : decode cX1_remove 1 = .ok (.dup, 1) := by decide +kernel
theorem dX1_remove_2 : decode cX1_remove 2 = .ok (.getfield 43, 3) := by decide +kernel
theorem dX1_remove_5 : decode cX1_remove 5 = .ok (.iconst 1, 1) := by decide +kernel
theorem dX1_remove_6 : decode cX1_remove 6 = .ok (.isub, 1) := by decide +kernel
theorem dX1_remove_7 : decode cX1_remove 7 = .ok (.putfield 43, 3) := by decide +kernel
theorem dX1_remove_10 : decode cX1_remove 10 = .ok (.iload_n 1, 1) := by decide +kernel
theorem dX1_remove_11 : decode cX1_remove 11 = .ok (.istore_n 2, 1) := by decide +kernel
theorem dX1_remove_12 : decode cX1_remove 12 = .ok (.iload_n 2, 1) := by decide +kernel
theorem dX1_remove_13 : decode cX1_remove 13 = .ok (.aload_n 0, 1) := by decide +kernel
theorem dX1_remove_14 : decode cX1_remove 14 = .ok (.getfield 43, 3) := by decide +kernel
theorem dX1_remove_17 : decode cX1_remove 17 = .ok (.if_icmp .ge 51, 3) := by decide +kernel
theorem dX1_remove_20 : decode cX1_remove 20 = .ok (.aload_n 0, 1) := by decide +kernel
theorem dX1_remove_21 : decode cX1_remove 21 = .ok (.getfield 9, 3) := by decide +kernel
theorem dX1_remove_24 : decode cX1_remove 24 = .ok (.iload_n 2, 1) := by decide +kernel
theorem dX1_remove_25 : decode cX1_remove 25 = .ok (.aload_n 0, 1) := by decide +kernel
theorem dX1_remove_26 : decode cX1_remove 26 = .ok (.getfield 9, 3) := by decide +kernel
theorem dX1_remove_29 : decode cX1_remove 29 = .ok (.iload_n 2, 1) := by decide +kernel
theorem dX1_remove_30 : decode cX1_remove 30 = .ok (.iconst 1, 1) := by decide +kernel
theorem dX1_remove_31 : decode cX1_remove 31 = .ok (.iadd, 1) := by decide +kernel
theorem dX1_remove_32 : decode cX1_remove 32 = .ok (.iaload, 1) := by decide +kernel
theorem dX1_remove_33 : decode cX1_remove 33 = .ok (.iastore, 1) := by decide +kernel
theorem dX1_remove_34 : decode cX1_remove 34 = .ok (.aload_n 0, 1) := by decide +kernel
theorem dX1_remove_35 : decode cX1_remove 35 = .ok (.getfield 15, 3) := by decide +kernel
theorem dX1_remove_38 : decode cX1_remove 38 = .ok (.iload_n 2, 1) := by decide +kernel
theorem dX1_remove_39 : decode cX1_remove 39 = .ok (.aload_n 0, 1) := by decide +kernel
theorem dX1_remove_40 : decode cX1_remove 40 = .ok (.getfield 15, 3) := by decide +kernel
theorem dX1_remove_43 : decode cX1_remove 43 = .ok (.iload_n 2, 1) := by decide +kernel
theorem dX1_remove_44 : decode cX1_remove 44 = .ok (.iconst 1, 1) := by decide +kernel
theorem dX1_remove_45 : decode cX1_remove 45 = .ok (.iadd, 1) := by decide +kernel
theorem dX1_remove_46 : decode cX1_remove 46 = .ok (.iaload, 1) := by decide +kernel
theorem dX1_remove_47 : decode cX1_remove 47 = .ok (.iastore, 1) := by decide +kernel
theorem dX1_remove_48 : decode cX1_remove 48 = .ok (.aload_n 0, 1) := by decide +kernel
theorem dX1_remove_49 : decode cX1_remove 49 = .ok (.getfield 18, 3) := by decide +kernel
theorem dX1_remove_52 : decode cX1_remove 52 = .ok (.iload_n 2, 1) := by decide +kernel
theorem dX1_remove_53 : decode cX1_remove 53 = .ok (.aload_n 0, 1) := by decide +kernel
theorem dX1_remove_54 : decode cX1_remove 54 = .ok (.getfield 18, 3) := by decide +kernel
theorem dX1_remove_57 : decode cX1_remove 57 = .ok (.iload_n 2, 1) := by decide +kernel
theorem dX1_remove_58 : decode cX1_remove 58 = .ok (.iconst 1, 1) := by decide +kernel
theorem dX1_remove_59 : decode cX1_remove 59 = .ok (.iadd, 1) := by decide +kernel
theorem dX1_remove_60 : decode cX1_remove 60 = .ok (.iaload, 1) := by decide +kernel
theorem dX1_remove_61 : decode cX1_remove 61 = .ok (.iastore, 1) := by decide +kernel
theorem dX1_remove_62 : decode cX1_remove 62 = .ok (.iinc 2 1, 3) := by decide +kernel
theorem dX1_remove_65 : decode cX1_remove 65 = .ok (.goto (-53), 3) := by decide +kernel
theorem dX1_remove_68 : decode cX1_remove 68 = .ok (.aload_n 0, 1) := by decide +kernel
theorem dX1_remove_69 : decode cX1_remove 69 = .ok (.dup, 1) := by decide +kernel
theorem dX1_remove_70 : decode cX1_remove 70 = .ok (.getfield 46, 3) := by decide +kernel
theorem dX1_remove_73 : decode cX1_remove 73 = .ok (.iconst 1, 1) := by decide +kernel
theorem dX1_remove_74 : decode cX1_remove 74 = .ok (.iadd, 1) := by decide +kernel
theorem dX1_remove_75 : decode cX1_remove 75 = .ok (.putfield 46, 3) := by decide +kernel
theorem dX1_remove_78 : decode cX1_remove 78 = .ok (.return_, 1) := by decide +kernel
theorem dX1_swap_0 : decode cX1_swap 0 = .ok (.aload_n 0, 1) := by decide +kernel
theorem dX1_swap_1 : decode cX1_swap 1 = .ok (.getfield 24, 3) := by decide +kernel
theorem dX1_swap_4 : decode cX1_swap 4 = .ok (.iload_n 1, 1) := by decide +kernel
theorem dX1_swap_5 : decode cX1_swap 5 = .ok (.iaload, 1) := by decide +kernel
theorem dX1_swap_6 : decode cX1_swap 6 = .ok (.istore_n 3, 1) := by decide +kernel
theorem dX1_swap_7 : decode cX1_swap 7 = .ok (.aload_n 0, 1) := by decide +kernel
theorem dX1_swap_8 : decode cX1_swap 8 = .ok (.getfield 24, 3) := by decide +kernel
theorem dX1_swap_11 : decode cX1_swap 11 = .ok (.iload_n 1, 1) := by decide +kernel
theorem dX1_swap_12 : decode cX1_swap 12 = .ok (.aload_n 0, 1) := by decide +kernel
theorem dX1_swap_13 : decode cX1_swap 13 = .ok (.getfield 24, 3) := by decide +kernel
theorem dX1_swap_16 : decode cX1_swap 16 = .ok (.iload_n 2, 1) := by decide +kernel
theorem dX1_swap_17 : decode cX1_swap 17 = .ok (.iaload, 1) := by decide +kernel
theorem dX1_swap_18 : decode cX1_swap 18 = .ok (.iastore, 1) := by decide +kernel
theorem dX1_swap_19 : decode cX1_swap 19 = .ok (.aload_n 0, 1) := by decide +kernel
theorem dX1_swap_20 : decode cX1_swap 20 = .ok (.getfield 24, 3) := by decide +kernel
theorem dX1_swap_23 : decode cX1_swap 23 = .ok (.iload_n 2, 1) := by decide +kernel
theorem dX1_swap_24 : decode cX1_swap 24 = .ok (.iload_n 3, 1) := by decide +kernel
theorem dX1_swap_25 : decode cX1_swap 25 = .ok (.iastore, 1) := by decide +kernel
theorem dX1_swap_26 : decode cX1_swap 26 = .ok (.aload_n 0, 1) := by decide +kernel
theorem dX1_swap_27 : decode cX1_swap 27 = .ok (.getfield 21, 3) := by decide +kernel
theorem dX1_swap_30 : decode cX1_swap 30 = .ok (.aload_n 0, 1) := by decide +kernel
theorem dX1_swap_31 : decode cX1_swap 31 = .ok (.getfield 24, 3) := by decide +kernel
theorem dX1_swap_34 : decode cX1_swap 34 = .ok (.iload_n 1, 1) := by decide +kernel
theorem dX1_swap_35 : decode cX1_swap 35 = .ok (.iaload, 1) := by decide +kernel
theorem dX1_swap_36 : decode cX1_swap 36 = .ok (.iload_n 1, 1) := by decide +kernel
theorem dX1_swap_37 : decode cX1_swap 37 = .ok (.iastore, 1) := by decide +kernel
theorem dX1_swap_38 : decode cX1_swap 38 = .ok (.aload_n 0, 1) := by decide +kernel
theorem dX1_swap_39 : decode cX1_swap 39 = .ok (.getfield 21, 3) := by decide +kernel
theorem dX1_swap_42 : decode cX1_swap 42 = .ok (.aload_n 0, 1) := by decide +kernel
theorem dX1_swap_43 : decode cX1_swap 43 = .ok (.getfield 24, 3) := by decide +kernel
theorem dX1_swap_46 : decode cX1_swap 46 = .ok (.iload_n 2, 1) := by decide +kernel
theorem dX1_swap_47 : decode cX1_swap 47 = .ok (.iaload, 1) := by decide +kernel
theorem dX1_swap_48 : decode cX1_swap 48 = .ok (.iload_n 2, 1) := by decide +kernel
theorem dX1_swap_49 : decode cX1_swap 49 = .ok (.iastore, 1) := by decide +kernel
theorem dX1_swap_50 : decode cX1_swap 50 = .ok (.aload_n 0, 1) := by decide +kernel
theorem dX1_swap_51 : decode cX1_swap 51 = .ok (.dup, 1) := by decide +kernel
theorem dX1_swap_52 : decode cX1_swap 52 = .ok (.getfield 46, 3) := by decide +kernel
theorem dX1_swap_55 : decode cX1_swap 55 = .ok (.iconst 1, 1) := by decide +kernel
theorem dX1_swap_56 : decode cX1_swap 56 = .ok (.iadd, 1) := by decide +kernel
theorem dX1_swap_57 : decode cX1_swap 57 = .ok (.putfield 46, 3) := by decide +kernel
theorem dX1_swap_60 : decode cX1_swap 60 = .ok (.return_, 1) := by decide +kernel
theorem dX1_setMany_0 : decode cX1_setMany 0 = .ok (.aload_n 0, 1) := by decide +kernel
theorem dX1_setMany_1 : decode cX1_setMany 1 = .ok (.iload_n 1, 1) := by decide +kernel
theorem dX1_setMany_2 : decode cX1_setMany 2 = .ok (.putfield 27, 3) := by decide +kernel
theorem dX1_setMany_5 : decode cX1_setMany 5 = .ok (.aload_n 0, 1) := by decide +kernel
theorem dX1_setMany_6 : decode cX1_setMany 6 = .ok (.dup, 1) := by decide +kernel
theorem dX1_setMany_7 : decode cX1_setMany 7 = .ok (.getfield 46, 3) := by decide +kernel
theorem dX1_setMany_10 : decode cX1_setMany 10 = .ok (.iconst 1, 1) := by decide +kernel
theorem dX1_setMany_11 : decode cX1_setMany 11 = .ok (.iadd, 1) := by decide +kernel
theorem dX1_setMany_12 : decode cX1_setMany 12 = .ok (.putfield 46, 3) := by decide +kernel
theorem dX1_setMany_15 : decode cX1_setMany 15 = .ok (.return_, 1) := by decide +kernel
theorem dX1_setRoom_0 : decode cX1_setRoom 0 = .ok (.aload_n 0, 1) := by decide +kernel
theorem dX1_setRoom_1 : decode cX1_setRoom 1 = .ok (.getfield 31, 3) := by decide +kernel
theorem dX1_setRoom_4 : decode cX1_setRoom 4 = .ok (.iload_n 1, 1) := by decide +kernel
theorem dX1_setRoom_5 : decode cX1_setRoom 5 = .ok (.iload_n 2, 1) := by decide +kernel
theorem dX1_setRoom_6 : decode cX1_setRoom 6 = .ok (.iastore, 1) := by decide +kernel
theorem dX1_setRoom_7 : decode cX1_setRoom 7 = .ok (.aload_n 0, 1) := by decide +kernel
theorem dX1_setRoom_8 : decode cX1_setRoom 8 = .ok (.dup, 1) := by decide +kernel
theorem dX1_setRoom_9 : decode cX1_setRoom 9 = .ok (.getfield 46, 3) := by decide +kernel
theorem dX1_setRoom_12 : decode cX1_setRoom 12 = .ok (.iconst 1, 1) := by decide +kernel
theorem dX1_setRoom_13 : decode cX1_setRoom 13 = .ok (.iadd, 1) := by decide +kernel
theorem dX1_setRoom_14 : decode cX1_setRoom 14 = .ok (.putfield 46, 3) := by decide +kernel
theorem dX1_setRoom_17 : decode cX1_setRoom 17 = .ok (.return_, 1) := by decide +kernel
set_option maxRecDepth 20000 in
theorem ggX1_codeDensely_X1_hasLetterAt : GoodIn wsX1_codeDensely wsX1_hasLetterAt := goodIn_r _ [7, 8, 9, 10, 11, 12, 13, 14, 15, 16, 17, 18, 19] (by decide +kernel) (by decide +kernel)
set_option maxRecDepth 20000 in
theorem gX1_codeDensely_X1_hasLetterAt : GoodIn wsX1_codeDensely (wsV RX1 49 RX1 yX1_hasLetterAt wsX1_hasLetterAt) := goodIn_app (goodIn_of _ (by decide +kernel)) ggX1_codeDensely_X1_hasLetterAt
theorem dX1_codeDensely_0 : decode cX1_codeDensely 0 = .ok (.iconst 0, 1) := by decide +kernel
theorem dX1_codeDensely_1 : decode cX1_codeDensely 1 = .ok (.istore_n 1, 1) := by decide +kernel
theorem dX1_codeDensely_2 : decode cX1_codeDensely 2 = .ok (.iconst 0, 1) := by decide +kernel
theorem dX1_codeDensely_3 : decode cX1_codeDensely 3 = .ok (.istore_n 2, 1) := by decide +kernel
theorem dX1_codeDensely_4 : decode cX1_codeDensely 4 = .ok (.iload_n 2, 1) := by decide +kernel
theorem dX1_codeDensely_5 : decode cX1_codeDensely 5 = .ok (.bipush 10, 2) := by decide +kernel
theorem dX1_codeDensely_7 : decode cX1_codeDensely 7 = .ok (.if_icmp .ge 34, 3) := by decide +kernel
theorem dX1_codeDensely_10 : decode cX1_codeDensely 10 = .ok (.aload_n 0, 1) := by decide +kernel
theorem dX1_codeDensely_11 : decode cX1_codeDensely 11 = .ok (.getfield 21, 3) := by decide +kernel
theorem dX1_codeDensely_14 : decode cX1_codeDensely 14 = .ok (.iload_n 2, 1) := by decide +kernel
theorem dX1_codeDensely_15 : decode cX1_codeDensely 15 = .ok (.iaload, 1) := by decide +kernel
theorem dX1_codeDensely_16 : decode cX1_codeDensely 16 = .ok (.istore_n 3, 1) := by decide +kernel
theorem dX1_codeDensely_17 : decode cX1_codeDensely 17 = .ok (.aload_n 0, 1) := by decide +kernel
theorem dX1_codeDensely_18 : decode cX1_codeDensely 18 = .ok (.iload_n 3, 1) := by decide +kernel
theorem dX1_codeDensely_19 : decode cX1_codeDensely 19 = .ok (.invokevirtual 49, 3) := by decide +kernel
theorem dX1_codeDensely_22 : decode cX1_codeDensely 22 = .ok (.ifCond .eq 13, 3) := by decide +kernel
theorem dX1_codeDensely_25 : decode cX1_codeDensely 25 = .ok (.aload_n 0, 1) := by decide +kernel
theorem dX1_codeDensely_26 : decode cX1_codeDensely 26 = .ok (.getfield 34, 3) := by decide +kernel
theorem dX1_codeDensely_29 : decode cX1_codeDensely 29 = .ok (.iload_n 3, 1) := by decide +kernel
theorem dX1_codeDensely_30 : decode cX1_codeDensely 30 = .ok (.iload_n 1, 1) := by decide +kernel
theorem dX1_codeDensely_31 : decode cX1_codeDensely 31 = .ok (.iastore, 1) := by decide +kernel
theorem dX1_codeDensely_32 : decode cX1_codeDensely 32 = .ok (.iinc 1 1, 3) := by decide +kernel
theorem dX1_codeDensely_35 : decode cX1_codeDensely 35 = .ok (.iinc 2 1, 3) := by decide +kernel
theorem dX1_codeDensely_38 : decode cX1_codeDensely 38 = .ok (.goto (-34), 3) := by decide +kernel
theorem dX1_codeDensely_41 : decode cX1_codeDensely 41 = .ok (.iload_n 1, 1) := by decide +kernel
theorem dX1_codeDensely_42 : decode cX1_codeDensely 42 = .ok (.ireturn, 1) := by decide +kernel
set_option maxRecDepth 20000 in
theorem ggX1_takeCodes_X1_hasLetterAt : GoodIn wsX1_takeCodes wsX1_hasLetterAt := goodIn_r _ [6, 7, 8, 9, 10, 11, 12, 13, 14, 15, 16, 17, 18] (by decide +kernel) (by decide +kernel)
set_option maxRecDepth 20000 in
theorem gX1_takeCodes_X1_hasLetterAt : GoodIn wsX1_takeCodes (wsV RX1 49 RX1 yX1_hasLetterAt wsX1_hasLetterAt) := goodIn_app (goodIn_of _ (by decide +kernel)) ggX1_takeCodes_X1_hasLetterAt
theorem dX1_takeCodes_0 : decode cX1_takeCodes 0 = .ok (.iconst 0, 1) := by decide +kernel
theorem dX1_takeCodes_1 : decode cX1_takeCodes 1 = .ok (.istore_n 2, 1) := by decide +kernel
theorem dX1_takeCodes_2 : decode cX1_takeCodes 2 = .ok (.iload_n 2, 1) := by decide +kernel
theorem dX1_takeCodes_3 : decode cX1_takeCodes 3 = .ok (.bipush 10, 2) := by decide +kernel
theorem dX1_takeCodes_5 : decode cX1_takeCodes 5 = .ok (.if_icmp .ge 26, 3) := by decide +kernel
theorem dX1_takeCodes_8 : decode cX1_takeCodes 8 = .ok (.aload_n 0, 1) := by decide +kernel
theorem dX1_takeCodes_9 : decode cX1_takeCodes 9 = .ok (.iload_n 2, 1) := by decide +kernel
theorem dX1_takeCodes_10 : decode cX1_takeCodes 10 = .ok (.invokevirtual 49, 3) := by decide +kernel
theorem dX1_takeCodes_13 : decode cX1_takeCodes 13 = .ok (.ifCond .eq 12, 3) := by decide +kernel
theorem dX1_takeCodes_16 : decode cX1_takeCodes 16 = .ok (.aload_n 0, 1) := by decide +kernel
theorem dX1_takeCodes_17 : decode cX1_takeCodes 17 = .ok (.getfield 34, 3) := by decide +kernel
theorem dX1_takeCodes_20 : decode cX1_takeCodes 20 = .ok (.iload_n 2, 1) := by decide +kernel
theorem dX1_takeCodes_21 : decode cX1_takeCodes 21 = .ok (.aload_n 1, 1) := by decide +kernel
theorem dX1_takeCodes_22 : decode cX1_takeCodes 22 = .ok (.iload_n 2, 1) := by decide +kernel
theorem dX1_takeCodes_23 : decode cX1_takeCodes 23 = .ok (.iaload, 1) := by decide +kernel
theorem dX1_takeCodes_24 : decode cX1_takeCodes 24 = .ok (.iastore, 1) := by decide +kernel
theorem dX1_takeCodes_25 : decode cX1_takeCodes 25 = .ok (.iinc 2 1, 3) := by decide +kernel
theorem dX1_takeCodes_28 : decode cX1_takeCodes 28 = .ok (.goto (-26), 3) := by decide +kernel
theorem dX1_takeCodes_31 : decode cX1_takeCodes 31 = .ok (.return_, 1) := by decide +kernel
set_option maxRecDepth 20000 in
theorem ggX1_codesRise_X1_hasLetterAt : GoodIn wsX1_codesRise wsX1_hasLetterAt := goodIn_r _ [7, 8, 9, 10, 11, 12, 13, 14, 15, 16, 17, 18, 19] (by decide +kernel) (by decide +kernel)
set_option maxRecDepth 20000 in
theorem gX1_codesRise_X1_hasLetterAt : GoodIn wsX1_codesRise (wsV RX1 49 RX1 yX1_hasLetterAt wsX1_hasLetterAt) := goodIn_app (goodIn_of _ (by decide +kernel)) ggX1_codesRise_X1_hasLetterAt
theorem dX1_codesRise_0 : decode cX1_codesRise 0 = .ok (.iconst (-1), 1) := by decide +kernel
theorem dX1_codesRise_1 : decode cX1_codesRise 1 = .ok (.istore_n 1, 1) := by decide +kernel
theorem dX1_codesRise_2 : decode cX1_codesRise 2 = .ok (.iconst 0, 1) := by decide +kernel
theorem dX1_codesRise_3 : decode cX1_codesRise 3 = .ok (.istore_n 2, 1) := by decide +kernel
theorem dX1_codesRise_4 : decode cX1_codesRise 4 = .ok (.iload_n 2, 1) := by decide +kernel
theorem dX1_codesRise_5 : decode cX1_codesRise 5 = .ok (.bipush 10, 2) := by decide +kernel
theorem dX1_codesRise_7 : decode cX1_codesRise 7 = .ok (.if_icmp .ge 43, 3) := by decide +kernel
theorem dX1_codesRise_10 : decode cX1_codesRise 10 = .ok (.aload_n 0, 1) := by decide +kernel
theorem dX1_codesRise_11 : decode cX1_codesRise 11 = .ok (.getfield 21, 3) := by decide +kernel
theorem dX1_codesRise_14 : decode cX1_codesRise 14 = .ok (.iload_n 2, 1) := by decide +kernel
theorem dX1_codesRise_15 : decode cX1_codesRise 15 = .ok (.iaload, 1) := by decide +kernel
theorem dX1_codesRise_16 : decode cX1_codesRise 16 = .ok (.istore_n 3, 1) := by decide +kernel
theorem dX1_codesRise_17 : decode cX1_codesRise 17 = .ok (.aload_n 0, 1) := by decide +kernel
theorem dX1_codesRise_18 : decode cX1_codesRise 18 = .ok (.iload_n 3, 1) := by decide +kernel
theorem dX1_codesRise_19 : decode cX1_codesRise 19 = .ok (.invokevirtual 49, 3) := by decide +kernel
theorem dX1_codesRise_22 : decode cX1_codesRise 22 = .ok (.ifCond .eq 22, 3) := by decide +kernel
theorem dX1_codesRise_25 : decode cX1_codesRise 25 = .ok (.aload_n 0, 1) := by decide +kernel
theorem dX1_codesRise_26 : decode cX1_codesRise 26 = .ok (.getfield 34, 3) := by decide +kernel
theorem dX1_codesRise_29 : decode cX1_codesRise 29 = .ok (.iload_n 3, 1) := by decide +kernel
theorem dX1_codesRise_30 : decode cX1_codesRise 30 = .ok (.iaload, 1) := by decide +kernel
theorem dX1_codesRise_31 : decode cX1_codesRise 31 = .ok (.iload_n 1, 1) := by decide +kernel
theorem dX1_codesRise_32 : decode cX1_codesRise 32 = .ok (.if_icmp .gt 5, 3) := by decide +kernel
theorem dX1_codesRise_35 : decode cX1_codesRise 35 = .ok (.iconst 0, 1) := by decide +kernel
theorem dX1_codesRise_36 : decode cX1_codesRise 36 = .ok (.ireturn, 1) := by decide +kernel
theorem dX1_codesRise_37 : decode cX1_codesRise 37 = .ok (.aload_n 0, 1) := by decide +kernel
theorem dX1_codesRise_38 : decode cX1_codesRise 38 = .ok (.getfield 34, 3) := by decide +kernel
theorem dX1_codesRise_41 : decode cX1_codesRise 41 = .ok (.iload_n 3, 1) := by decide +kernel
theorem dX1_codesRise_42 : decode cX1_codesRise 42 = .ok (.iaload, 1) := by decide +kernel
theorem dX1_codesRise_43 : decode cX1_codesRise 43 = .ok (.istore_n 1, 1) := by decide +kernel
theorem dX1_codesRise_44 : decode cX1_codesRise 44 = .ok (.iinc 2 1, 3) := by decide +kernel
theorem dX1_codesRise_47 : decode cX1_codesRise 47 = .ok (.goto (-43), 3) := by decide +kernel
theorem dX1_codesRise_50 : decode cX1_codesRise 50 = .ok (.iconst 1, 1) := by decide +kernel
theorem dX1_codesRise_51 : decode cX1_codesRise 51 = .ok (.ireturn, 1) := by decide +kernel
theorem dX1_hasLetterAt_0 : decode cX1_hasLetterAt 0 = .ok (.iconst 0, 1) := by decide +kernel
theorem dX1_hasLetterAt_1 : decode cX1_hasLetterAt 1 = .ok (.istore_n 2, 1) := by decide +kernel
theorem dX1_hasLetterAt_2 : decode cX1_hasLetterAt 2 = .ok (.iload_n 2, 1) := by decide +kernel
theorem dX1_hasLetterAt_3 : decode cX1_hasLetterAt 3 = .ok (.aload_n 0, 1) := by decide +kernel
theorem dX1_hasLetterAt_4 : decode cX1_hasLetterAt 4 = .ok (.getfield 43, 3) := by decide +kernel
theorem dX1_hasLetterAt_7 : decode cX1_hasLetterAt 7 = .ok (.if_icmp .ge 21, 3) := by decide +kernel
theorem dX1_hasLetterAt_10 : decode cX1_hasLetterAt 10 = .ok (.aload_n 0, 1) := by decide +kernel
theorem dX1_hasLetterAt_11 : decode cX1_hasLetterAt 11 = .ok (.getfield 9, 3) := by decide +kernel
theorem dX1_hasLetterAt_14 : decode cX1_hasLetterAt 14 = .ok (.iload_n 2, 1) := by decide +kernel
theorem dX1_hasLetterAt_15 : decode cX1_hasLetterAt 15 = .ok (.iaload, 1) := by decide +kernel
theorem dX1_hasLetterAt_16 : decode cX1_hasLetterAt 16 = .ok (.iload_n 1, 1) := by decide +kernel
theorem dX1_hasLetterAt_17 : decode cX1_hasLetterAt 17 = .ok (.if_icmp .ne 5, 3) := by decide +kernel
theorem dX1_hasLetterAt_20 : decode cX1_hasLetterAt 20 = .ok (.iconst 1, 1) := by decide +kernel
theorem dX1_hasLetterAt_21 : decode cX1_hasLetterAt 21 = .ok (.ireturn, 1) := by decide +kernel
theorem dX1_hasLetterAt_22 : decode cX1_hasLetterAt 22 = .ok (.iinc 2 1, 3) := by decide +kernel
theorem dX1_hasLetterAt_25 : decode cX1_hasLetterAt 25 = .ok (.goto (-23), 3) := by decide +kernel
theorem dX1_hasLetterAt_28 : decode cX1_hasLetterAt 28 = .ok (.iconst 0, 1) := by decide +kernel
theorem dX1_hasLetterAt_29 : decode cX1_hasLetterAt 29 = .ok (.ireturn, 1) := by decide +kernel
set_option maxRecDepth 20000 in
theorem ggX1_countPoints_X1_hasLetterAt : GoodIn wsX1_countPoints wsX1_hasLetterAt := goodIn_r _ [5, 6, 7, 8, 9, 10, 11, 12, 13, 14, 15, 16, 17] (by decide +kernel) (by decide +kernel)
set_option maxRecDepth 20000 in
theorem gX1_countPoints_X1_hasLetterAt : GoodIn wsX1_countPoints (wsV RX1 49 RX1 yX1_hasLetterAt wsX1_hasLetterAt) := goodIn_app (goodIn_of _ (by decide +kernel)) ggX1_countPoints_X1_hasLetterAt
theorem dX1_countPoints_0 : decode cX1_countPoints 0 = .ok (.iconst 0, 1) := by decide +kernel
theorem dX1_countPoints_1 : decode cX1_countPoints 1 = .ok (.istore_n 1, 1) := by decide +kernel
theorem dX1_countPoints_2 : decode cX1_countPoints 2 = .ok (.iconst 0, 1) := by decide +kernel
theorem dX1_countPoints_3 : decode cX1_countPoints 3 = .ok (.istore_n 2, 1) := by decide +kernel
theorem dX1_countPoints_4 : decode cX1_countPoints 4 = .ok (.iload_n 2, 1) := by decide +kernel
theorem dX1_countPoints_5 : decode cX1_countPoints 5 = .ok (.bipush 10, 2) := by decide +kernel
theorem dX1_countPoints_7 : decode cX1_countPoints 7 = .ok (.if_icmp .ge 20, 3) := by decide +kernel
theorem dX1_countPoints_10 : decode cX1_countPoints 10 = .ok (.aload_n 0, 1) := by decide +kernel
theorem dX1_countPoints_11 : decode cX1_countPoints 11 = .ok (.iload_n 2, 1) := by decide +kernel
theorem dX1_countPoints_12 : decode cX1_countPoints 12 = .ok (.invokevirtual 49, 3) := by decide +kernel
theorem dX1_countPoints_15 : decode cX1_countPoints 15 = .ok (.ifCond .eq 6, 3) := by decide +kernel
theorem dX1_countPoints_18 : decode cX1_countPoints 18 = .ok (.iinc 1 1, 3) := by decide +kernel
theorem dX1_countPoints_21 : decode cX1_countPoints 21 = .ok (.iinc 2 1, 3) := by decide +kernel
theorem dX1_countPoints_24 : decode cX1_countPoints 24 = .ok (.goto (-20), 3) := by decide +kernel
theorem dX1_countPoints_27 : decode cX1_countPoints 27 = .ok (.iload_n 1, 1) := by decide +kernel
theorem dX1_countPoints_28 : decode cX1_countPoints 28 = .ok (.ireturn, 1) := by decide +kernel
set_option maxRecDepth 20000 in
theorem ggX1_countMisread_X1_addFirst : GoodIn wsX1_countMisread wsX1_addFirst := goodIn_r _ [6] (by decide +kernel) (by decide +kernel)
set_option maxRecDepth 20000 in
theorem gX1_countMisread_X1_addFirst : GoodIn wsX1_countMisread (va_wsS RX1 53 yX1_addFirst wsX1_addFirst) := goodIn_app (goodIn_of _ (by decide +kernel)) ggX1_countMisread_X1_addFirst
theorem dX1_countMisread_0 : decode cX1_countMisread 0 = .ok (.aload_n 0, 1) := by decide +kernel
theorem dX1_countMisread_1 : decode cX1_countMisread 1 = .ok (.getfield 18, 3) := by decide +kernel
theorem dX1_countMisread_4 : decode cX1_countMisread 4 = .ok (.aload_n 0, 1) := by decide +kernel
theorem dX1_countMisread_5 : decode cX1_countMisread 5 = .ok (.getfield 43, 3) := by decide +kernel
theorem dX1_countMisread_8 : decode cX1_countMisread 8 = .ok (.invokestatic 53, 3) := by decide +kernel
theorem dX1_countMisread_11 : decode cX1_countMisread 11 = .ok (.ireturn, 1) := by decide +kernel
set_option maxRecDepth 20000 in
theorem ggX1_addThicks_X1_addFirst : GoodIn wsX1_addThicks wsX1_addFirst := goodIn_r _ [6] (by decide +kernel) (by decide +kernel)
set_option maxRecDepth 20000 in
theorem gX1_addThicks_X1_addFirst : GoodIn wsX1_addThicks (va_wsS RX1 53 yX1_addFirst wsX1_addFirst) := goodIn_app (goodIn_of _ (by decide +kernel)) ggX1_addThicks_X1_addFirst
theorem dX1_addThicks_0 : decode cX1_addThicks 0 = .ok (.aload_n 0, 1) := by decide +kernel
theorem dX1_addThicks_1 : decode cX1_addThicks 1 = .ok (.getfield 15, 3) := by decide +kernel
theorem dX1_addThicks_4 : decode cX1_addThicks 4 = .ok (.aload_n 0, 1) := by decide +kernel
theorem dX1_addThicks_5 : decode cX1_addThicks 5 = .ok (.getfield 43, 3) := by decide +kernel
theorem dX1_addThicks_8 : decode cX1_addThicks 8 = .ok (.invokestatic 53, 3) := by decide +kernel
theorem dX1_addThicks_11 : decode cX1_addThicks 11 = .ok (.ireturn, 1) := by decide +kernel
set_option maxRecDepth 20000 in
theorem ggX1_addRooms_X1_addFirst : GoodIn wsX1_addRooms wsX1_addFirst := goodIn_r _ [6] (by decide +kernel) (by decide +kernel)
set_option maxRecDepth 20000 in
theorem gX1_addRooms_X1_addFirst : GoodIn wsX1_addRooms (va_wsS RX1 53 yX1_addFirst wsX1_addFirst) := goodIn_app (goodIn_of _ (by decide +kernel)) ggX1_addRooms_X1_addFirst
theorem dX1_addRooms_0 : decode cX1_addRooms 0 = .ok (.aload_n 0, 1) := by decide +kernel
theorem dX1_addRooms_1 : decode cX1_addRooms 1 = .ok (.getfield 31, 3) := by decide +kernel
theorem dX1_addRooms_4 : decode cX1_addRooms 4 = .ok (.aload_n 0, 1) := by decide +kernel
theorem dX1_addRooms_5 : decode cX1_addRooms 5 = .ok (.getfield 27, 3) := by decide +kernel
theorem dX1_addRooms_8 : decode cX1_addRooms 8 = .ok (.invokestatic 53, 3) := by decide +kernel
theorem dX1_addRooms_11 : decode cX1_addRooms 11 = .ok (.ireturn, 1) := by decide +kernel
theorem dX1_addFirst_0 : decode cX1_addFirst 0 = .ok (.iconst 0, 1) := by decide +kernel
theorem dX1_addFirst_1 : decode cX1_addFirst 1 = .ok (.istore_n 2, 1) := by decide +kernel
theorem dX1_addFirst_2 : decode cX1_addFirst 2 = .ok (.iconst 0, 1) := by decide +kernel
theorem dX1_addFirst_3 : decode cX1_addFirst 3 = .ok (.istore_n 3, 1) := by decide +kernel
theorem dX1_addFirst_4 : decode cX1_addFirst 4 = .ok (.iload_n 3, 1) := by decide +kernel
theorem dX1_addFirst_5 : decode cX1_addFirst 5 = .ok (.iload_n 1, 1) := by decide +kernel
theorem dX1_addFirst_6 : decode cX1_addFirst 6 = .ok (.if_icmp .ge 15, 3) := by decide +kernel
theorem dX1_addFirst_9 : decode cX1_addFirst 9 = .ok (.iload_n 2, 1) := by decide +kernel
theorem dX1_addFirst_10 : decode cX1_addFirst 10 = .ok (.aload_n 0, 1) := by decide +kernel
theorem dX1_addFirst_11 : decode cX1_addFirst 11 = .ok (.iload_n 3, 1) := by decide +kernel
theorem dX1_addFirst_12 : decode cX1_addFirst 12 = .ok (.iaload, 1) := by decide +kernel
theorem dX1_addFirst_13 : decode cX1_addFirst 13 = .ok (.iadd, 1) := by decide +kernel
theorem dX1_addFirst_14 : decode cX1_addFirst 14 = .ok (.istore_n 2, 1) := by decide +kernel
theorem dX1_addFirst_15 : decode cX1_addFirst 15 = .ok (.iinc 3 1, 3) := by decide +kernel
theorem dX1_addFirst_18 : decode cX1_addFirst 18 = .ok (.goto (-14), 3) := by decide +kernel
theorem dX1_addFirst_21 : decode cX1_addFirst 21 = .ok (.iload_n 2, 1) := by decide +kernel
theorem dX1_addFirst_22 : decode cX1_addFirst 22 = .ok (.ireturn, 1) := by decide +kernel
set_option maxRecDepth 20000 in
theorem ggX1_copyFrom_X1_copyRow : GoodIn wsX1_copyFrom wsX1_copyRow := goodIn_r _ [14, 15, 16, 17, 18] (by decide +kernel) (by decide +kernel)
set_option maxRecDepth 20000 in
theorem gX1_copyFrom_X1_copyRow : GoodIn wsX1_copyFrom (va_wsS RX1 57 yX1_copyRow wsX1_copyRow) := goodIn_app (goodIn_of _ (by decide +kernel)) ggX1_copyFrom_X1_copyRow
theorem dX1_copyFrom_0 : decode cX1_copyFrom 0 = .ok (.aload_n 0, 1) := by decide +kernel
theorem dX1_copyFrom_1 : decode cX1_copyFrom 1 = .ok (.aload_n 1, 1) := by decide +kernel
theorem dX1_copyFrom_2 : decode cX1_copyFrom 2 = .ok (.getfield 43, 3) := by decide +kernel
theorem dX1_copyFrom_5 : decode cX1_copyFrom 5 = .ok (.putfield 43, 3) := by decide +kernel
theorem dX1_copyFrom_8 : decode cX1_copyFrom 8 = .ok (.aload_n 1, 1) := by decide +kernel
theorem dX1_copyFrom_9 : decode cX1_copyFrom 9 = .ok (.getfield 9, 3) := by decide +kernel
theorem dX1_copyFrom_12 : decode cX1_copyFrom 12 = .ok (.aload_n 0, 1) := by decide +kernel
theorem dX1_copyFrom_13 : decode cX1_copyFrom 13 = .ok (.getfield 9, 3) := by decide +kernel
theorem dX1_copyFrom_16 : decode cX1_copyFrom 16 = .ok (.invokestatic 57, 3) := by decide +kernel
theorem dX1_copyFrom_19 : decode cX1_copyFrom 19 = .ok (.aload_n 1, 1) := by decide +kernel
theorem dX1_copyFrom_20 : decode cX1_copyFrom 20 = .ok (.getfield 15, 3) := by decide +kernel
theorem dX1_copyFrom_23 : decode cX1_copyFrom 23 = .ok (.aload_n 0, 1) := by decide +kernel
theorem dX1_copyFrom_24 : decode cX1_copyFrom 24 = .ok (.getfield 15, 3) := by decide +kernel
theorem dX1_copyFrom_27 : decode cX1_copyFrom 27 = .ok (.invokestatic 57, 3) := by decide +kernel
theorem dX1_copyFrom_30 : decode cX1_copyFrom 30 = .ok (.aload_n 1, 1) := by decide +kernel
theorem dX1_copyFrom_31 : decode cX1_copyFrom 31 = .ok (.getfield 18, 3) := by decide +kernel
theorem dX1_copyFrom_34 : decode cX1_copyFrom 34 = .ok (.aload_n 0, 1) := by decide +kernel
theorem dX1_copyFrom_35 : decode cX1_copyFrom 35 = .ok (.getfield 18, 3) := by decide +kernel
theorem dX1_copyFrom_38 : decode cX1_copyFrom 38 = .ok (.invokestatic 57, 3) := by decide +kernel
theorem dX1_copyFrom_41 : decode cX1_copyFrom 41 = .ok (.aload_n 1, 1) := by decide +kernel
theorem dX1_copyFrom_42 : decode cX1_copyFrom 42 = .ok (.getfield 21, 3) := by decide +kernel
theorem dX1_copyFrom_45 : decode cX1_copyFrom 45 = .ok (.aload_n 0, 1) := by decide +kernel
theorem dX1_copyFrom_46 : decode cX1_copyFrom 46 = .ok (.getfield 21, 3) := by decide +kernel
theorem dX1_copyFrom_49 : decode cX1_copyFrom 49 = .ok (.invokestatic 57, 3) := by decide +kernel
theorem dX1_copyFrom_52 : decode cX1_copyFrom 52 = .ok (.aload_n 1, 1) := by decide +kernel
theorem dX1_copyFrom_53 : decode cX1_copyFrom 53 = .ok (.getfield 24, 3) := by decide +kernel
theorem dX1_copyFrom_56 : decode cX1_copyFrom 56 = .ok (.aload_n 0, 1) := by decide +kernel
theorem dX1_copyFrom_57 : decode cX1_copyFrom 57 = .ok (.getfield 24, 3) := by decide +kernel
theorem dX1_copyFrom_60 : decode cX1_copyFrom 60 = .ok (.invokestatic 57, 3) := by decide +kernel
theorem dX1_copyFrom_63 : decode cX1_copyFrom 63 = .ok (.aload_n 0, 1) := by decide +kernel
theorem dX1_copyFrom_64 : decode cX1_copyFrom 64 = .ok (.aload_n 1, 1) := by decide +kernel
theorem dX1_copyFrom_65 : decode cX1_copyFrom 65 = .ok (.getfield 27, 3) := by decide +kernel
theorem dX1_copyFrom_68 : decode cX1_copyFrom 68 = .ok (.putfield 27, 3) := by decide +kernel
theorem dX1_copyFrom_71 : decode cX1_copyFrom 71 = .ok (.aload_n 1, 1) := by decide +kernel
theorem dX1_copyFrom_72 : decode cX1_copyFrom 72 = .ok (.getfield 31, 3) := by decide +kernel
theorem dX1_copyFrom_75 : decode cX1_copyFrom 75 = .ok (.aload_n 0, 1) := by decide +kernel
theorem dX1_copyFrom_76 : decode cX1_copyFrom 76 = .ok (.getfield 31, 3) := by decide +kernel
theorem dX1_copyFrom_79 : decode cX1_copyFrom 79 = .ok (.invokestatic 57, 3) := by decide +kernel
theorem dX1_copyFrom_82 : decode cX1_copyFrom 82 = .ok (.aload_n 1, 1) := by decide +kernel
theorem dX1_copyFrom_83 : decode cX1_copyFrom 83 = .ok (.getfield 34, 3) := by decide +kernel
theorem dX1_copyFrom_86 : decode cX1_copyFrom 86 = .ok (.aload_n 0, 1) := by decide +kernel
theorem dX1_copyFrom_87 : decode cX1_copyFrom 87 = .ok (.getfield 34, 3) := by decide +kernel
theorem dX1_copyFrom_90 : decode cX1_copyFrom 90 = .ok (.invokestatic 57, 3) := by decide +kernel
theorem dX1_copyFrom_93 : decode cX1_copyFrom 93 = .ok (.aload_n 0, 1) := by decide +kernel
theorem dX1_copyFrom_94 : decode cX1_copyFrom 94 = .ok (.dup, 1) := by decide +kernel
theorem dX1_copyFrom_95 : decode cX1_copyFrom 95 = .ok (.getfield 46, 3) := by decide +kernel
theorem dX1_copyFrom_98 : decode cX1_copyFrom 98 = .ok (.iconst 1, 1) := by decide +kernel
theorem dX1_copyFrom_99 : decode cX1_copyFrom 99 = .ok (.iadd, 1) := by decide +kernel
theorem dX1_copyFrom_100 : decode cX1_copyFrom 100 = .ok (.putfield 46, 3) := by decide +kernel
theorem dX1_copyFrom_103 : decode cX1_copyFrom 103 = .ok (.return_, 1) := by decide +kernel
theorem dX1_copyRow_0 : decode cX1_copyRow 0 = .ok (.aload_n 0, 1) := by decide +kernel
theorem dX1_copyRow_1 : decode cX1_copyRow 1 = .ok (.iconst 0, 1) := by decide +kernel
theorem dX1_copyRow_2 : decode cX1_copyRow 2 = .ok (.aload_n 1, 1) := by decide +kernel
theorem dX1_copyRow_3 : decode cX1_copyRow 3 = .ok (.iconst 0, 1) := by decide +kernel
theorem dX1_copyRow_4 : decode cX1_copyRow 4 = .ok (.aload_n 1, 1) := by decide +kernel
theorem dX1_copyRow_5 : decode cX1_copyRow 5 = .ok (.arraylength, 1) := by decide +kernel
theorem dX1_copyRow_6 : decode cX1_copyRow 6 = .ok (.invokestatic 61, 3) := by decide +kernel
theorem dX1_copyRow_9 : decode cX1_copyRow 9 = .ok (.return_, 1) := by decide +kernel
theorem dX2_init_0 : decode cX2_init 0 = .ok (.aload_n 0, 1) := by decide +kernel
theorem dX2_init_1 : decode cX2_init 1 = .ok (.invokespecial 3, 3) := by decide +kernel
theorem dX2_init_4 : decode cX2_init 4 = .ok (.aload_n 0, 1) := by decide +kernel
theorem dX2_init_5 : decode cX2_init 5 = .ok (.bipush 24, 2) := by decide +kernel
theorem dX2_init_7 : decode cX2_init 7 = .ok (.newarray .int, 2) := by decide +kernel
theorem dX2_init_9 : decode cX2_init 9 = .ok (.putfield 9, 3) := by decide +kernel
theorem dX2_init_12 : decode cX2_init 12 = .ok (.aload_n 0, 1) := by decide +kernel
theorem dX2_init_13 : decode cX2_init 13 = .ok (.bipush 24, 2) := by decide +kernel
theorem dX2_init_15 : decode cX2_init 15 = .ok (.newarray .int, 2) := by decide +kernel
theorem dX2_init_17 : decode cX2_init 17 = .ok (.putfield 15, 3) := by decide +kernel
theorem dX2_init_20 : decode cX2_init 20 = .ok (.aload_n 0, 1) := by decide +kernel
theorem dX2_init_21 : decode cX2_init 21 = .ok (.bipush 10, 2) := by decide +kernel
theorem dX2_init_23 : decode cX2_init 23 = .ok (.newarray .int, 2) := by decide +kernel
theorem dX2_init_25 : decode cX2_init 25 = .ok (.putfield 18, 3) := by decide +kernel
theorem dX2_init_28 : decode cX2_init 28 = .ok (.aload_n 0, 1) := by decide +kernel
theorem dX2_init_29 : decode cX2_init 29 = .ok (.iconst 4, 1) := by decide +kernel
theorem dX2_init_30 : decode cX2_init 30 = .ok (.bipush 24, 2) := by decide +kernel
theorem dX2_init_32 : decode cX2_init 32 = .ok (.multianewarray 21 2, 4) := by decide +kernel
theorem dX2_init_36 : decode cX2_init 36 = .ok (.putfield 23, 3) := by decide +kernel
theorem dX2_init_39 : decode cX2_init 39 = .ok (.aload_n 0, 1) := by decide +kernel
theorem dX2_init_40 : decode cX2_init 40 = .ok (.iconst 4, 1) := by decide +kernel
theorem dX2_init_41 : decode cX2_init 41 = .ok (.newarray .int, 2) := by decide +kernel
theorem dX2_init_43 : decode cX2_init 43 = .ok (.putfield 26, 3) := by decide +kernel
theorem dX2_init_46 : decode cX2_init 46 = .ok (.aload_n 0, 1) := by decide +kernel
theorem dX2_init_47 : decode cX2_init 47 = .ok (.iconst 4, 1) := by decide +kernel
theorem dX2_init_48 : decode cX2_init 48 = .ok (.newarray .int, 2) := by decide +kernel
theorem dX2_init_50 : decode cX2_init 50 = .ok (.putfield 29, 3) := by decide +kernel
theorem dX2_init_53 : decode cX2_init 53 = .ok (.return_, 1) := by decide +kernel
set_option maxRecDepth 20000 in
theorem ggX2_perform_X2_countSpilledUpTo : GoodIn wsX2_perform wsX2_countSpilledUpTo := goodIn_r _ [5, 6, 7, 8, 9, 4, 10, 11, 12, 13, 14, 15, 16, 17, 18, 19, 20, 21, 22, 23, 24, 25, 26, 27, 28, 29, 30, 31, 32, 33, 34, 35, 36, 37, 38, 39, 40, 41, 42, 43, 44, 45, 46, 47, 48, 49, 50, 51, 52, 53, 54, 55, 56] (by decide +kernel) (by decide +kernel)
set_option maxRecDepth 20000 in
theorem gX2_perform_X2_countSpilledUpTo : GoodIn wsX2_perform (wsV RX2 32 RX2 yX2_countSpilledUpTo wsX2_countSpilledUpTo) := goodIn_app (goodIn_of _ (by decide +kernel)) ggX2_perform_X2_countSpilledUpTo
theorem dX2_perform_0 : decode cX2_perform 0 = .ok (.aload_n 0, 1) := by decide +kernel
theorem dX2_perform_1 : decode cX2_perform 1 = .ok (.aload_n 1, 1) := by decide +kernel
theorem dX2_perform_2 : decode cX2_perform 2 = .ok (.aload_n 2, 1) := by decide +kernel
theorem dX2_perform_3 : decode cX2_perform 3 = .ok (.iload_n 3, 1) := by decide +kernel
theorem dX2_perform_4 : decode cX2_perform 4 = .ok (.bipush 24, 2) := by decide +kernel
theorem dX2_perform_6 : decode cX2_perform 6 = .ok (.invokevirtual 32, 3) := by decide +kernel
theorem dX2_perform_9 : decode cX2_perform 9 = .ok (.pop, 1) := by decide +kernel
theorem dX2_perform_10 : decode cX2_perform 10 = .ok (.return_, 1) := by decide +kernel
set_option maxRecDepth 20000 in
theorem ggX2_countSpilledUpTo_X2_begin : GoodIn wsX2_countSpilledUpTo wsX2_begin := goodIn_r _ [6, 1, 7, 8, 46, 47, 48, 49, 50, 51, 52, 36, 37, 38, 39, 40, 41, 42, 43, 44, 45] (by decide +kernel) (by decide +kernel)
set_option maxRecDepth 20000 in
theorem gX2_countSpilledUpTo_X2_begin : GoodIn wsX2_countSpilledUpTo (wsV RX2 36 RX2 yX2_begin wsX2_begin) := goodIn_app (goodIn_of _ (by decide +kernel)) ggX2_countSpilledUpTo_X2_begin
set_option maxRecDepth 20000 in
theorem ggX2_countSpilledUpTo_X2_aim : GoodIn wsX2_countSpilledUpTo wsX2_aim := goodIn_r _ [12, 13, 14, 15, 16, 46, 47, 48, 49, 50, 51, 52] (by decide +kernel) (by decide +kernel)
set_option maxRecDepth 20000 in
theorem gX2_countSpilledUpTo_X2_aim : GoodIn wsX2_countSpilledUpTo (wsV RX2 52 RX2 yX2_aim wsX2_aim) := goodIn_app (goodIn_of _ (by decide +kernel)) ggX2_countSpilledUpTo_X2_aim
set_option maxRecDepth 20000 in
theorem ggX2_countSpilledUpTo_X2_stack : GoodIn wsX2_countSpilledUpTo wsX2_stack := goodIn_r _ [20, 21, 22, 1, 8, 13, 7, 23, 24, 25, 26, 27, 46, 47, 48, 49, 50, 51, 52, 36, 37, 38, 39, 40, 41, 42, 43, 44, 45] (by decide +kernel) (by decide +kernel)
set_option maxRecDepth 20000 in
theorem gX2_countSpilledUpTo_X2_stack : GoodIn wsX2_countSpilledUpTo (wsV RX2 56 RX2 yX2_stack wsX2_stack) := goodIn_app (goodIn_of _ (by decide +kernel)) ggX2_countSpilledUpTo_X2_stack
set_option maxRecDepth 20000 in
theorem ggX2_countSpilledUpTo_X2_sweep : GoodIn wsX2_countSpilledUpTo wsX2_sweep := goodIn_r _ [31, 1, 23, 8, 21, 32, 33, 34, 35, 46, 47, 48, 49, 50, 51, 52] (by decide +kernel) (by decide +kernel)
set_option maxRecDepth 20000 in
theorem gX2_countSpilledUpTo_X2_sweep : GoodIn wsX2_countSpilledUpTo (wsV RX2 60 RX2 yX2_sweep wsX2_sweep) := goodIn_app (goodIn_of _ (by decide +kernel)) ggX2_countSpilledUpTo_X2_sweep
theorem dX2_countSpilledUpTo_0 : decode cX2_countSpilledUpTo 0 = .ok (.aload_n 0, 1) := by decide +kernel
theorem dX2_countSpilledUpTo_1 : decode cX2_countSpilledUpTo 1 = .ok (.aload_n 1, 1) := by decide +kernel
theorem dX2_countSpilledUpTo_2 : decode cX2_countSpilledUpTo 2 = .ok (.invokevirtual 36, 3) := by decide +kernel
theorem dX2_countSpilledUpTo_5 : decode cX2_countSpilledUpTo 5 = .ok (.iconst 1, 1) := by decide +kernel
theorem dX2_countSpilledUpTo_6 : decode cX2_countSpilledUpTo 6 = .ok (.istore 5, 2) := by decide +kernel
theorem dX2_countSpilledUpTo_8 : decode cX2_countSpilledUpTo 8 = .ok (.iconst 1, 1) := by decide +kernel
theorem dX2_countSpilledUpTo_9 : decode cX2_countSpilledUpTo 9 = .ok (.istore 6, 2) := by decide +kernel
theorem dX2_countSpilledUpTo_11 : decode cX2_countSpilledUpTo 11 = .ok (.iload 6, 2) := by decide +kernel
theorem dX2_countSpilledUpTo_13 : decode cX2_countSpilledUpTo 13 = .ok (.iload_n 3, 1) := by decide +kernel
theorem dX2_countSpilledUpTo_14 : decode cX2_countSpilledUpTo 14 = .ok (.if_icmp .gt 58, 3) := by decide +kernel
theorem dX2_countSpilledUpTo_17 : decode cX2_countSpilledUpTo 17 = .ok (.aload_n 1, 1) := by decide +kernel
theorem dX2_countSpilledUpTo_18 : decode cX2_countSpilledUpTo 18 = .ok (.getfield 40, 3) := by decide +kernel
theorem dX2_countSpilledUpTo_21 : decode cX2_countSpilledUpTo 21 = .ok (.aload_n 0, 1) := by decide +kernel
theorem dX2_countSpilledUpTo_22 : decode cX2_countSpilledUpTo 22 = .ok (.getfield 46, 3) := by decide +kernel
theorem dX2_countSpilledUpTo_25 : decode cX2_countSpilledUpTo 25 = .ok (.isub, 1) := by decide +kernel
theorem dX2_countSpilledUpTo_26 : decode cX2_countSpilledUpTo 26 = .ok (.iload 4, 2) := by decide +kernel
theorem dX2_countSpilledUpTo_28 : decode cX2_countSpilledUpTo 28 = .ok (.if_icmp .gt 44, 3) := by decide +kernel
theorem dX2_countSpilledUpTo_31 : decode cX2_countSpilledUpTo 31 = .ok (.aload_n 0, 1) := by decide +kernel
theorem dX2_countSpilledUpTo_32 : decode cX2_countSpilledUpTo 32 = .ok (.aload_n 2, 1) := by decide +kernel
theorem dX2_countSpilledUpTo_33 : decode cX2_countSpilledUpTo 33 = .ok (.iload 5, 2) := by decide +kernel
theorem dX2_countSpilledUpTo_35 : decode cX2_countSpilledUpTo 35 = .ok (.aload_n 1, 1) := by decide +kernel
theorem dX2_countSpilledUpTo_36 : decode cX2_countSpilledUpTo 36 = .ok (.getfield 49, 3) := by decide +kernel
theorem dX2_countSpilledUpTo_39 : decode cX2_countSpilledUpTo 39 = .ok (.invokevirtual 52, 3) := by decide +kernel
theorem dX2_countSpilledUpTo_42 : decode cX2_countSpilledUpTo 42 = .ok (.aload_n 0, 1) := by decide +kernel
theorem dX2_countSpilledUpTo_43 : decode cX2_countSpilledUpTo 43 = .ok (.aload_n 1, 1) := by decide +kernel
theorem dX2_countSpilledUpTo_44 : decode cX2_countSpilledUpTo 44 = .ok (.iload 6, 2) := by decide +kernel
theorem dX2_countSpilledUpTo_46 : decode cX2_countSpilledUpTo 46 = .ok (.invokevirtual 56, 3) := by decide +kernel
theorem dX2_countSpilledUpTo_49 : decode cX2_countSpilledUpTo 49 = .ok (.aload_n 0, 1) := by decide +kernel
theorem dX2_countSpilledUpTo_50 : decode cX2_countSpilledUpTo 50 = .ok (.aload_n 1, 1) := by decide +kernel
theorem dX2_countSpilledUpTo_51 : decode cX2_countSpilledUpTo 51 = .ok (.getfield 49, 3) := by decide +kernel
theorem dX2_countSpilledUpTo_54 : decode cX2_countSpilledUpTo 54 = .ok (.invokevirtual 60, 3) := by decide +kernel
theorem dX2_countSpilledUpTo_57 : decode cX2_countSpilledUpTo 57 = .ok (.iload 5, 2) := by decide +kernel
theorem dX2_countSpilledUpTo_59 : decode cX2_countSpilledUpTo 59 = .ok (.aload_n 1, 1) := by decide +kernel
theorem dX2_countSpilledUpTo_60 : decode cX2_countSpilledUpTo 60 = .ok (.getfield 49, 3) := by decide +kernel
theorem dX2_countSpilledUpTo_63 : decode cX2_countSpilledUpTo 63 = .ok (.imul, 1) := by decide +kernel
theorem dX2_countSpilledUpTo_64 : decode cX2_countSpilledUpTo 64 = .ok (.istore 5, 2) := by decide +kernel
theorem dX2_countSpilledUpTo_66 : decode cX2_countSpilledUpTo 66 = .ok (.iinc 6 1, 3) := by decide +kernel
theorem dX2_countSpilledUpTo_69 : decode cX2_countSpilledUpTo 69 = .ok (.goto (-58), 3) := by decide +kernel
theorem dX2_countSpilledUpTo_72 : decode cX2_countSpilledUpTo 72 = .ok (.aload_n 1, 1) := by decide +kernel
theorem dX2_countSpilledUpTo_73 : decode cX2_countSpilledUpTo 73 = .ok (.getfield 40, 3) := by decide +kernel
theorem dX2_countSpilledUpTo_76 : decode cX2_countSpilledUpTo 76 = .ok (.aload_n 0, 1) := by decide +kernel
theorem dX2_countSpilledUpTo_77 : decode cX2_countSpilledUpTo 77 = .ok (.getfield 46, 3) := by decide +kernel
theorem dX2_countSpilledUpTo_80 : decode cX2_countSpilledUpTo 80 = .ok (.isub, 1) := by decide +kernel
theorem dX2_countSpilledUpTo_81 : decode cX2_countSpilledUpTo 81 = .ok (.ireturn, 1) := by decide +kernel
theorem dX2_begin_0 : decode cX2_begin 0 = .ok (.aload_n 0, 1) := by decide +kernel
theorem dX2_begin_1 : decode cX2_begin 1 = .ok (.iconst 0, 1) := by decide +kernel
theorem dX2_begin_2 : decode cX2_begin 2 = .ok (.putfield 46, 3) := by decide +kernel
theorem dX2_begin_5 : decode cX2_begin 5 = .ok (.iconst 0, 1) := by decide +kernel
theorem dX2_begin_6 : decode cX2_begin 6 = .ok (.istore_n 2, 1) := by decide +kernel
theorem dX2_begin_7 : decode cX2_begin 7 = .ok (.iload_n 2, 1) := by decide +kernel
theorem dX2_begin_8 : decode cX2_begin 8 = .ok (.aload_n 1, 1) := by decide +kernel
theorem dX2_begin_9 : decode cX2_begin 9 = .ok (.getfield 40, 3) := by decide +kernel
theorem dX2_begin_12 : decode cX2_begin 12 = .ok (.if_icmp .ge 50, 3) := by decide +kernel
theorem dX2_begin_15 : decode cX2_begin 15 = .ok (.aload_n 0, 1) := by decide +kernel
theorem dX2_begin_16 : decode cX2_begin 16 = .ok (.getfield 15, 3) := by decide +kernel
theorem dX2_begin_19 : decode cX2_begin 19 = .ok (.iload_n 2, 1) := by decide +kernel
theorem dX2_begin_20 : decode cX2_begin 20 = .ok (.aload_n 1, 1) := by decide +kernel
theorem dX2_begin_21 : decode cX2_begin 21 = .ok (.getfield 64, 3) := by decide +kernel
theorem dX2_begin_24 : decode cX2_begin 24 = .ok (.iload_n 2, 1) := by decide +kernel
theorem dX2_begin_25 : decode cX2_begin 25 = .ok (.iaload, 1) := by decide +kernel
theorem dX2_begin_26 : decode cX2_begin 26 = .ok (.iastore, 1) := by decide +kernel
theorem dX2_begin_27 : decode cX2_begin 27 = .ok (.aload_n 1, 1) := by decide +kernel
theorem dX2_begin_28 : decode cX2_begin 28 = .ok (.getfield 64, 3) := by decide +kernel
theorem dX2_begin_31 : decode cX2_begin 31 = .ok (.iload_n 2, 1) := by decide +kernel
theorem dX2_begin_32 : decode cX2_begin 32 = .ok (.iaload, 1) := by decide +kernel
theorem dX2_begin_33 : decode cX2_begin 33 = .ok (.ifCond .ne 23, 3) := by decide +kernel
theorem dX2_begin_36 : decode cX2_begin 36 = .ok (.aload_n 0, 1) := by decide +kernel
theorem dX2_begin_37 : decode cX2_begin 37 = .ok (.getfield 9, 3) := by decide +kernel
theorem dX2_begin_40 : decode cX2_begin 40 = .ok (.aload_n 0, 1) := by decide +kernel
theorem dX2_begin_41 : decode cX2_begin 41 = .ok (.getfield 46, 3) := by decide +kernel
theorem dX2_begin_44 : decode cX2_begin 44 = .ok (.iload_n 2, 1) := by decide +kernel
theorem dX2_begin_45 : decode cX2_begin 45 = .ok (.iastore, 1) := by decide +kernel
theorem dX2_begin_46 : decode cX2_begin 46 = .ok (.aload_n 0, 1) := by decide +kernel
theorem dX2_begin_47 : decode cX2_begin 47 = .ok (.dup, 1) := by decide +kernel
theorem dX2_begin_48 : decode cX2_begin 48 = .ok (.getfield 46, 3) := by decide +kernel
theorem dX2_begin_51 : decode cX2_begin 51 = .ok (.iconst 1, 1) := by decide +kernel
theorem dX2_begin_52 : decode cX2_begin 52 = .ok (.iadd, 1) := by decide +kernel
theorem dX2_begin_53 : decode cX2_begin 53 = .ok (.putfield 46, 3) := by decide +kernel
theorem dX2_begin_56 : decode cX2_begin 56 = .ok (.iinc 2 1, 3) := by decide +kernel
theorem dX2_begin_59 : decode cX2_begin 59 = .ok (.goto (-52), 3) := by decide +kernel
theorem dX2_begin_62 : decode cX2_begin 62 = .ok (.return_, 1) := by decide +kernel
set_option maxRecDepth 20000 in
theorem ggX2_aim_X5_figure : GoodIn wsX2_aim wsX5_figure := goodIn_r _ [4] (by decide +kernel) (by decide +kernel)
set_option maxRecDepth 20000 in
theorem gX2_aim_X5_figure_n67 : GoodIn wsX2_aim (wsX5_figure) := ggX2_aim_X5_figure
theorem dX2_aim_0 : decode cX2_aim 0 = .ok (.iconst 0, 1) := by decide +kernel
theorem dX2_aim_1 : decode cX2_aim 1 = .ok (.istore 4, 2) := by decide +kernel
theorem dX2_aim_3 : decode cX2_aim 3 = .ok (.iload 4, 2) := by decide +kernel
theorem dX2_aim_5 : decode cX2_aim 5 = .ok (.bipush 10, 2) := by decide +kernel
theorem dX2_aim_7 : decode cX2_aim 7 = .ok (.if_icmp .ge 25, 3) := by decide +kernel
theorem dX2_aim_10 : decode cX2_aim 10 = .ok (.aload_n 0, 1) := by decide +kernel
theorem dX2_aim_11 : decode cX2_aim 11 = .ok (.getfield 18, 3) := by decide +kernel
theorem dX2_aim_14 : decode cX2_aim 14 = .ok (.iload 4, 2) := by decide +kernel
theorem dX2_aim_16 : decode cX2_aim 16 = .ok (.aload_n 1, 1) := by decide +kernel
theorem dX2_aim_17 : decode cX2_aim 17 = .ok (.iload 4, 2) := by decide +kernel
theorem dX2_aim_19 : decode cX2_aim 19 = .ok (.iaload, 1) := by decide +kernel
theorem dX2_aim_20 : decode cX2_aim 20 = .ok (.iload_n 2, 1) := by decide +kernel
theorem dX2_aim_21 : decode cX2_aim 21 = .ok (.iload_n 3, 1) := by decide +kernel
theorem dX2_aim_22 : decode cX2_aim 22 = .ok (.invokestatic 67, 3) := by decide +kernel
theorem dX2_aim_25 : decode cX2_aim 25 = .ok (.iastore, 1) := by decide +kernel
theorem dX2_aim_26 : decode cX2_aim 26 = .ok (.iinc 4 1, 3) := by decide +kernel
theorem dX2_aim_29 : decode cX2_aim 29 = .ok (.goto (-26), 3) := by decide +kernel
theorem dX2_aim_32 : decode cX2_aim 32 = .ok (.return_, 1) := by decide +kernel
set_option maxRecDepth 20000 in
theorem ggX2_stack_J7_fill_53178 : GoodIn wsX2_stack wsJ7_fill_53178 := goodIn_r _ [11] (by decide +kernel) (by decide +kernel)
set_option maxRecDepth 20000 in
theorem gX2_stack_J7_fill_53178 : GoodIn wsX2_stack (va_wsS RX2 71 yJ7_fill_53178 wsJ7_fill_53178) := goodIn_app (goodIn_of _ (by decide +kernel)) ggX2_stack_J7_fill_53178
theorem dX2_stack_0 : decode cX2_stack 0 = .ok (.aload_n 0, 1) := by decide +kernel
theorem dX2_stack_1 : decode cX2_stack 1 = .ok (.getfield 26, 3) := by decide +kernel
theorem dX2_stack_4 : decode cX2_stack 4 = .ok (.iconst 0, 1) := by decide +kernel
theorem dX2_stack_5 : decode cX2_stack 5 = .ok (.invokestatic 71, 3) := by decide +kernel
theorem dX2_stack_8 : decode cX2_stack 8 = .ok (.aload_n 0, 1) := by decide +kernel
theorem dX2_stack_9 : decode cX2_stack 9 = .ok (.getfield 29, 3) := by decide +kernel
theorem dX2_stack_12 : decode cX2_stack 12 = .ok (.iconst 0, 1) := by decide +kernel
theorem dX2_stack_13 : decode cX2_stack 13 = .ok (.invokestatic 71, 3) := by decide +kernel
theorem dX2_stack_16 : decode cX2_stack 16 = .ok (.iconst 0, 1) := by decide +kernel
theorem dX2_stack_17 : decode cX2_stack 17 = .ok (.istore_n 3, 1) := by decide +kernel
theorem dX2_stack_18 : decode cX2_stack 18 = .ok (.iload_n 3, 1) := by decide +kernel
theorem dX2_stack_19 : decode cX2_stack 19 = .ok (.aload_n 0, 1) := by decide +kernel
theorem dX2_stack_20 : decode cX2_stack 20 = .ok (.getfield 46, 3) := by decide +kernel
theorem dX2_stack_23 : decode cX2_stack 23 = .ok (.if_icmp .ge 108, 3) := by decide +kernel
theorem dX2_stack_26 : decode cX2_stack 26 = .ok (.aload_n 0, 1) := by decide +kernel
theorem dX2_stack_27 : decode cX2_stack 27 = .ok (.getfield 9, 3) := by decide +kernel
theorem dX2_stack_30 : decode cX2_stack 30 = .ok (.iload_n 3, 1) := by decide +kernel
theorem dX2_stack_31 : decode cX2_stack 31 = .ok (.iaload, 1) := by decide +kernel
theorem dX2_stack_32 : decode cX2_stack 32 = .ok (.istore 4, 2) := by decide +kernel
theorem dX2_stack_34 : decode cX2_stack 34 = .ok (.aload_n 0, 1) := by decide +kernel
theorem dX2_stack_35 : decode cX2_stack 35 = .ok (.getfield 18, 3) := by decide +kernel
theorem dX2_stack_38 : decode cX2_stack 38 = .ok (.aload_n 1, 1) := by decide +kernel
theorem dX2_stack_39 : decode cX2_stack 39 = .ok (.getfield 77, 3) := by decide +kernel
theorem dX2_stack_42 : decode cX2_stack 42 = .ok (.iload 4, 2) := by decide +kernel
theorem dX2_stack_44 : decode cX2_stack 44 = .ok (.iaload, 1) := by decide +kernel
theorem dX2_stack_45 : decode cX2_stack 45 = .ok (.iaload, 1) := by decide +kernel
theorem dX2_stack_46 : decode cX2_stack 46 = .ok (.istore 5, 2) := by decide +kernel
theorem dX2_stack_48 : decode cX2_stack 48 = .ok (.aload_n 0, 1) := by decide +kernel
theorem dX2_stack_49 : decode cX2_stack 49 = .ok (.getfield 29, 3) := by decide +kernel
theorem dX2_stack_52 : decode cX2_stack 52 = .ok (.iload 5, 2) := by decide +kernel
theorem dX2_stack_54 : decode cX2_stack 54 = .ok (.iaload, 1) := by decide +kernel
theorem dX2_stack_55 : decode cX2_stack 55 = .ok (.aload_n 1, 1) := by decide +kernel
theorem dX2_stack_56 : decode cX2_stack 56 = .ok (.getfield 80, 3) := by decide +kernel
theorem dX2_stack_59 : decode cX2_stack 59 = .ok (.iload 4, 2) := by decide +kernel
theorem dX2_stack_61 : decode cX2_stack 61 = .ok (.iaload, 1) := by decide +kernel
theorem dX2_stack_62 : decode cX2_stack 62 = .ok (.iadd, 1) := by decide +kernel
theorem dX2_stack_63 : decode cX2_stack 63 = .ok (.istore 6, 2) := by decide +kernel
theorem dX2_stack_65 : decode cX2_stack 65 = .ok (.iload 6, 2) := by decide +kernel
theorem dX2_stack_67 : decode cX2_stack 67 = .ok (.aload_n 1, 1) := by decide +kernel
theorem dX2_stack_68 : decode cX2_stack 68 = .ok (.getfield 83, 3) := by decide +kernel
theorem dX2_stack_71 : decode cX2_stack 71 = .ok (.iload 5, 2) := by decide +kernel
theorem dX2_stack_73 : decode cX2_stack 73 = .ok (.iaload, 1) := by decide +kernel
theorem dX2_stack_74 : decode cX2_stack 74 = .ok (.if_icmp .le 14, 3) := by decide +kernel
theorem dX2_stack_77 : decode cX2_stack 77 = .ok (.aload_n 0, 1) := by decide +kernel
theorem dX2_stack_78 : decode cX2_stack 78 = .ok (.getfield 15, 3) := by decide +kernel
theorem dX2_stack_81 : decode cX2_stack 81 = .ok (.iload 4, 2) := by decide +kernel
theorem dX2_stack_83 : decode cX2_stack 83 = .ok (.iload_n 2, 1) := by decide +kernel
theorem dX2_stack_84 : decode cX2_stack 84 = .ok (.iastore, 1) := by decide +kernel
theorem dX2_stack_85 : decode cX2_stack 85 = .ok (.goto 40, 3) := by decide +kernel
theorem dX2_stack_88 : decode cX2_stack 88 = .ok (.aload_n 0, 1) := by decide +kernel
theorem dX2_stack_89 : decode cX2_stack 89 = .ok (.getfield 29, 3) := by decide +kernel
theorem dX2_stack_92 : decode cX2_stack 92 = .ok (.iload 5, 2) := by decide +kernel
theorem dX2_stack_94 : decode cX2_stack 94 = .ok (.iload 6, 2) := by decide +kernel
theorem dX2_stack_96 : decode cX2_stack 96 = .ok (.iastore, 1) := by decide +kernel
theorem dX2_stack_97 : decode cX2_stack 97 = .ok (.aload_n 0, 1) := by decide +kernel
theorem dX2_stack_98 : decode cX2_stack 98 = .ok (.getfield 23, 3) := by decide +kernel
theorem dX2_stack_101 : decode cX2_stack 101 = .ok (.iload 5, 2) := by decide +kernel
theorem dX2_stack_103 : decode cX2_stack 103 = .ok (.aaload, 1) := by decide +kernel
theorem dX2_stack_104 : decode cX2_stack 104 = .ok (.aload_n 0, 1) := by decide +kernel
theorem dX2_stack_105 : decode cX2_stack 105 = .ok (.getfield 26, 3) := by decide +kernel
theorem dX2_stack_108 : decode cX2_stack 108 = .ok (.iload 5, 2) := by decide +kernel
theorem dX2_stack_110 : decode cX2_stack 110 = .ok (.iaload, 1) := by decide +kernel
theorem dX2_stack_111 : decode cX2_stack 111 = .ok (.iload 4, 2) := by decide +kernel
theorem dX2_stack_113 : decode cX2_stack 113 = .ok (.iastore, 1) := by decide +kernel
theorem dX2_stack_114 : decode cX2_stack 114 = .ok (.aload_n 0, 1) := by decide +kernel
theorem dX2_stack_115 : decode cX2_stack 115 = .ok (.getfield 26, 3) := by decide +kernel
theorem dX2_stack_118 : decode cX2_stack 118 = .ok (.iload 5, 2) := by decide +kernel
theorem dX2_stack_120 : decode cX2_stack 120 = .ok (.dup2, 1) := by decide +kernel
theorem dX2_stack_121 : decode cX2_stack 121 = .ok (.iaload, 1) := by decide +kernel
theorem dX2_stack_122 : decode cX2_stack 122 = .ok (.iconst 1, 1) := by decide +kernel
theorem dX2_stack_123 : decode cX2_stack 123 = .ok (.iadd, 1) := by decide +kernel
theorem dX2_stack_124 : decode cX2_stack 124 = .ok (.iastore, 1) := by decide +kernel
theorem dX2_stack_125 : decode cX2_stack 125 = .ok (.iinc 3 1, 3) := by decide +kernel
theorem dX2_stack_128 : decode cX2_stack 128 = .ok (.goto (-110), 3) := by decide +kernel
theorem dX2_stack_131 : decode cX2_stack 131 = .ok (.return_, 1) := by decide +kernel
theorem dX2_sweep_0 : decode cX2_sweep 0 = .ok (.aload_n 0, 1) := by decide +kernel
theorem dX2_sweep_1 : decode cX2_sweep 1 = .ok (.iconst 0, 1) := by decide +kernel
theorem dX2_sweep_2 : decode cX2_sweep 2 = .ok (.putfield 46, 3) := by decide +kernel
theorem dX2_sweep_5 : decode cX2_sweep 5 = .ok (.iconst 0, 1) := by decide +kernel
theorem dX2_sweep_6 : decode cX2_sweep 6 = .ok (.istore_n 2, 1) := by decide +kernel
theorem dX2_sweep_7 : decode cX2_sweep 7 = .ok (.iload_n 2, 1) := by decide +kernel
theorem dX2_sweep_8 : decode cX2_sweep 8 = .ok (.iload_n 1, 1) := by decide +kernel
theorem dX2_sweep_9 : decode cX2_sweep 9 = .ok (.if_icmp .ge 48, 3) := by decide +kernel
theorem dX2_sweep_12 : decode cX2_sweep 12 = .ok (.aload_n 0, 1) := by decide +kernel
theorem dX2_sweep_13 : decode cX2_sweep 13 = .ok (.getfield 23, 3) := by decide +kernel
theorem dX2_sweep_16 : decode cX2_sweep 16 = .ok (.iload_n 2, 1) := by decide +kernel
theorem dX2_sweep_17 : decode cX2_sweep 17 = .ok (.aaload, 1) := by decide +kernel
theorem dX2_sweep_18 : decode cX2_sweep 18 = .ok (.iconst 0, 1) := by decide +kernel
theorem dX2_sweep_19 : decode cX2_sweep 19 = .ok (.aload_n 0, 1) := by decide +kernel
theorem dX2_sweep_20 : decode cX2_sweep 20 = .ok (.getfield 9, 3) := by decide +kernel
theorem dX2_sweep_23 : decode cX2_sweep 23 = .ok (.aload_n 0, 1) := by decide +kernel
theorem dX2_sweep_24 : decode cX2_sweep 24 = .ok (.getfield 46, 3) := by decide +kernel
theorem dX2_sweep_27 : decode cX2_sweep 27 = .ok (.aload_n 0, 1) := by decide +kernel
theorem dX2_sweep_28 : decode cX2_sweep 28 = .ok (.getfield 26, 3) := by decide +kernel
theorem dX2_sweep_31 : decode cX2_sweep 31 = .ok (.iload_n 2, 1) := by decide +kernel
theorem dX2_sweep_32 : decode cX2_sweep 32 = .ok (.iaload, 1) := by decide +kernel
theorem dX2_sweep_33 : decode cX2_sweep 33 = .ok (.invokestatic 86, 3) := by decide +kernel
theorem dX2_sweep_36 : decode cX2_sweep 36 = .ok (.aload_n 0, 1) := by decide +kernel
theorem dX2_sweep_37 : decode cX2_sweep 37 = .ok (.dup, 1) := by decide +kernel
theorem dX2_sweep_38 : decode cX2_sweep 38 = .ok (.getfield 46, 3) := by decide +kernel
theorem dX2_sweep_41 : decode cX2_sweep 41 = .ok (.aload_n 0, 1) := by decide +kernel
theorem dX2_sweep_42 : decode cX2_sweep 42 = .ok (.getfield 26, 3) := by decide +kernel
theorem dX2_sweep_45 : decode cX2_sweep 45 = .ok (.iload_n 2, 1) := by decide +kernel
theorem dX2_sweep_46 : decode cX2_sweep 46 = .ok (.iaload, 1) := by decide +kernel
theorem dX2_sweep_47 : decode cX2_sweep 47 = .ok (.iadd, 1) := by decide +kernel
theorem dX2_sweep_48 : decode cX2_sweep 48 = .ok (.putfield 46, 3) := by decide +kernel
theorem dX2_sweep_51 : decode cX2_sweep 51 = .ok (.iinc 2 1, 3) := by decide +kernel
theorem dX2_sweep_54 : decode cX2_sweep 54 = .ok (.goto (-47), 3) := by decide +kernel
theorem dX2_sweep_57 : decode cX2_sweep 57 = .ok (.return_, 1) := by decide +kernel
theorem dX2_countSpilledAt_0 : decode cX2_countSpilledAt 0 = .ok (.iconst 0, 1) := by decide +kernel
theorem dX2_countSpilledAt_1 : decode cX2_countSpilledAt 1 = .ok (.istore_n 3, 1) := by decide +kernel
theorem dX2_countSpilledAt_2 : decode cX2_countSpilledAt 2 = .ok (.iconst 0, 1) := by decide +kernel
theorem dX2_countSpilledAt_3 : decode cX2_countSpilledAt 3 = .ok (.istore 4, 2) := by decide +kernel
theorem dX2_countSpilledAt_5 : decode cX2_countSpilledAt 5 = .ok (.iload 4, 2) := by decide +kernel
theorem dX2_countSpilledAt_7 : decode cX2_countSpilledAt 7 = .ok (.aload_n 1, 1) := by decide +kernel
theorem dX2_countSpilledAt_8 : decode cX2_countSpilledAt 8 = .ok (.getfield 40, 3) := by decide +kernel
theorem dX2_countSpilledAt_11 : decode cX2_countSpilledAt 11 = .ok (.if_icmp .ge 23, 3) := by decide +kernel
theorem dX2_countSpilledAt_14 : decode cX2_countSpilledAt 14 = .ok (.aload_n 0, 1) := by decide +kernel
theorem dX2_countSpilledAt_15 : decode cX2_countSpilledAt 15 = .ok (.getfield 15, 3) := by decide +kernel
theorem dX2_countSpilledAt_18 : decode cX2_countSpilledAt 18 = .ok (.iload 4, 2) := by decide +kernel
theorem dX2_countSpilledAt_20 : decode cX2_countSpilledAt 20 = .ok (.iaload, 1) := by decide +kernel
theorem dX2_countSpilledAt_21 : decode cX2_countSpilledAt 21 = .ok (.iload_n 2, 1) := by decide +kernel
theorem dX2_countSpilledAt_22 : decode cX2_countSpilledAt 22 = .ok (.if_icmp .ne 6, 3) := by decide +kernel
theorem dX2_countSpilledAt_25 : decode cX2_countSpilledAt 25 = .ok (.iinc 3 1, 3) := by decide +kernel
theorem dX2_countSpilledAt_28 : decode cX2_countSpilledAt 28 = .ok (.iinc 4 1, 3) := by decide +kernel
theorem dX2_countSpilledAt_31 : decode cX2_countSpilledAt 31 = .ok (.goto (-26), 3) := by decide +kernel
theorem dX2_countSpilledAt_34 : decode cX2_countSpilledAt 34 = .ok (.iload_n 3, 1) := by decide +kernel
theorem dX2_countSpilledAt_35 : decode cX2_countSpilledAt 35 = .ok (.ireturn, 1) := by decide +kernel
theorem dX2_countWrong_0 : decode cX2_countWrong 0 = .ok (.iconst 0, 1) := by decide +kernel
theorem dX2_countWrong_1 : decode cX2_countWrong 1 = .ok (.istore_n 2, 1) := by decide +kernel
theorem dX2_countWrong_2 : decode cX2_countWrong 2 = .ok (.iconst 1, 1) := by decide +kernel
theorem dX2_countWrong_3 : decode cX2_countWrong 3 = .ok (.istore_n 3, 1) := by decide +kernel
theorem dX2_countWrong_4 : decode cX2_countWrong 4 = .ok (.iload_n 3, 1) := by decide +kernel
theorem dX2_countWrong_5 : decode cX2_countWrong 5 = .ok (.aload_n 0, 1) := by decide +kernel
theorem dX2_countWrong_6 : decode cX2_countWrong 6 = .ok (.getfield 46, 3) := by decide +kernel
theorem dX2_countWrong_9 : decode cX2_countWrong 9 = .ok (.if_icmp .ge 67, 3) := by decide +kernel
theorem dX2_countWrong_12 : decode cX2_countWrong 12 = .ok (.aload_n 1, 1) := by decide +kernel
theorem dX2_countWrong_13 : decode cX2_countWrong 13 = .ok (.getfield 92, 3) := by decide +kernel
theorem dX2_countWrong_16 : decode cX2_countWrong 16 = .ok (.aload_n 1, 1) := by decide +kernel
theorem dX2_countWrong_17 : decode cX2_countWrong 17 = .ok (.getfield 77, 3) := by decide +kernel
theorem dX2_countWrong_20 : decode cX2_countWrong 20 = .ok (.aload_n 0, 1) := by decide +kernel
theorem dX2_countWrong_21 : decode cX2_countWrong 21 = .ok (.getfield 9, 3) := by decide +kernel
theorem dX2_countWrong_24 : decode cX2_countWrong 24 = .ok (.iload_n 3, 1) := by decide +kernel
theorem dX2_countWrong_25 : decode cX2_countWrong 25 = .ok (.iaload, 1) := by decide +kernel
theorem dX2_countWrong_26 : decode cX2_countWrong 26 = .ok (.iaload, 1) := by decide +kernel
theorem dX2_countWrong_27 : decode cX2_countWrong 27 = .ok (.iaload, 1) := by decide +kernel
theorem dX2_countWrong_28 : decode cX2_countWrong 28 = .ok (.istore 4, 2) := by decide +kernel
theorem dX2_countWrong_30 : decode cX2_countWrong 30 = .ok (.iconst 0, 1) := by decide +kernel
theorem dX2_countWrong_31 : decode cX2_countWrong 31 = .ok (.istore 5, 2) := by decide +kernel
theorem dX2_countWrong_33 : decode cX2_countWrong 33 = .ok (.iload 5, 2) := by decide +kernel
theorem dX2_countWrong_35 : decode cX2_countWrong 35 = .ok (.iload_n 3, 1) := by decide +kernel
theorem dX2_countWrong_36 : decode cX2_countWrong 36 = .ok (.if_icmp .ge 34, 3) := by decide +kernel
theorem dX2_countWrong_39 : decode cX2_countWrong 39 = .ok (.iload 4, 2) := by decide +kernel
theorem dX2_countWrong_41 : decode cX2_countWrong 41 = .ok (.aload_n 1, 1) := by decide +kernel
theorem dX2_countWrong_42 : decode cX2_countWrong 42 = .ok (.getfield 92, 3) := by decide +kernel
theorem dX2_countWrong_45 : decode cX2_countWrong 45 = .ok (.aload_n 1, 1) := by decide +kernel
theorem dX2_countWrong_46 : decode cX2_countWrong 46 = .ok (.getfield 77, 3) := by decide +kernel
theorem dX2_countWrong_49 : decode cX2_countWrong 49 = .ok (.aload_n 0, 1) := by decide +kernel
theorem dX2_countWrong_50 : decode cX2_countWrong 50 = .ok (.getfield 9, 3) := by decide +kernel
theorem dX2_countWrong_53 : decode cX2_countWrong 53 = .ok (.iload 5, 2) := by decide +kernel
theorem dX2_countWrong_55 : decode cX2_countWrong 55 = .ok (.iaload, 1) := by decide +kernel
theorem dX2_countWrong_56 : decode cX2_countWrong 56 = .ok (.iaload, 1) := by decide +kernel
theorem dX2_countWrong_57 : decode cX2_countWrong 57 = .ok (.iaload, 1) := by decide +kernel
theorem dX2_countWrong_58 : decode cX2_countWrong 58 = .ok (.if_icmp .ge 6, 3) := by decide +kernel
theorem dX2_countWrong_61 : decode cX2_countWrong 61 = .ok (.iinc 2 1, 3) := by decide +kernel
theorem dX2_countWrong_64 : decode cX2_countWrong 64 = .ok (.iinc 5 1, 3) := by decide +kernel
theorem dX2_countWrong_67 : decode cX2_countWrong 67 = .ok (.goto (-34), 3) := by decide +kernel
theorem dX2_countWrong_70 : decode cX2_countWrong 70 = .ok (.iinc 3 1, 3) := by decide +kernel
theorem dX2_countWrong_73 : decode cX2_countWrong 73 = .ok (.goto (-69), 3) := by decide +kernel
theorem dX2_countWrong_76 : decode cX2_countWrong 76 = .ok (.iload_n 2, 1) := by decide +kernel
theorem dX2_countWrong_77 : decode cX2_countWrong 77 = .ok (.ireturn, 1) := by decide +kernel
theorem dX3_init_0 : decode cX3_init 0 = .ok (.aload_n 0, 1) := by decide +kernel
theorem dX3_init_1 : decode cX3_init 1 = .ok (.invokespecial 3, 3) := by decide +kernel
theorem dX3_init_4 : decode cX3_init 4 = .ok (.aload_n 0, 1) := by decide +kernel
theorem dX3_init_5 : decode cX3_init 5 = .ok (.bipush 10, 2) := by decide +kernel
theorem dX3_init_7 : decode cX3_init 7 = .ok (.newarray .int, 2) := by decide +kernel
theorem dX3_init_9 : decode cX3_init 9 = .ok (.putfield 9, 3) := by decide +kernel
theorem dX3_init_12 : decode cX3_init 12 = .ok (.aload_n 0, 1) := by decide +kernel
theorem dX3_init_13 : decode cX3_init 13 = .ok (.bipush 10, 2) := by decide +kernel
theorem dX3_init_15 : decode cX3_init 15 = .ok (.newarray .int, 2) := by decide +kernel
theorem dX3_init_17 : decode cX3_init 17 = .ok (.putfield 15, 3) := by decide +kernel
theorem dX3_init_20 : decode cX3_init 20 = .ok (.return_, 1) := by decide +kernel
set_option maxRecDepth 20000 in
theorem ggX3_begin_X5_power : GoodIn wsX3_begin wsX5_power := goodIn_r _ [7] (by decide +kernel) (by decide +kernel)
set_option maxRecDepth 20000 in
theorem gX3_begin_X5_power_n24 : GoodIn wsX3_begin (wsX5_power) := ggX3_begin_X5_power
set_option maxRecDepth 20000 in
theorem ggX3_begin_X1_hasLetterAt : GoodIn wsX3_begin wsX1_hasLetterAt := goodIn_r _ [12, 13, 14, 15, 16, 17, 18, 19, 20, 21, 22, 23, 24] (by decide +kernel) (by decide +kernel)
set_option maxRecDepth 20000 in
theorem gX3_begin_X1_hasLetterAt : GoodIn wsX3_begin (wsV RX3 37 RX1 yX1_hasLetterAt wsX1_hasLetterAt) := goodIn_app (goodIn_of _ (by decide +kernel)) ggX3_begin_X1_hasLetterAt
theorem dX3_begin_0 : decode cX3_begin 0 = .ok (.aload_n 0, 1) := by decide +kernel
theorem dX3_begin_1 : decode cX3_begin 1 = .ok (.aload_n 1, 1) := by decide +kernel
theorem dX3_begin_2 : decode cX3_begin 2 = .ok (.getfield 18, 3) := by decide +kernel
theorem dX3_begin_5 : decode cX3_begin 5 = .ok (.iload_n 2, 1) := by decide +kernel
theorem dX3_begin_6 : decode cX3_begin 6 = .ok (.invokestatic 24, 3) := by decide +kernel
theorem dX3_begin_9 : decode cX3_begin 9 = .ok (.putfield 28, 3) := by decide +kernel
theorem dX3_begin_12 : decode cX3_begin 12 = .ok (.aload_n 0, 1) := by decide +kernel
theorem dX3_begin_13 : decode cX3_begin 13 = .ok (.iconst 0, 1) := by decide +kernel
theorem dX3_begin_14 : decode cX3_begin 14 = .ok (.putfield 31, 3) := by decide +kernel
theorem dX3_begin_17 : decode cX3_begin 17 = .ok (.iconst 0, 1) := by decide +kernel
theorem dX3_begin_18 : decode cX3_begin 18 = .ok (.istore_n 3, 1) := by decide +kernel
theorem dX3_begin_19 : decode cX3_begin 19 = .ok (.iload_n 3, 1) := by decide +kernel
theorem dX3_begin_20 : decode cX3_begin 20 = .ok (.bipush 10, 2) := by decide +kernel
theorem dX3_begin_22 : decode cX3_begin 22 = .ok (.if_icmp .ge 58, 3) := by decide +kernel
theorem dX3_begin_25 : decode cX3_begin 25 = .ok (.aload_n 1, 1) := by decide +kernel
theorem dX3_begin_26 : decode cX3_begin 26 = .ok (.getfield 34, 3) := by decide +kernel
theorem dX3_begin_29 : decode cX3_begin 29 = .ok (.iload_n 3, 1) := by decide +kernel
theorem dX3_begin_30 : decode cX3_begin 30 = .ok (.iaload, 1) := by decide +kernel
theorem dX3_begin_31 : decode cX3_begin 31 = .ok (.istore 4, 2) := by decide +kernel
theorem dX3_begin_33 : decode cX3_begin 33 = .ok (.aload_n 1, 1) := by decide +kernel
theorem dX3_begin_34 : decode cX3_begin 34 = .ok (.iload 4, 2) := by decide +kernel
theorem dX3_begin_36 : decode cX3_begin 36 = .ok (.invokevirtual 37, 3) := by decide +kernel
theorem dX3_begin_39 : decode cX3_begin 39 = .ok (.ifCond .eq 35, 3) := by decide +kernel
theorem dX3_begin_42 : decode cX3_begin 42 = .ok (.aload_n 0, 1) := by decide +kernel
theorem dX3_begin_43 : decode cX3_begin 43 = .ok (.getfield 9, 3) := by decide +kernel
theorem dX3_begin_46 : decode cX3_begin 46 = .ok (.aload_n 0, 1) := by decide +kernel
theorem dX3_begin_47 : decode cX3_begin 47 = .ok (.getfield 31, 3) := by decide +kernel
theorem dX3_begin_50 : decode cX3_begin 50 = .ok (.iload 4, 2) := by decide +kernel
theorem dX3_begin_52 : decode cX3_begin 52 = .ok (.iastore, 1) := by decide +kernel
theorem dX3_begin_53 : decode cX3_begin 53 = .ok (.aload_n 0, 1) := by decide +kernel
theorem dX3_begin_54 : decode cX3_begin 54 = .ok (.getfield 15, 3) := by decide +kernel
theorem dX3_begin_57 : decode cX3_begin 57 = .ok (.iload 4, 2) := by decide +kernel
theorem dX3_begin_59 : decode cX3_begin 59 = .ok (.aload_n 0, 1) := by decide +kernel
theorem dX3_begin_60 : decode cX3_begin 60 = .ok (.getfield 31, 3) := by decide +kernel
theorem dX3_begin_63 : decode cX3_begin 63 = .ok (.iastore, 1) := by decide +kernel
theorem dX3_begin_64 : decode cX3_begin 64 = .ok (.aload_n 0, 1) := by decide +kernel
theorem dX3_begin_65 : decode cX3_begin 65 = .ok (.dup, 1) := by decide +kernel
theorem dX3_begin_66 : decode cX3_begin 66 = .ok (.getfield 31, 3) := by decide +kernel
theorem dX3_begin_69 : decode cX3_begin 69 = .ok (.iconst 1, 1) := by decide +kernel
theorem dX3_begin_70 : decode cX3_begin 70 = .ok (.iadd, 1) := by decide +kernel
theorem dX3_begin_71 : decode cX3_begin 71 = .ok (.putfield 31, 3) := by decide +kernel
theorem dX3_begin_74 : decode cX3_begin 74 = .ok (.iinc 3 1, 3) := by decide +kernel
theorem dX3_begin_77 : decode cX3_begin 77 = .ok (.goto (-58), 3) := by decide +kernel
theorem dX3_begin_80 : decode cX3_begin 80 = .ok (.aload_n 0, 1) := by decide +kernel
theorem dX3_begin_81 : decode cX3_begin 81 = .ok (.getfield 31, 3) := by decide +kernel
theorem dX3_begin_84 : decode cX3_begin 84 = .ok (.aload_n 0, 1) := by decide +kernel
theorem dX3_begin_85 : decode cX3_begin 85 = .ok (.getfield 28, 3) := by decide +kernel
theorem dX3_begin_88 : decode cX3_begin 88 = .ok (.if_icmp .gt 7, 3) := by decide +kernel
theorem dX3_begin_91 : decode cX3_begin 91 = .ok (.iconst 1, 1) := by decide +kernel
theorem dX3_begin_92 : decode cX3_begin 92 = .ok (.goto 4, 3) := by decide +kernel
theorem dX3_begin_95 : decode cX3_begin 95 = .ok (.iconst 0, 1) := by decide +kernel
theorem dX3_begin_96 : decode cX3_begin 96 = .ok (.ireturn, 1) := by decide +kernel
set_option maxRecDepth 20000 in
theorem ggX3_advance_X3_raise : GoodIn wsX3_advance wsX3_raise := goodIn_r _ [13, 6, 7, 1, 14, 15, 16, 17] (by decide +kernel) (by decide +kernel)
set_option maxRecDepth 20000 in
theorem gX3_advance_X3_raise : GoodIn wsX3_advance (wsV RX3 46 RX3 yX3_raise wsX3_raise) := goodIn_app (goodIn_of _ (by decide +kernel)) ggX3_advance_X3_raise
theorem dX3_advance_0 : decode cX3_advance 0 = .ok (.iload_n 1, 1) := by decide +kernel
theorem dX3_advance_1 : decode cX3_advance 1 = .ok (.aload_n 0, 1) := by decide +kernel
theorem dX3_advance_2 : decode cX3_advance 2 = .ok (.getfield 31, 3) := by decide +kernel
theorem dX3_advance_5 : decode cX3_advance 5 = .ok (.invokestatic 41, 3) := by decide +kernel
theorem dX3_advance_8 : decode cX3_advance 8 = .ok (.iconst 1, 1) := by decide +kernel
theorem dX3_advance_9 : decode cX3_advance 9 = .ok (.isub, 1) := by decide +kernel
theorem dX3_advance_10 : decode cX3_advance 10 = .ok (.istore_n 2, 1) := by decide +kernel
theorem dX3_advance_11 : decode cX3_advance 11 = .ok (.iload_n 2, 1) := by decide +kernel
theorem dX3_advance_12 : decode cX3_advance 12 = .ok (.ifCond .lt 43, 3) := by decide +kernel
theorem dX3_advance_15 : decode cX3_advance 15 = .ok (.aload_n 0, 1) := by decide +kernel
theorem dX3_advance_16 : decode cX3_advance 16 = .ok (.getfield 31, 3) := by decide +kernel
theorem dX3_advance_19 : decode cX3_advance 19 = .ok (.iload_n 2, 1) := by decide +kernel
theorem dX3_advance_20 : decode cX3_advance 20 = .ok (.isub, 1) := by decide +kernel
theorem dX3_advance_21 : decode cX3_advance 21 = .ok (.istore_n 3, 1) := by decide +kernel
theorem dX3_advance_22 : decode cX3_advance 22 = .ok (.aload_n 0, 1) := by decide +kernel
theorem dX3_advance_23 : decode cX3_advance 23 = .ok (.getfield 15, 3) := by decide +kernel
theorem dX3_advance_26 : decode cX3_advance 26 = .ok (.aload_n 0, 1) := by decide +kernel
theorem dX3_advance_27 : decode cX3_advance 27 = .ok (.getfield 9, 3) := by decide +kernel
theorem dX3_advance_30 : decode cX3_advance 30 = .ok (.iload_n 2, 1) := by decide +kernel
theorem dX3_advance_31 : decode cX3_advance 31 = .ok (.iaload, 1) := by decide +kernel
theorem dX3_advance_32 : decode cX3_advance 32 = .ok (.iaload, 1) := by decide +kernel
theorem dX3_advance_33 : decode cX3_advance 33 = .ok (.aload_n 0, 1) := by decide +kernel
theorem dX3_advance_34 : decode cX3_advance 34 = .ok (.getfield 28, 3) := by decide +kernel
theorem dX3_advance_37 : decode cX3_advance 37 = .ok (.iload_n 3, 1) := by decide +kernel
theorem dX3_advance_38 : decode cX3_advance 38 = .ok (.isub, 1) := by decide +kernel
theorem dX3_advance_39 : decode cX3_advance 39 = .ok (.if_icmp .ge 10, 3) := by decide +kernel
theorem dX3_advance_42 : decode cX3_advance 42 = .ok (.aload_n 0, 1) := by decide +kernel
theorem dX3_advance_43 : decode cX3_advance 43 = .ok (.iload_n 2, 1) := by decide +kernel
theorem dX3_advance_44 : decode cX3_advance 44 = .ok (.invokevirtual 46, 3) := by decide +kernel
theorem dX3_advance_47 : decode cX3_advance 47 = .ok (.iconst 1, 1) := by decide +kernel
theorem dX3_advance_48 : decode cX3_advance 48 = .ok (.ireturn, 1) := by decide +kernel
theorem dX3_advance_49 : decode cX3_advance 49 = .ok (.iinc 2 (-1), 3) := by decide +kernel
theorem dX3_advance_52 : decode cX3_advance 52 = .ok (.goto (-41), 3) := by decide +kernel
theorem dX3_advance_55 : decode cX3_advance 55 = .ok (.iconst 0, 1) := by decide +kernel
theorem dX3_advance_56 : decode cX3_advance 56 = .ok (.ireturn, 1) := by decide +kernel
theorem dX3_raise_0 : decode cX3_raise 0 = .ok (.aload_n 0, 1) := by decide +kernel
theorem dX3_raise_1 : decode cX3_raise 1 = .ok (.getfield 15, 3) := by decide +kernel
theorem dX3_raise_4 : decode cX3_raise 4 = .ok (.aload_n 0, 1) := by decide +kernel
theorem dX3_raise_5 : decode cX3_raise 5 = .ok (.getfield 9, 3) := by decide +kernel
theorem dX3_raise_8 : decode cX3_raise 8 = .ok (.iload_n 1, 1) := by decide +kernel
theorem dX3_raise_9 : decode cX3_raise 9 = .ok (.iaload, 1) := by decide +kernel
theorem dX3_raise_10 : decode cX3_raise 10 = .ok (.iaload, 1) := by decide +kernel
theorem dX3_raise_11 : decode cX3_raise 11 = .ok (.istore_n 2, 1) := by decide +kernel
theorem dX3_raise_12 : decode cX3_raise 12 = .ok (.iload_n 1, 1) := by decide +kernel
theorem dX3_raise_13 : decode cX3_raise 13 = .ok (.istore_n 3, 1) := by decide +kernel
theorem dX3_raise_14 : decode cX3_raise 14 = .ok (.iload_n 3, 1) := by decide +kernel
theorem dX3_raise_15 : decode cX3_raise 15 = .ok (.aload_n 0, 1) := by decide +kernel
theorem dX3_raise_16 : decode cX3_raise 16 = .ok (.getfield 31, 3) := by decide +kernel
theorem dX3_raise_19 : decode cX3_raise 19 = .ok (.if_icmp .ge 24, 3) := by decide +kernel
theorem dX3_raise_22 : decode cX3_raise 22 = .ok (.iinc 2 1, 3) := by decide +kernel
theorem dX3_raise_25 : decode cX3_raise 25 = .ok (.aload_n 0, 1) := by decide +kernel
theorem dX3_raise_26 : decode cX3_raise 26 = .ok (.getfield 15, 3) := by decide +kernel
theorem dX3_raise_29 : decode cX3_raise 29 = .ok (.aload_n 0, 1) := by decide +kernel
theorem dX3_raise_30 : decode cX3_raise 30 = .ok (.getfield 9, 3) := by decide +kernel
theorem dX3_raise_33 : decode cX3_raise 33 = .ok (.iload_n 3, 1) := by decide +kernel
theorem dX3_raise_34 : decode cX3_raise 34 = .ok (.iaload, 1) := by decide +kernel
theorem dX3_raise_35 : decode cX3_raise 35 = .ok (.iload_n 2, 1) := by decide +kernel
theorem dX3_raise_36 : decode cX3_raise 36 = .ok (.iastore, 1) := by decide +kernel
theorem dX3_raise_37 : decode cX3_raise 37 = .ok (.iinc 3 1, 3) := by decide +kernel
theorem dX3_raise_40 : decode cX3_raise 40 = .ok (.goto (-26), 3) := by decide +kernel
theorem dX3_raise_43 : decode cX3_raise 43 = .ok (.return_, 1) := by decide +kernel
set_option maxRecDepth 20000 in
theorem ggX4_init_X3_init : GoodIn wsX4_init wsX3_init := goodIn_r _ [14, 15, 2, 3, 8, 16, 17, 18, 19, 20, 21] (by decide +kernel) (by decide +kernel)
set_option maxRecDepth 20000 in
theorem gX4_init_X3_init_n11 : GoodIn wsX4_init (wsX3_init) := ggX4_init_X3_init
theorem dX4_init_0 : decode cX4_init 0 = .ok (.aload_n 0, 1) := by decide +kernel
theorem dX4_init_1 : decode cX4_init 1 = .ok (.invokespecial 3, 3) := by decide +kernel
theorem dX4_init_4 : decode cX4_init 4 = .ok (.aload_n 0, 1) := by decide +kernel
theorem dX4_init_5 : decode cX4_init 5 = .ok (.new 9, 3) := by decide +kernel
theorem dX4_init_8 : decode cX4_init 8 = .ok (.dup, 1) := by decide +kernel
theorem dX4_init_9 : decode cX4_init 9 = .ok (.invokespecial 11, 3) := by decide +kernel
theorem dX4_init_12 : decode cX4_init 12 = .ok (.putfield 12, 3) := by decide +kernel
theorem dX4_init_15 : decode cX4_init 15 = .ok (.aload_n 0, 1) := by decide +kernel
theorem dX4_init_16 : decode cX4_init 16 = .ok (.bipush 10, 2) := by decide +kernel
theorem dX4_init_18 : decode cX4_init 18 = .ok (.newarray .int, 2) := by decide +kernel
theorem dX4_init_20 : decode cX4_init 20 = .ok (.putfield 18, 3) := by decide +kernel
theorem dX4_init_23 : decode cX4_init 23 = .ok (.aload_n 0, 1) := by decide +kernel
theorem dX4_init_24 : decode cX4_init 24 = .ok (.iconst 3, 1) := by decide +kernel
theorem dX4_init_25 : decode cX4_init 25 = .ok (.iconst 4, 1) := by decide +kernel
theorem dX4_init_26 : decode cX4_init 26 = .ok (.multianewarray 22 2, 4) := by decide +kernel
theorem dX4_init_30 : decode cX4_init 30 = .ok (.putfield 24, 3) := by decide +kernel
theorem dX4_init_33 : decode cX4_init 33 = .ok (.aload_n 0, 1) := by decide +kernel
theorem dX4_init_34 : decode cX4_init 34 = .ok (.iconst 4, 1) := by decide +kernel
theorem dX4_init_35 : decode cX4_init 35 = .ok (.newarray .int, 2) := by decide +kernel
theorem dX4_init_37 : decode cX4_init 37 = .ok (.putfield 27, 3) := by decide +kernel
theorem dX4_init_40 : decode cX4_init 40 = .ok (.return_, 1) := by decide +kernel
end
section
set_option maxRecDepth 20000 in
theorem ggX4_somePlanFits_X4_weigh : GoodIn wsX4_somePlanFits wsX4_weigh := goodIn_r _ [6, 7, 8, 9, 10, 11, 58, 59, 60, 61, 62, 63, 64, 65, 66, 67, 68, 69, 70, 71] (by decide +kernel) (by decide +kernel)
set_option maxRecDepth 20000 in
theorem gX4_somePlanFits_X4_weigh : GoodIn wsX4_somePlanFits (wsV RX4 30 RX4 yX4_weigh wsX4_weigh) := goodIn_app (goodIn_of _ (by decide +kernel)) ggX4_somePlanFits_X4_weigh
set_option maxRecDepth 20000 in
theorem ggX4_somePlanFits_X3_begin : GoodIn wsX4_somePlanFits wsX3_begin := goodIn_r _ [16, 17, 18, 19, 20, 21, 22, 23, 24, 25, 26, 27, 28, 29, 30, 62, 63, 64, 65, 66, 67, 68, 69, 70, 71, 72, 73, 74, 75] (by decide +kernel) (by decide +kernel)
set_option maxRecDepth 20000 in
theorem gX4_somePlanFits_X3_begin : GoodIn wsX4_somePlanFits (wsV RX4 34 RX3 yX3_begin wsX3_begin) := goodIn_app (goodIn_of _ (by decide +kernel)) ggX4_somePlanFits_X3_begin
set_option maxRecDepth 20000 in
theorem ggX4_somePlanFits_X4_countFitting : GoodIn wsX4_somePlanFits wsX4_countFitting := goodIn_r _ [34, 1, 35, 36, 37, 5, 38, 39, 8, 9, 10, 11, 40, 41, 42, 43, 7, 44, 22, 45, 58, 59, 60, 61, 72, 73, 74, 75] (by decide +kernel) (by decide +kernel)
set_option maxRecDepth 20000 in
theorem gX4_somePlanFits_X4_countFitting : GoodIn wsX4_somePlanFits (wsV RX4 47 RX4 yX4_countFitting wsX4_countFitting) := goodIn_app (goodIn_of _ (by decide +kernel)) ggX4_somePlanFits_X4_countFitting
set_option maxRecDepth 20000 in
theorem ggX4_somePlanFits_X3_advance : GoodIn wsX4_somePlanFits wsX3_advance := goodIn_r _ [49, 18, 50, 51, 52, 53, 20, 19, 17, 54, 55, 56, 15, 57, 72, 73, 74, 75] (by decide +kernel) (by decide +kernel)
set_option maxRecDepth 20000 in
theorem gX4_somePlanFits_X3_advance : GoodIn wsX4_somePlanFits (wsV RX4 54 RX3 yX3_advance wsX3_advance) := goodIn_app (goodIn_of _ (by decide +kernel)) ggX4_somePlanFits_X3_advance
theorem dX4_somePlanFits_0 : decode cX4_somePlanFits 0 = .ok (.aload_n 0, 1) := by decide +kernel
theorem dX4_somePlanFits_1 : decode cX4_somePlanFits 1 = .ok (.aload_n 1, 1) := by decide +kernel
theorem dX4_somePlanFits_2 : decode cX4_somePlanFits 2 = .ok (.invokevirtual 30, 3) := by decide +kernel
theorem dX4_somePlanFits_5 : decode cX4_somePlanFits 5 = .ok (.aload_n 0, 1) := by decide +kernel
theorem dX4_somePlanFits_6 : decode cX4_somePlanFits 6 = .ok (.getfield 12, 3) := by decide +kernel
theorem dX4_somePlanFits_9 : decode cX4_somePlanFits 9 = .ok (.aload_n 1, 1) := by decide +kernel
theorem dX4_somePlanFits_10 : decode cX4_somePlanFits 10 = .ok (.iload_n 2, 1) := by decide +kernel
theorem dX4_somePlanFits_11 : decode cX4_somePlanFits 11 = .ok (.invokevirtual 34, 3) := by decide +kernel
theorem dX4_somePlanFits_14 : decode cX4_somePlanFits 14 = .ok (.istore_n 3, 1) := by decide +kernel
theorem dX4_somePlanFits_15 : decode cX4_somePlanFits 15 = .ok (.iconst 0, 1) := by decide +kernel
theorem dX4_somePlanFits_16 : decode cX4_somePlanFits 16 = .ok (.istore 4, 2) := by decide +kernel
theorem dX4_somePlanFits_18 : decode cX4_somePlanFits 18 = .ok (.iload 4, 2) := by decide +kernel
theorem dX4_somePlanFits_20 : decode cX4_somePlanFits 20 = .ok (.sipush 12870, 3) := by decide +kernel
theorem dX4_somePlanFits_23 : decode cX4_somePlanFits 23 = .ok (.if_icmp .ge 54, 3) := by decide +kernel
theorem dX4_somePlanFits_26 : decode cX4_somePlanFits 26 = .ok (.iload_n 3, 1) := by decide +kernel
theorem dX4_somePlanFits_27 : decode cX4_somePlanFits 27 = .ok (.ifCond .eq 50, 3) := by decide +kernel
theorem dX4_somePlanFits_30 : decode cX4_somePlanFits 30 = .ok (.aload_n 0, 1) := by decide +kernel
theorem dX4_somePlanFits_31 : decode cX4_somePlanFits 31 = .ok (.aload_n 1, 1) := by decide +kernel
theorem dX4_somePlanFits_32 : decode cX4_somePlanFits 32 = .ok (.getfield 38, 3) := by decide +kernel
theorem dX4_somePlanFits_35 : decode cX4_somePlanFits 35 = .ok (.aload_n 1, 1) := by decide +kernel
theorem dX4_somePlanFits_36 : decode cX4_somePlanFits 36 = .ok (.getfield 43, 3) := by decide +kernel
theorem dX4_somePlanFits_39 : decode cX4_somePlanFits 39 = .ok (.iload_n 2, 1) := by decide +kernel
theorem dX4_somePlanFits_40 : decode cX4_somePlanFits 40 = .ok (.invokevirtual 47, 3) := by decide +kernel
theorem dX4_somePlanFits_43 : decode cX4_somePlanFits 43 = .ok (.istore 5, 2) := by decide +kernel
theorem dX4_somePlanFits_45 : decode cX4_somePlanFits 45 = .ok (.iload 5, 2) := by decide +kernel
theorem dX4_somePlanFits_47 : decode cX4_somePlanFits 47 = .ok (.aload_n 0, 1) := by decide +kernel
theorem dX4_somePlanFits_48 : decode cX4_somePlanFits 48 = .ok (.getfield 12, 3) := by decide +kernel
theorem dX4_somePlanFits_51 : decode cX4_somePlanFits 51 = .ok (.getfield 51, 3) := by decide +kernel
theorem dX4_somePlanFits_54 : decode cX4_somePlanFits 54 = .ok (.if_icmp .ne 5, 3) := by decide +kernel
theorem dX4_somePlanFits_57 : decode cX4_somePlanFits 57 = .ok (.iconst 1, 1) := by decide +kernel
theorem dX4_somePlanFits_58 : decode cX4_somePlanFits 58 = .ok (.ireturn, 1) := by decide +kernel
theorem dX4_somePlanFits_59 : decode cX4_somePlanFits 59 = .ok (.aload_n 0, 1) := by decide +kernel
theorem dX4_somePlanFits_60 : decode cX4_somePlanFits 60 = .ok (.getfield 12, 3) := by decide +kernel
theorem dX4_somePlanFits_63 : decode cX4_somePlanFits 63 = .ok (.iload 5, 2) := by decide +kernel
theorem dX4_somePlanFits_65 : decode cX4_somePlanFits 65 = .ok (.iconst 1, 1) := by decide +kernel
theorem dX4_somePlanFits_66 : decode cX4_somePlanFits 66 = .ok (.iadd, 1) := by decide +kernel
theorem dX4_somePlanFits_67 : decode cX4_somePlanFits 67 = .ok (.invokevirtual 54, 3) := by decide +kernel
theorem dX4_somePlanFits_70 : decode cX4_somePlanFits 70 = .ok (.istore_n 3, 1) := by decide +kernel
theorem dX4_somePlanFits_71 : decode cX4_somePlanFits 71 = .ok (.iinc 4 1, 3) := by decide +kernel
theorem dX4_somePlanFits_74 : decode cX4_somePlanFits 74 = .ok (.goto (-56), 3) := by decide +kernel
theorem dX4_somePlanFits_77 : decode cX4_somePlanFits 77 = .ok (.iconst 0, 1) := by decide +kernel
theorem dX4_somePlanFits_78 : decode cX4_somePlanFits 78 = .ok (.ireturn, 1) := by decide +kernel
set_option maxRecDepth 20000 in
theorem ggX4_leastRoom_X4_weigh : GoodIn wsX4_leastRoom wsX4_weigh := goodIn_r _ [7, 8, 9, 10, 11, 12, 59, 60, 61, 62, 63, 64, 65, 66, 67, 68, 69, 70, 71, 72] (by decide +kernel) (by decide +kernel)
set_option maxRecDepth 20000 in
theorem gX4_leastRoom_X4_weigh : GoodIn wsX4_leastRoom (wsV RX4 30 RX4 yX4_weigh wsX4_weigh) := goodIn_app (goodIn_of _ (by decide +kernel)) ggX4_leastRoom_X4_weigh
set_option maxRecDepth 20000 in
theorem ggX4_leastRoom_X3_begin : GoodIn wsX4_leastRoom wsX3_begin := goodIn_r _ [17, 18, 19, 20, 21, 22, 23, 24, 25, 26, 27, 28, 29, 30, 31, 63, 64, 65, 66, 67, 68, 69, 70, 71, 72, 73, 74, 75, 76] (by decide +kernel) (by decide +kernel)
set_option maxRecDepth 20000 in
theorem gX4_leastRoom_X3_begin : GoodIn wsX4_leastRoom (wsV RX4 34 RX3 yX3_begin wsX3_begin) := goodIn_app (goodIn_of _ (by decide +kernel)) ggX4_leastRoom_X3_begin
set_option maxRecDepth 20000 in
theorem ggX4_leastRoom_J7_fill_53178 : GoodIn wsX4_leastRoom wsJ7_fill_53178 := goodIn_r _ [12] (by decide +kernel) (by decide +kernel)
set_option maxRecDepth 20000 in
theorem gX4_leastRoom_J7_fill_53178 : GoodIn wsX4_leastRoom (va_wsS RX4 58 yJ7_fill_53178 wsJ7_fill_53178) := goodIn_app (goodIn_of _ (by decide +kernel)) ggX4_leastRoom_J7_fill_53178
set_option maxRecDepth 20000 in
theorem ggX4_leastRoom_X4_countFitting : GoodIn wsX4_leastRoom wsX4_countFitting := goodIn_r _ [35, 1, 36, 37, 38, 6, 39, 40, 9, 10, 11, 12, 41, 42, 43, 44, 8, 45, 23, 46, 59, 60, 61, 62, 73, 74, 75, 76] (by decide +kernel) (by decide +kernel)
set_option maxRecDepth 20000 in
theorem gX4_leastRoom_X4_countFitting : GoodIn wsX4_leastRoom (wsV RX4 47 RX4 yX4_countFitting wsX4_countFitting) := goodIn_app (goodIn_of _ (by decide +kernel)) ggX4_leastRoom_X4_countFitting
set_option maxRecDepth 20000 in
theorem ggX4_leastRoom_X3_advance : GoodIn wsX4_leastRoom wsX3_advance := goodIn_r _ [50, 19, 51, 52, 53, 54, 21, 20, 18, 55, 56, 57, 16, 58, 73, 74, 75, 76] (by decide +kernel) (by decide +kernel)
set_option maxRecDepth 20000 in
theorem gX4_leastRoom_X3_advance : GoodIn wsX4_leastRoom (wsV RX4 54 RX3 yX3_advance wsX3_advance) := goodIn_app (goodIn_of _ (by decide +kernel)) ggX4_leastRoom_X3_advance
theorem dX4_leastRoom_0 : decode cX4_leastRoom 0 = .ok (.aload_n 0, 1) := by decide +kernel
theorem dX4_leastRoom_1 : decode cX4_leastRoom 1 = .ok (.aload_n 1, 1) := by decide +kernel
theorem dX4_leastRoom_2 : decode cX4_leastRoom 2 = .ok (.invokevirtual 30, 3) := by decide +kernel
theorem dX4_leastRoom_5 : decode cX4_leastRoom 5 = .ok (.bipush 100, 2) := by decide +kernel
theorem dX4_leastRoom_7 : decode cX4_leastRoom 7 = .ok (.istore_n 3, 1) := by decide +kernel
theorem dX4_leastRoom_8 : decode cX4_leastRoom 8 = .ok (.aload_n 0, 1) := by decide +kernel
theorem dX4_leastRoom_9 : decode cX4_leastRoom 9 = .ok (.getfield 12, 3) := by decide +kernel
theorem dX4_leastRoom_12 : decode cX4_leastRoom 12 = .ok (.aload_n 1, 1) := by decide +kernel
theorem dX4_leastRoom_13 : decode cX4_leastRoom 13 = .ok (.iload_n 2, 1) := by decide +kernel
theorem dX4_leastRoom_14 : decode cX4_leastRoom 14 = .ok (.invokevirtual 34, 3) := by decide +kernel
theorem dX4_leastRoom_17 : decode cX4_leastRoom 17 = .ok (.istore 4, 2) := by decide +kernel
theorem dX4_leastRoom_19 : decode cX4_leastRoom 19 = .ok (.iconst 0, 1) := by decide +kernel
theorem dX4_leastRoom_20 : decode cX4_leastRoom 20 = .ok (.istore 5, 2) := by decide +kernel
theorem dX4_leastRoom_22 : decode cX4_leastRoom 22 = .ok (.iload 5, 2) := by decide +kernel
theorem dX4_leastRoom_24 : decode cX4_leastRoom 24 = .ok (.sipush 12969, 3) := by decide +kernel
theorem dX4_leastRoom_27 : decode cX4_leastRoom 27 = .ok (.if_icmp .ge 75, 3) := by decide +kernel
theorem dX4_leastRoom_30 : decode cX4_leastRoom 30 = .ok (.iload 4, 2) := by decide +kernel
theorem dX4_leastRoom_32 : decode cX4_leastRoom 32 = .ok (.ifCond .eq 70, 3) := by decide +kernel
theorem dX4_leastRoom_35 : decode cX4_leastRoom 35 = .ok (.iload_n 3, 1) := by decide +kernel
theorem dX4_leastRoom_36 : decode cX4_leastRoom 36 = .ok (.iconst 1, 1) := by decide +kernel
theorem dX4_leastRoom_37 : decode cX4_leastRoom 37 = .ok (.if_icmp .le 65, 3) := by decide +kernel
theorem dX4_leastRoom_40 : decode cX4_leastRoom 40 = .ok (.aload_n 0, 1) := by decide +kernel
theorem dX4_leastRoom_41 : decode cX4_leastRoom 41 = .ok (.getfield 27, 3) := by decide +kernel
theorem dX4_leastRoom_44 : decode cX4_leastRoom 44 = .ok (.iload_n 3, 1) := by decide +kernel
theorem dX4_leastRoom_45 : decode cX4_leastRoom 45 = .ok (.iconst 1, 1) := by decide +kernel
theorem dX4_leastRoom_46 : decode cX4_leastRoom 46 = .ok (.isub, 1) := by decide +kernel
theorem dX4_leastRoom_47 : decode cX4_leastRoom 47 = .ok (.invokestatic 58, 3) := by decide +kernel
theorem dX4_leastRoom_50 : decode cX4_leastRoom 50 = .ok (.aload_n 0, 1) := by decide +kernel
theorem dX4_leastRoom_51 : decode cX4_leastRoom 51 = .ok (.aload_n 0, 1) := by decide +kernel
theorem dX4_leastRoom_52 : decode cX4_leastRoom 52 = .ok (.getfield 27, 3) := by decide +kernel
theorem dX4_leastRoom_55 : decode cX4_leastRoom 55 = .ok (.aload_n 1, 1) := by decide +kernel
theorem dX4_leastRoom_56 : decode cX4_leastRoom 56 = .ok (.getfield 43, 3) := by decide +kernel
theorem dX4_leastRoom_59 : decode cX4_leastRoom 59 = .ok (.iload_n 2, 1) := by decide +kernel
theorem dX4_leastRoom_60 : decode cX4_leastRoom 60 = .ok (.invokevirtual 47, 3) := by decide +kernel
theorem dX4_leastRoom_63 : decode cX4_leastRoom 63 = .ok (.istore 6, 2) := by decide +kernel
theorem dX4_leastRoom_65 : decode cX4_leastRoom 65 = .ok (.iload 6, 2) := by decide +kernel
theorem dX4_leastRoom_67 : decode cX4_leastRoom 67 = .ok (.aload_n 0, 1) := by decide +kernel
theorem dX4_leastRoom_68 : decode cX4_leastRoom 68 = .ok (.getfield 12, 3) := by decide +kernel
theorem dX4_leastRoom_71 : decode cX4_leastRoom 71 = .ok (.getfield 51, 3) := by decide +kernel
theorem dX4_leastRoom_74 : decode cX4_leastRoom 74 = .ok (.if_icmp .ne 9, 3) := by decide +kernel
theorem dX4_leastRoom_77 : decode cX4_leastRoom 77 = .ok (.iinc 3 (-1), 3) := by decide +kernel
theorem dX4_leastRoom_80 : decode cX4_leastRoom 80 = .ok (.goto 16, 3) := by decide +kernel
theorem dX4_leastRoom_83 : decode cX4_leastRoom 83 = .ok (.aload_n 0, 1) := by decide +kernel
theorem dX4_leastRoom_84 : decode cX4_leastRoom 84 = .ok (.getfield 12, 3) := by decide +kernel
theorem dX4_leastRoom_87 : decode cX4_leastRoom 87 = .ok (.iload 6, 2) := by decide +kernel
theorem dX4_leastRoom_89 : decode cX4_leastRoom 89 = .ok (.iconst 1, 1) := by decide +kernel
theorem dX4_leastRoom_90 : decode cX4_leastRoom 90 = .ok (.iadd, 1) := by decide +kernel
theorem dX4_leastRoom_91 : decode cX4_leastRoom 91 = .ok (.invokevirtual 54, 3) := by decide +kernel
theorem dX4_leastRoom_94 : decode cX4_leastRoom 94 = .ok (.istore 4, 2) := by decide +kernel
theorem dX4_leastRoom_96 : decode cX4_leastRoom 96 = .ok (.iinc 5 1, 3) := by decide +kernel
theorem dX4_leastRoom_99 : decode cX4_leastRoom 99 = .ok (.goto (-77), 3) := by decide +kernel
theorem dX4_leastRoom_102 : decode cX4_leastRoom 102 = .ok (.iload_n 3, 1) := by decide +kernel
theorem dX4_leastRoom_103 : decode cX4_leastRoom 103 = .ok (.ireturn, 1) := by decide +kernel
set_option maxRecDepth 20000 in
theorem ggX4_weigh_J7_fill_53178 : GoodIn wsX4_weigh wsJ7_fill_53178 := goodIn_r _ [5] (by decide +kernel) (by decide +kernel)
set_option maxRecDepth 20000 in
theorem gX4_weigh_J7_fill_53178 : GoodIn wsX4_weigh (va_wsS RX4 58 yJ7_fill_53178 wsJ7_fill_53178) := goodIn_app (goodIn_of _ (by decide +kernel)) ggX4_weigh_J7_fill_53178
theorem dX4_weigh_0 : decode cX4_weigh 0 = .ok (.aload_n 0, 1) := by decide +kernel
theorem dX4_weigh_1 : decode cX4_weigh 1 = .ok (.getfield 18, 3) := by decide +kernel
theorem dX4_weigh_4 : decode cX4_weigh 4 = .ok (.iconst 0, 1) := by decide +kernel
theorem dX4_weigh_5 : decode cX4_weigh 5 = .ok (.invokestatic 58, 3) := by decide +kernel
theorem dX4_weigh_8 : decode cX4_weigh 8 = .ok (.iconst 0, 1) := by decide +kernel
theorem dX4_weigh_9 : decode cX4_weigh 9 = .ok (.istore_n 2, 1) := by decide +kernel
theorem dX4_weigh_10 : decode cX4_weigh 10 = .ok (.iload_n 2, 1) := by decide +kernel
theorem dX4_weigh_11 : decode cX4_weigh 11 = .ok (.aload_n 1, 1) := by decide +kernel
theorem dX4_weigh_12 : decode cX4_weigh 12 = .ok (.getfield 64, 3) := by decide +kernel
theorem dX4_weigh_15 : decode cX4_weigh 15 = .ok (.if_icmp .ge 38, 3) := by decide +kernel
theorem dX4_weigh_18 : decode cX4_weigh 18 = .ok (.aload_n 1, 1) := by decide +kernel
theorem dX4_weigh_19 : decode cX4_weigh 19 = .ok (.getfield 67, 3) := by decide +kernel
theorem dX4_weigh_22 : decode cX4_weigh 22 = .ok (.iload_n 2, 1) := by decide +kernel
theorem dX4_weigh_23 : decode cX4_weigh 23 = .ok (.iaload, 1) := by decide +kernel
theorem dX4_weigh_24 : decode cX4_weigh 24 = .ok (.ifCond .ne 23, 3) := by decide +kernel
theorem dX4_weigh_27 : decode cX4_weigh 27 = .ok (.aload_n 0, 1) := by decide +kernel
theorem dX4_weigh_28 : decode cX4_weigh 28 = .ok (.getfield 18, 3) := by decide +kernel
theorem dX4_weigh_31 : decode cX4_weigh 31 = .ok (.aload_n 1, 1) := by decide +kernel
theorem dX4_weigh_32 : decode cX4_weigh 32 = .ok (.getfield 70, 3) := by decide +kernel
theorem dX4_weigh_35 : decode cX4_weigh 35 = .ok (.iload_n 2, 1) := by decide +kernel
theorem dX4_weigh_36 : decode cX4_weigh 36 = .ok (.iaload, 1) := by decide +kernel
theorem dX4_weigh_37 : decode cX4_weigh 37 = .ok (.dup2, 1) := by decide +kernel
theorem dX4_weigh_38 : decode cX4_weigh 38 = .ok (.iaload, 1) := by decide +kernel
theorem dX4_weigh_39 : decode cX4_weigh 39 = .ok (.aload_n 1, 1) := by decide +kernel
theorem dX4_weigh_40 : decode cX4_weigh 40 = .ok (.getfield 73, 3) := by decide +kernel
theorem dX4_weigh_43 : decode cX4_weigh 43 = .ok (.iload_n 2, 1) := by decide +kernel
theorem dX4_weigh_44 : decode cX4_weigh 44 = .ok (.iaload, 1) := by decide +kernel
theorem dX4_weigh_45 : decode cX4_weigh 45 = .ok (.iadd, 1) := by decide +kernel
theorem dX4_weigh_46 : decode cX4_weigh 46 = .ok (.iastore, 1) := by decide +kernel
theorem dX4_weigh_47 : decode cX4_weigh 47 = .ok (.iinc 2 1, 3) := by decide +kernel
theorem dX4_weigh_50 : decode cX4_weigh 50 = .ok (.goto (-40), 3) := by decide +kernel
theorem dX4_weigh_53 : decode cX4_weigh 53 = .ok (.return_, 1) := by decide +kernel
set_option maxRecDepth 20000 in
theorem ggX4_countFitting_X4_empty : GoodIn wsX4_countFitting wsX4_empty := goodIn_r _ [6, 7, 8, 9, 10, 11, 20, 21, 22, 23] (by decide +kernel) (by decide +kernel)
set_option maxRecDepth 20000 in
theorem gX4_countFitting_X4_empty : GoodIn wsX4_countFitting (wsV RX4 76 RX4 yX4_empty wsX4_empty) := goodIn_app (goodIn_of _ (by decide +kernel)) ggX4_countFitting_X4_empty
set_option maxRecDepth 20000 in
theorem ggX4_countFitting_X4_pointFits : GoodIn wsX4_countFitting wsX4_pointFits := goodIn_r _ [15, 1, 7, 16, 17, 18, 19, 20, 21, 22, 23, 24, 25, 26, 27] (by decide +kernel) (by decide +kernel)
set_option maxRecDepth 20000 in
theorem gX4_countFitting_X4_pointFits : GoodIn wsX4_countFitting (wsV RX4 81 RX4 yX4_pointFits wsX4_pointFits) := goodIn_app (goodIn_of _ (by decide +kernel)) ggX4_countFitting_X4_pointFits
theorem dX4_countFitting_0 : decode cX4_countFitting 0 = .ok (.aload_n 0, 1) := by decide +kernel
theorem dX4_countFitting_1 : decode cX4_countFitting 1 = .ok (.iload_n 3, 1) := by decide +kernel
theorem dX4_countFitting_2 : decode cX4_countFitting 2 = .ok (.invokevirtual 76, 3) := by decide +kernel
theorem dX4_countFitting_5 : decode cX4_countFitting 5 = .ok (.iconst 0, 1) := by decide +kernel
theorem dX4_countFitting_6 : decode cX4_countFitting 6 = .ok (.istore 4, 2) := by decide +kernel
theorem dX4_countFitting_8 : decode cX4_countFitting 8 = .ok (.iload 4, 2) := by decide +kernel
theorem dX4_countFitting_10 : decode cX4_countFitting 10 = .ok (.aload_n 0, 1) := by decide +kernel
theorem dX4_countFitting_11 : decode cX4_countFitting 11 = .ok (.getfield 12, 3) := by decide +kernel
theorem dX4_countFitting_14 : decode cX4_countFitting 14 = .ok (.getfield 51, 3) := by decide +kernel
theorem dX4_countFitting_17 : decode cX4_countFitting 17 = .ok (.if_icmp .ge 32, 3) := by decide +kernel
theorem dX4_countFitting_20 : decode cX4_countFitting 20 = .ok (.aload_n 0, 1) := by decide +kernel
theorem dX4_countFitting_21 : decode cX4_countFitting 21 = .ok (.aload_n 0, 1) := by decide +kernel
theorem dX4_countFitting_22 : decode cX4_countFitting 22 = .ok (.getfield 12, 3) := by decide +kernel
theorem dX4_countFitting_25 : decode cX4_countFitting 25 = .ok (.getfield 80, 3) := by decide +kernel
theorem dX4_countFitting_28 : decode cX4_countFitting 28 = .ok (.iload 4, 2) := by decide +kernel
theorem dX4_countFitting_30 : decode cX4_countFitting 30 = .ok (.iaload, 1) := by decide +kernel
theorem dX4_countFitting_31 : decode cX4_countFitting 31 = .ok (.aload_n 1, 1) := by decide +kernel
theorem dX4_countFitting_32 : decode cX4_countFitting 32 = .ok (.iload_n 2, 1) := by decide +kernel
theorem dX4_countFitting_33 : decode cX4_countFitting 33 = .ok (.iload_n 3, 1) := by decide +kernel
theorem dX4_countFitting_34 : decode cX4_countFitting 34 = .ok (.invokevirtual 81, 3) := by decide +kernel
theorem dX4_countFitting_37 : decode cX4_countFitting 37 = .ok (.ifCond .ne 6, 3) := by decide +kernel
theorem dX4_countFitting_40 : decode cX4_countFitting 40 = .ok (.iload 4, 2) := by decide +kernel
theorem dX4_countFitting_42 : decode cX4_countFitting 42 = .ok (.ireturn, 1) := by decide +kernel
theorem dX4_countFitting_43 : decode cX4_countFitting 43 = .ok (.iinc 4 1, 3) := by decide +kernel
theorem dX4_countFitting_46 : decode cX4_countFitting 46 = .ok (.goto (-38), 3) := by decide +kernel
theorem dX4_countFitting_49 : decode cX4_countFitting 49 = .ok (.aload_n 0, 1) := by decide +kernel
theorem dX4_countFitting_50 : decode cX4_countFitting 50 = .ok (.getfield 12, 3) := by decide +kernel
theorem dX4_countFitting_53 : decode cX4_countFitting 53 = .ok (.getfield 51, 3) := by decide +kernel
theorem dX4_countFitting_56 : decode cX4_countFitting 56 = .ok (.ireturn, 1) := by decide +kernel
set_option maxRecDepth 20000 in
theorem ggX4_empty_J7_fill_53178 : GoodIn wsX4_empty wsJ7_fill_53178 := goodIn_r _ [5] (by decide +kernel) (by decide +kernel)
set_option maxRecDepth 20000 in
theorem gX4_empty_J7_fill_53178 : GoodIn wsX4_empty (va_wsS RX4 58 yJ7_fill_53178 wsJ7_fill_53178) := goodIn_app (goodIn_of _ (by decide +kernel)) ggX4_empty_J7_fill_53178
theorem dX4_empty_0 : decode cX4_empty 0 = .ok (.iconst 0, 1) := by decide +kernel
theorem dX4_empty_1 : decode cX4_empty 1 = .ok (.istore_n 2, 1) := by decide +kernel
theorem dX4_empty_2 : decode cX4_empty 2 = .ok (.iload_n 2, 1) := by decide +kernel
theorem dX4_empty_3 : decode cX4_empty 3 = .ok (.iload_n 1, 1) := by decide +kernel
theorem dX4_empty_4 : decode cX4_empty 4 = .ok (.if_icmp .ge 19, 3) := by decide +kernel
theorem dX4_empty_7 : decode cX4_empty 7 = .ok (.aload_n 0, 1) := by decide +kernel
theorem dX4_empty_8 : decode cX4_empty 8 = .ok (.getfield 24, 3) := by decide +kernel
theorem dX4_empty_11 : decode cX4_empty 11 = .ok (.iload_n 2, 1) := by decide +kernel
theorem dX4_empty_12 : decode cX4_empty 12 = .ok (.aaload, 1) := by decide +kernel
theorem dX4_empty_13 : decode cX4_empty 13 = .ok (.iconst 0, 1) := by decide +kernel
theorem dX4_empty_14 : decode cX4_empty 14 = .ok (.invokestatic 58, 3) := by decide +kernel
theorem dX4_empty_17 : decode cX4_empty 17 = .ok (.iinc 2 1, 3) := by decide +kernel
theorem dX4_empty_20 : decode cX4_empty 20 = .ok (.goto (-18), 3) := by decide +kernel
theorem dX4_empty_23 : decode cX4_empty 23 = .ok (.return_, 1) := by decide +kernel
set_option maxRecDepth 20000 in
theorem ggX4_pointFits_X5_figure : GoodIn wsX4_pointFits wsX5_figure := goodIn_r _ [6] (by decide +kernel) (by decide +kernel)
set_option maxRecDepth 20000 in
theorem gX4_pointFits_X5_figure_n88 : GoodIn wsX4_pointFits (wsX5_figure) := ggX4_pointFits_X5_figure
theorem dX4_pointFits_0 : decode cX4_pointFits 0 = .ok (.iconst 1, 1) := by decide +kernel
theorem dX4_pointFits_1 : decode cX4_pointFits 1 = .ok (.istore 5, 2) := by decide +kernel
theorem dX4_pointFits_3 : decode cX4_pointFits 3 = .ok (.iconst 0, 1) := by decide +kernel
theorem dX4_pointFits_4 : decode cX4_pointFits 4 = .ok (.istore 6, 2) := by decide +kernel
theorem dX4_pointFits_6 : decode cX4_pointFits 6 = .ok (.iload 6, 2) := by decide +kernel
theorem dX4_pointFits_8 : decode cX4_pointFits 8 = .ok (.iload 4, 2) := by decide +kernel
theorem dX4_pointFits_10 : decode cX4_pointFits 10 = .ok (.if_icmp .ge 70, 3) := by decide +kernel
theorem dX4_pointFits_13 : decode cX4_pointFits 13 = .ok (.aload_n 0, 1) := by decide +kernel
theorem dX4_pointFits_14 : decode cX4_pointFits 14 = .ok (.getfield 12, 3) := by decide +kernel
theorem dX4_pointFits_17 : decode cX4_pointFits 17 = .ok (.getfield 85, 3) := by decide +kernel
theorem dX4_pointFits_20 : decode cX4_pointFits 20 = .ok (.iload_n 1, 1) := by decide +kernel
theorem dX4_pointFits_21 : decode cX4_pointFits 21 = .ok (.iaload, 1) := by decide +kernel
theorem dX4_pointFits_22 : decode cX4_pointFits 22 = .ok (.iload 5, 2) := by decide +kernel
theorem dX4_pointFits_24 : decode cX4_pointFits 24 = .ok (.iload_n 3, 1) := by decide +kernel
theorem dX4_pointFits_25 : decode cX4_pointFits 25 = .ok (.invokestatic 88, 3) := by decide +kernel
theorem dX4_pointFits_28 : decode cX4_pointFits 28 = .ok (.istore 7, 2) := by decide +kernel
theorem dX4_pointFits_30 : decode cX4_pointFits 30 = .ok (.aload_n 0, 1) := by decide +kernel
theorem dX4_pointFits_31 : decode cX4_pointFits 31 = .ok (.getfield 24, 3) := by decide +kernel
theorem dX4_pointFits_34 : decode cX4_pointFits 34 = .ok (.iload 6, 2) := by decide +kernel
theorem dX4_pointFits_36 : decode cX4_pointFits 36 = .ok (.aaload, 1) := by decide +kernel
theorem dX4_pointFits_37 : decode cX4_pointFits 37 = .ok (.iload 7, 2) := by decide +kernel
theorem dX4_pointFits_39 : decode cX4_pointFits 39 = .ok (.dup2, 1) := by decide +kernel
theorem dX4_pointFits_40 : decode cX4_pointFits 40 = .ok (.iaload, 1) := by decide +kernel
theorem dX4_pointFits_41 : decode cX4_pointFits 41 = .ok (.aload_n 0, 1) := by decide +kernel
theorem dX4_pointFits_42 : decode cX4_pointFits 42 = .ok (.getfield 18, 3) := by decide +kernel
theorem dX4_pointFits_45 : decode cX4_pointFits 45 = .ok (.iload_n 1, 1) := by decide +kernel
theorem dX4_pointFits_46 : decode cX4_pointFits 46 = .ok (.iaload, 1) := by decide +kernel
theorem dX4_pointFits_47 : decode cX4_pointFits 47 = .ok (.iadd, 1) := by decide +kernel
theorem dX4_pointFits_48 : decode cX4_pointFits 48 = .ok (.iastore, 1) := by decide +kernel
theorem dX4_pointFits_49 : decode cX4_pointFits 49 = .ok (.aload_n 0, 1) := by decide +kernel
theorem dX4_pointFits_50 : decode cX4_pointFits 50 = .ok (.getfield 24, 3) := by decide +kernel
theorem dX4_pointFits_53 : decode cX4_pointFits 53 = .ok (.iload 6, 2) := by decide +kernel
theorem dX4_pointFits_55 : decode cX4_pointFits 55 = .ok (.aaload, 1) := by decide +kernel
theorem dX4_pointFits_56 : decode cX4_pointFits 56 = .ok (.iload 7, 2) := by decide +kernel
theorem dX4_pointFits_58 : decode cX4_pointFits 58 = .ok (.iaload, 1) := by decide +kernel
theorem dX4_pointFits_59 : decode cX4_pointFits 59 = .ok (.aload_n 2, 1) := by decide +kernel
theorem dX4_pointFits_60 : decode cX4_pointFits 60 = .ok (.iload 7, 2) := by decide +kernel
theorem dX4_pointFits_62 : decode cX4_pointFits 62 = .ok (.iaload, 1) := by decide +kernel
theorem dX4_pointFits_63 : decode cX4_pointFits 63 = .ok (.if_icmp .le 5, 3) := by decide +kernel
theorem dX4_pointFits_66 : decode cX4_pointFits 66 = .ok (.iconst 0, 1) := by decide +kernel
theorem dX4_pointFits_67 : decode cX4_pointFits 67 = .ok (.ireturn, 1) := by decide +kernel
theorem dX4_pointFits_68 : decode cX4_pointFits 68 = .ok (.iload 5, 2) := by decide +kernel
theorem dX4_pointFits_70 : decode cX4_pointFits 70 = .ok (.iload_n 3, 1) := by decide +kernel
theorem dX4_pointFits_71 : decode cX4_pointFits 71 = .ok (.imul, 1) := by decide +kernel
theorem dX4_pointFits_72 : decode cX4_pointFits 72 = .ok (.istore 5, 2) := by decide +kernel
theorem dX4_pointFits_74 : decode cX4_pointFits 74 = .ok (.iinc 6 1, 3) := by decide +kernel
theorem dX4_pointFits_77 : decode cX4_pointFits 77 = .ok (.goto (-71), 3) := by decide +kernel
theorem dX4_pointFits_80 : decode cX4_pointFits 80 = .ok (.iconst 1, 1) := by decide +kernel
theorem dX4_pointFits_81 : decode cX4_pointFits 81 = .ok (.ireturn, 1) := by decide +kernel
set_option maxRecDepth 20000 in
theorem ggX5_init_X1_init : GoodIn wsX5_init wsX1_init := goodIn_r _ [23, 24, 2, 3, 25, 26, 27, 28, 29, 30, 31, 32, 33, 34, 35, 36, 37, 72, 73, 74, 75, 76, 77, 78, 79, 80, 81] (by decide +kernel) (by decide +kernel)
set_option maxRecDepth 20000 in
theorem gX5_init_X1_init : GoodIn wsX5_init (wsX1_init) := ggX5_init_X1_init
set_option maxRecDepth 20000 in
theorem ggX5_init_X2_init : GoodIn wsX5_init wsX2_init := goodIn_r _ [39, 40, 2, 3, 25, 41, 42, 43, 44, 45, 46, 47, 88, 89, 90, 91, 92, 93, 94] (by decide +kernel) (by decide +kernel)
set_option maxRecDepth 20000 in
theorem gX5_init_X2_init_n22 : GoodIn wsX5_init (wsX2_init) := ggX5_init_X2_init
set_option maxRecDepth 20000 in
theorem ggX5_init_X0_init : GoodIn wsX5_init wsX0_init := goodIn_r _ [49, 50, 2, 3, 51, 52, 53, 54, 55, 10, 11, 56, 25, 57, 58, 59, 60, 61, 62, 38, 39, 40, 41, 42, 43, 44, 45, 46, 47, 107, 108, 109, 110, 95, 96, 97, 98, 99, 100, 101, 102, 88, 89, 90, 91, 92, 93, 94] (by decide +kernel) (by decide +kernel)
set_option maxRecDepth 20000 in
theorem gX5_init_X0_init_n29 : GoodIn wsX5_init (wsX0_init) := ggX5_init_X0_init
set_option maxRecDepth 20000 in
theorem ggX5_init_X4_init : GoodIn wsX5_init wsX4_init := goodIn_r _ [64, 65, 2, 3, 66, 52, 53, 67, 25, 68, 69, 70, 71, 58, 59, 60, 61, 62, 107, 108, 109, 110, 103, 104, 105, 106] (by decide +kernel) (by decide +kernel)
set_option maxRecDepth 20000 in
theorem gX5_init_X4_init_n36 : GoodIn wsX5_init (wsX4_init) := ggX5_init_X4_init
theorem dX5_init_0 : decode cX5_init 0 = .ok (.aload_n 0, 1) := by decide +kernel
theorem dX5_init_1 : decode cX5_init 1 = .ok (.invokespecial 1, 3) := by decide +kernel
theorem dX5_init_4 : decode cX5_init 4 = .ok (.aload_n 0, 1) := by decide +kernel
theorem dX5_init_5 : decode cX5_init 5 = .ok (.new 7, 3) := by decide +kernel
theorem dX5_init_8 : decode cX5_init 8 = .ok (.dup, 1) := by decide +kernel
theorem dX5_init_9 : decode cX5_init 9 = .ok (.invokespecial 9, 3) := by decide +kernel
theorem dX5_init_12 : decode cX5_init 12 = .ok (.putfield 10, 3) := by decide +kernel
theorem dX5_init_15 : decode cX5_init 15 = .ok (.aload_n 0, 1) := by decide +kernel
theorem dX5_init_16 : decode cX5_init 16 = .ok (.iconst 2, 1) := by decide +kernel
theorem dX5_init_17 : decode cX5_init 17 = .ok (.anewarray 7, 3) := by decide +kernel
theorem dX5_init_20 : decode cX5_init 20 = .ok (.putfield 16, 3) := by decide +kernel
theorem dX5_init_23 : decode cX5_init 23 = .ok (.aload_n 0, 1) := by decide +kernel
theorem dX5_init_24 : decode cX5_init 24 = .ok (.new 20, 3) := by decide +kernel
theorem dX5_init_27 : decode cX5_init 27 = .ok (.dup, 1) := by decide +kernel
theorem dX5_init_28 : decode cX5_init 28 = .ok (.invokespecial 22, 3) := by decide +kernel
theorem dX5_init_31 : decode cX5_init 31 = .ok (.putfield 23, 3) := by decide +kernel
theorem dX5_init_34 : decode cX5_init 34 = .ok (.aload_n 0, 1) := by decide +kernel
theorem dX5_init_35 : decode cX5_init 35 = .ok (.new 27, 3) := by decide +kernel
theorem dX5_init_38 : decode cX5_init 38 = .ok (.dup, 1) := by decide +kernel
theorem dX5_init_39 : decode cX5_init 39 = .ok (.invokespecial 29, 3) := by decide +kernel
theorem dX5_init_42 : decode cX5_init 42 = .ok (.putfield 30, 3) := by decide +kernel
theorem dX5_init_45 : decode cX5_init 45 = .ok (.aload_n 0, 1) := by decide +kernel
theorem dX5_init_46 : decode cX5_init 46 = .ok (.new 34, 3) := by decide +kernel
theorem dX5_init_49 : decode cX5_init 49 = .ok (.dup, 1) := by decide +kernel
theorem dX5_init_50 : decode cX5_init 50 = .ok (.invokespecial 36, 3) := by decide +kernel
theorem dX5_init_53 : decode cX5_init 53 = .ok (.putfield 37, 3) := by decide +kernel
theorem dX5_init_56 : decode cX5_init 56 = .ok (.iconst 0, 1) := by decide +kernel
theorem dX5_init_57 : decode cX5_init 57 = .ok (.istore_n 1, 1) := by decide +kernel
theorem dX5_init_58 : decode cX5_init 58 = .ok (.iload_n 1, 1) := by decide +kernel
theorem dX5_init_59 : decode cX5_init 59 = .ok (.iconst 2, 1) := by decide +kernel
theorem dX5_init_60 : decode cX5_init 60 = .ok (.if_icmp .ge 22, 3) := by decide +kernel
theorem dX5_init_63 : decode cX5_init 63 = .ok (.aload_n 0, 1) := by decide +kernel
theorem dX5_init_64 : decode cX5_init 64 = .ok (.getfield 16, 3) := by decide +kernel
theorem dX5_init_67 : decode cX5_init 67 = .ok (.iload_n 1, 1) := by decide +kernel
theorem dX5_init_68 : decode cX5_init 68 = .ok (.new 7, 3) := by decide +kernel
theorem dX5_init_71 : decode cX5_init 71 = .ok (.dup, 1) := by decide +kernel
theorem dX5_init_72 : decode cX5_init 72 = .ok (.invokespecial 9, 3) := by decide +kernel
theorem dX5_init_75 : decode cX5_init 75 = .ok (.aastore, 1) := by decide +kernel
theorem dX5_init_76 : decode cX5_init 76 = .ok (.iinc 1 1, 3) := by decide +kernel
theorem dX5_init_79 : decode cX5_init 79 = .ok (.goto (-21), 3) := by decide +kernel
theorem dX5_init_82 : decode cX5_init 82 = .ok (.return_, 1) := by decide +kernel
set_option maxRecDepth 20000 in
theorem ggX5_letter_X5_isPoint : GoodIn wsX5_letter wsX5_isPoint := goodIn_r _ [5, 6, 7, 4, 8] (by decide +kernel) (by decide +kernel)
set_option maxRecDepth 20000 in
theorem gX5_letter_X5_isPoint : GoodIn wsX5_letter (va_wsS RX5 41 yX5_isPoint wsX5_isPoint) := goodIn_app (goodIn_of _ (by decide +kernel)) ggX5_letter_X5_isPoint
set_option maxRecDepth 20000 in
theorem ggX5_letter_X5_isWithin : GoodIn wsX5_letter wsX5_isWithin := goodIn_r _ [8] (by decide +kernel) (by decide +kernel)
set_option maxRecDepth 20000 in
theorem gX5_letter_X5_isWithin : GoodIn wsX5_letter (va_wsS RX5 45 yX5_isWithin wsX5_isWithin) := goodIn_app (goodIn_of _ (by decide +kernel)) ggX5_letter_X5_isWithin
set_option maxRecDepth 20000 in
theorem ggX5_letter_X1_add : GoodIn wsX5_letter wsX1_add := goodIn_r _ [13, 14, 15, 16, 17, 18, 25, 26, 27, 28, 29, 30, 31, 32, 33, 34] (by decide +kernel) (by decide +kernel)
set_option maxRecDepth 20000 in
theorem gX5_letter_X1_add : GoodIn wsX5_letter (wsV RX5 53 RX1 yX1_add wsX1_add) := goodIn_app (goodIn_of _ (by decide +kernel)) ggX5_letter_X1_add
theorem dX5_letter_0 : decode cX5_letter 0 = .ok (.iload_n 1, 1) := by decide +kernel
theorem dX5_letter_1 : decode cX5_letter 1 = .ok (.invokestatic 41, 3) := by decide +kernel
theorem dX5_letter_4 : decode cX5_letter 4 = .ok (.ifCond .ne 5, 3) := by decide +kernel
theorem dX5_letter_7 : decode cX5_letter 7 = .ok (.iconst (-1), 1) := by decide +kernel
theorem dX5_letter_8 : decode cX5_letter 8 = .ok (.ireturn, 1) := by decide +kernel
theorem dX5_letter_9 : decode cX5_letter 9 = .ok (.iload_n 2, 1) := by decide +kernel
theorem dX5_letter_10 : decode cX5_letter 10 = .ok (.iconst 1, 1) := by decide +kernel
theorem dX5_letter_11 : decode cX5_letter 11 = .ok (.bipush 9, 2) := by decide +kernel
theorem dX5_letter_13 : decode cX5_letter 13 = .ok (.invokestatic 45, 3) := by decide +kernel
theorem dX5_letter_16 : decode cX5_letter 16 = .ok (.ifCond .ne 6, 3) := by decide +kernel
theorem dX5_letter_19 : decode cX5_letter 19 = .ok (.bipush (-2), 2) := by decide +kernel
theorem dX5_letter_21 : decode cX5_letter 21 = .ok (.ireturn, 1) := by decide +kernel
theorem dX5_letter_22 : decode cX5_letter 22 = .ok (.aload_n 0, 1) := by decide +kernel
theorem dX5_letter_23 : decode cX5_letter 23 = .ok (.getfield 10, 3) := by decide +kernel
theorem dX5_letter_26 : decode cX5_letter 26 = .ok (.getfield 49, 3) := by decide +kernel
theorem dX5_letter_29 : decode cX5_letter 29 = .ok (.bipush 24, 2) := by decide +kernel
theorem dX5_letter_31 : decode cX5_letter 31 = .ok (.if_icmp .lt 6, 3) := by decide +kernel
theorem dX5_letter_34 : decode cX5_letter 34 = .ok (.bipush (-4), 2) := by decide +kernel
theorem dX5_letter_36 : decode cX5_letter 36 = .ok (.ireturn, 1) := by decide +kernel
theorem dX5_letter_37 : decode cX5_letter 37 = .ok (.aload_n 0, 1) := by decide +kernel
theorem dX5_letter_38 : decode cX5_letter 38 = .ok (.getfield 10, 3) := by decide +kernel
theorem dX5_letter_41 : decode cX5_letter 41 = .ok (.iload_n 1, 1) := by decide +kernel
theorem dX5_letter_42 : decode cX5_letter 42 = .ok (.iload_n 2, 1) := by decide +kernel
theorem dX5_letter_43 : decode cX5_letter 43 = .ok (.invokevirtual 53, 3) := by decide +kernel
theorem dX5_letter_46 : decode cX5_letter 46 = .ok (.ireturn, 1) := by decide +kernel
set_option maxRecDepth 20000 in
theorem ggX5_misread_X5_isLetter : GoodIn wsX5_misread wsX5_isLetter := goodIn_r _ [6, 1, 7, 8, 5, 9, 25, 26, 27, 28, 29, 30, 31, 32, 33, 34, 35, 36, 37, 38, 39, 40] (by decide +kernel) (by decide +kernel)
set_option maxRecDepth 20000 in
theorem gX5_misread_X5_isLetter : GoodIn wsX5_misread (wsV RX5 57 RX5 yX5_isLetter wsX5_isLetter) := goodIn_app (goodIn_of _ (by decide +kernel)) ggX5_misread_X5_isLetter
set_option maxRecDepth 20000 in
theorem ggX5_misread_X5_isWithin : GoodIn wsX5_misread wsX5_isWithin := goodIn_r _ [9] (by decide +kernel) (by decide +kernel)
set_option maxRecDepth 20000 in
theorem gX5_misread_X5_isWithin : GoodIn wsX5_misread (va_wsS RX5 45 yX5_isWithin wsX5_isWithin) := goodIn_app (goodIn_of _ (by decide +kernel)) ggX5_misread_X5_isWithin
set_option maxRecDepth 20000 in
theorem ggX5_misread_X1_mark : GoodIn wsX5_misread wsX1_mark := goodIn_r _ [14, 15, 16, 31, 32, 33, 34, 35, 36, 37, 38, 39, 40] (by decide +kernel) (by decide +kernel)
set_option maxRecDepth 20000 in
theorem gX5_misread_X1_mark : GoodIn wsX5_misread (wsV RX5 60 RX1 yX1_mark wsX1_mark) := goodIn_app (goodIn_of _ (by decide +kernel)) ggX5_misread_X1_mark
set_option maxRecDepth 20000 in
theorem ggX5_misread_X1_countMisread : GoodIn wsX5_misread wsX1_countMisread := goodIn_r _ [20, 15, 21, 22, 23, 13, 24, 31, 32, 33, 34, 35, 36, 37, 38, 39, 40] (by decide +kernel) (by decide +kernel)
set_option maxRecDepth 20000 in
theorem gX5_misread_X1_countMisread : GoodIn wsX5_misread (wsV RX5 64 RX1 yX1_countMisread wsX1_countMisread) := goodIn_app (goodIn_of _ (by decide +kernel)) ggX5_misread_X1_countMisread
theorem dX5_misread_0 : decode cX5_misread 0 = .ok (.aload_n 0, 1) := by decide +kernel
theorem dX5_misread_1 : decode cX5_misread 1 = .ok (.iload_n 1, 1) := by decide +kernel
theorem dX5_misread_2 : decode cX5_misread 2 = .ok (.invokevirtual 57, 3) := by decide +kernel
theorem dX5_misread_5 : decode cX5_misread 5 = .ok (.ifCond .ne 5, 3) := by decide +kernel
theorem dX5_misread_8 : decode cX5_misread 8 = .ok (.iconst (-1), 1) := by decide +kernel
theorem dX5_misread_9 : decode cX5_misread 9 = .ok (.ireturn, 1) := by decide +kernel
theorem dX5_misread_10 : decode cX5_misread 10 = .ok (.iload_n 2, 1) := by decide +kernel
theorem dX5_misread_11 : decode cX5_misread 11 = .ok (.iconst 0, 1) := by decide +kernel
theorem dX5_misread_12 : decode cX5_misread 12 = .ok (.iconst 1, 1) := by decide +kernel
theorem dX5_misread_13 : decode cX5_misread 13 = .ok (.invokestatic 45, 3) := by decide +kernel
theorem dX5_misread_16 : decode cX5_misread 16 = .ok (.ifCond .ne 6, 3) := by decide +kernel
theorem dX5_misread_19 : decode cX5_misread 19 = .ok (.bipush (-2), 2) := by decide +kernel
theorem dX5_misread_21 : decode cX5_misread 21 = .ok (.ireturn, 1) := by decide +kernel
theorem dX5_misread_22 : decode cX5_misread 22 = .ok (.aload_n 0, 1) := by decide +kernel
theorem dX5_misread_23 : decode cX5_misread 23 = .ok (.getfield 10, 3) := by decide +kernel
theorem dX5_misread_26 : decode cX5_misread 26 = .ok (.iload_n 1, 1) := by decide +kernel
theorem dX5_misread_27 : decode cX5_misread 27 = .ok (.iload_n 2, 1) := by decide +kernel
theorem dX5_misread_28 : decode cX5_misread 28 = .ok (.invokevirtual 60, 3) := by decide +kernel
theorem dX5_misread_31 : decode cX5_misread 31 = .ok (.aload_n 0, 1) := by decide +kernel
theorem dX5_misread_32 : decode cX5_misread 32 = .ok (.getfield 10, 3) := by decide +kernel
theorem dX5_misread_35 : decode cX5_misread 35 = .ok (.invokevirtual 64, 3) := by decide +kernel
theorem dX5_misread_38 : decode cX5_misread 38 = .ok (.ireturn, 1) := by decide +kernel
set_option maxRecDepth 20000 in
theorem ggX5_drop_X5_isLetter : GoodIn wsX5_drop wsX5_isLetter := goodIn_r _ [6, 1, 7, 8, 5, 9, 20, 21, 22, 23, 24, 25, 26, 27, 28, 29, 30, 31, 32, 33, 34, 35] (by decide +kernel) (by decide +kernel)
set_option maxRecDepth 20000 in
theorem gX5_drop_X5_isLetter : GoodIn wsX5_drop (wsV RX5 57 RX5 yX5_isLetter wsX5_isLetter) := goodIn_app (goodIn_of _ (by decide +kernel)) ggX5_drop_X5_isLetter
set_option maxRecDepth 20000 in
theorem ggX5_drop_X1_remove : GoodIn wsX5_drop wsX1_remove := goodIn_r _ [14, 15, 16, 17, 18, 19, 26, 27, 28, 29, 30, 31, 32, 33, 34, 35] (by decide +kernel) (by decide +kernel)
set_option maxRecDepth 20000 in
theorem gX5_drop_X1_remove : GoodIn wsX5_drop (wsV RX5 68 RX1 yX1_remove wsX1_remove) := goodIn_app (goodIn_of _ (by decide +kernel)) ggX5_drop_X1_remove
theorem dX5_drop_0 : decode cX5_drop 0 = .ok (.aload_n 0, 1) := by decide +kernel
theorem dX5_drop_1 : decode cX5_drop 1 = .ok (.iload_n 1, 1) := by decide +kernel
theorem dX5_drop_2 : decode cX5_drop 2 = .ok (.invokevirtual 57, 3) := by decide +kernel
theorem dX5_drop_5 : decode cX5_drop 5 = .ok (.ifCond .ne 5, 3) := by decide +kernel
theorem dX5_drop_8 : decode cX5_drop 8 = .ok (.iconst (-1), 1) := by decide +kernel
theorem dX5_drop_9 : decode cX5_drop 9 = .ok (.ireturn, 1) := by decide +kernel
theorem dX5_drop_10 : decode cX5_drop 10 = .ok (.aload_n 0, 1) := by decide +kernel
theorem dX5_drop_11 : decode cX5_drop 11 = .ok (.getfield 10, 3) := by decide +kernel
theorem dX5_drop_14 : decode cX5_drop 14 = .ok (.iload_n 1, 1) := by decide +kernel
theorem dX5_drop_15 : decode cX5_drop 15 = .ok (.invokevirtual 68, 3) := by decide +kernel
theorem dX5_drop_18 : decode cX5_drop 18 = .ok (.aload_n 0, 1) := by decide +kernel
theorem dX5_drop_19 : decode cX5_drop 19 = .ok (.getfield 10, 3) := by decide +kernel
theorem dX5_drop_22 : decode cX5_drop 22 = .ok (.getfield 49, 3) := by decide +kernel
theorem dX5_drop_25 : decode cX5_drop 25 = .ok (.ireturn, 1) := by decide +kernel
set_option maxRecDepth 20000 in
theorem ggX5_change_X5_isPoint : GoodIn wsX5_change wsX5_isPoint := goodIn_r _ [5, 6, 7, 4, 8] (by decide +kernel) (by decide +kernel)
set_option maxRecDepth 20000 in
theorem gX5_change_X5_isPoint : GoodIn wsX5_change (va_wsS RX5 41 yX5_isPoint wsX5_isPoint) := goodIn_app (goodIn_of _ (by decide +kernel)) ggX5_change_X5_isPoint
set_option maxRecDepth 20000 in
theorem ggX5_change_X1_swap : GoodIn wsX5_change wsX1_swap := goodIn_r _ [13, 14, 15, 16, 23, 24, 25, 26, 27, 28, 29, 30, 31, 32] (by decide +kernel) (by decide +kernel)
set_option maxRecDepth 20000 in
theorem gX5_change_X1_swap : GoodIn wsX5_change (wsV RX5 72 RX1 yX1_swap wsX1_swap) := goodIn_app (goodIn_of _ (by decide +kernel)) ggX5_change_X1_swap
theorem dX5_change_0 : decode cX5_change 0 = .ok (.iload_n 1, 1) := by decide +kernel
theorem dX5_change_1 : decode cX5_change 1 = .ok (.invokestatic 41, 3) := by decide +kernel
theorem dX5_change_4 : decode cX5_change 4 = .ok (.ifCond .eq 10, 3) := by decide +kernel
theorem dX5_change_7 : decode cX5_change 7 = .ok (.iload_n 2, 1) := by decide +kernel
theorem dX5_change_8 : decode cX5_change 8 = .ok (.invokestatic 41, 3) := by decide +kernel
theorem dX5_change_11 : decode cX5_change 11 = .ok (.ifCond .ne 5, 3) := by decide +kernel
theorem dX5_change_14 : decode cX5_change 14 = .ok (.iconst (-1), 1) := by decide +kernel
theorem dX5_change_15 : decode cX5_change 15 = .ok (.ireturn, 1) := by decide +kernel
theorem dX5_change_16 : decode cX5_change 16 = .ok (.aload_n 0, 1) := by decide +kernel
theorem dX5_change_17 : decode cX5_change 17 = .ok (.getfield 10, 3) := by decide +kernel
theorem dX5_change_20 : decode cX5_change 20 = .ok (.iload_n 1, 1) := by decide +kernel
theorem dX5_change_21 : decode cX5_change 21 = .ok (.iload_n 2, 1) := by decide +kernel
theorem dX5_change_22 : decode cX5_change 22 = .ok (.invokevirtual 72, 3) := by decide +kernel
theorem dX5_change_25 : decode cX5_change 25 = .ok (.aload_n 0, 1) := by decide +kernel
theorem dX5_change_26 : decode cX5_change 26 = .ok (.getfield 10, 3) := by decide +kernel
theorem dX5_change_29 : decode cX5_change 29 = .ok (.getfield 75, 3) := by decide +kernel
theorem dX5_change_32 : decode cX5_change 32 = .ok (.iload_n 1, 1) := by decide +kernel
theorem dX5_change_33 : decode cX5_change 33 = .ok (.iaload, 1) := by decide +kernel
theorem dX5_change_34 : decode cX5_change 34 = .ok (.ireturn, 1) := by decide +kernel
set_option maxRecDepth 20000 in
theorem ggX5_walk_X5_isWithin : GoodIn wsX5_walk wsX5_isWithin := goodIn_r _ [5] (by decide +kernel) (by decide +kernel)
set_option maxRecDepth 20000 in
theorem gX5_walk_X5_isWithin : GoodIn wsX5_walk (va_wsS RX5 45 yX5_isWithin wsX5_isWithin) := goodIn_app (goodIn_of _ (by decide +kernel)) ggX5_walk_X5_isWithin
theorem dX5_walk_0 : decode cX5_walk 0 = .ok (.iload_n 1, 1) := by decide +kernel
theorem dX5_walk_1 : decode cX5_walk 1 = .ok (.iconst 0, 1) := by decide +kernel
theorem dX5_walk_2 : decode cX5_walk 2 = .ok (.bipush 9, 2) := by decide +kernel
theorem dX5_walk_4 : decode cX5_walk 4 = .ok (.invokestatic 45, 3) := by decide +kernel
theorem dX5_walk_7 : decode cX5_walk 7 = .ok (.ifCond .ne 6, 3) := by decide +kernel
theorem dX5_walk_10 : decode cX5_walk 10 = .ok (.bipush (-2), 2) := by decide +kernel
theorem dX5_walk_12 : decode cX5_walk 12 = .ok (.ireturn, 1) := by decide +kernel
theorem dX5_walk_13 : decode cX5_walk 13 = .ok (.aload_n 0, 1) := by decide +kernel
theorem dX5_walk_14 : decode cX5_walk 14 = .ok (.getfield 10, 3) := by decide +kernel
theorem dX5_walk_17 : decode cX5_walk 17 = .ok (.getfield 79, 3) := by decide +kernel
theorem dX5_walk_20 : decode cX5_walk 20 = .ok (.iload_n 1, 1) := by decide +kernel
theorem dX5_walk_21 : decode cX5_walk 21 = .ok (.iaload, 1) := by decide +kernel
theorem dX5_walk_22 : decode cX5_walk 22 = .ok (.ireturn, 1) := by decide +kernel
set_option maxRecDepth 20000 in
theorem ggX5_stackers_X5_isWithin : GoodIn wsX5_stackers wsX5_isWithin := goodIn_r _ [5] (by decide +kernel) (by decide +kernel)
set_option maxRecDepth 20000 in
theorem gX5_stackers_X5_isWithin : GoodIn wsX5_stackers (va_wsS RX5 45 yX5_isWithin wsX5_isWithin) := goodIn_app (goodIn_of _ (by decide +kernel)) ggX5_stackers_X5_isWithin
set_option maxRecDepth 20000 in
theorem ggX5_stackers_X1_setMany : GoodIn wsX5_stackers wsX1_setMany := goodIn_r _ [10, 11, 12, 19, 20, 21, 22, 23, 24, 25, 26, 27, 28] (by decide +kernel) (by decide +kernel)
set_option maxRecDepth 20000 in
theorem gX5_stackers_X1_setMany : GoodIn wsX5_stackers (wsV RX5 85 RX1 yX1_setMany wsX1_setMany) := goodIn_app (goodIn_of _ (by decide +kernel)) ggX5_stackers_X1_setMany
theorem dX5_stackers_0 : decode cX5_stackers 0 = .ok (.iload_n 1, 1) := by decide +kernel
theorem dX5_stackers_1 : decode cX5_stackers 1 = .ok (.iconst 2, 1) := by decide +kernel
theorem dX5_stackers_2 : decode cX5_stackers 2 = .ok (.iconst 4, 1) := by decide +kernel
theorem dX5_stackers_3 : decode cX5_stackers 3 = .ok (.invokestatic 45, 3) := by decide +kernel
theorem dX5_stackers_6 : decode cX5_stackers 6 = .ok (.ifCond .ne 6, 3) := by decide +kernel
theorem dX5_stackers_9 : decode cX5_stackers 9 = .ok (.bipush (-2), 2) := by decide +kernel
theorem dX5_stackers_11 : decode cX5_stackers 11 = .ok (.ireturn, 1) := by decide +kernel
theorem dX5_stackers_12 : decode cX5_stackers 12 = .ok (.aload_n 0, 1) := by decide +kernel
theorem dX5_stackers_13 : decode cX5_stackers 13 = .ok (.getfield 10, 3) := by decide +kernel
theorem dX5_stackers_16 : decode cX5_stackers 16 = .ok (.getfield 82, 3) := by decide +kernel
theorem dX5_stackers_19 : decode cX5_stackers 19 = .ok (.istore_n 2, 1) := by decide +kernel
theorem dX5_stackers_20 : decode cX5_stackers 20 = .ok (.aload_n 0, 1) := by decide +kernel
theorem dX5_stackers_21 : decode cX5_stackers 21 = .ok (.getfield 10, 3) := by decide +kernel
theorem dX5_stackers_24 : decode cX5_stackers 24 = .ok (.iload_n 1, 1) := by decide +kernel
theorem dX5_stackers_25 : decode cX5_stackers 25 = .ok (.invokevirtual 85, 3) := by decide +kernel
theorem dX5_stackers_28 : decode cX5_stackers 28 = .ok (.iload_n 2, 1) := by decide +kernel
theorem dX5_stackers_29 : decode cX5_stackers 29 = .ok (.ireturn, 1) := by decide +kernel
set_option maxRecDepth 20000 in
theorem ggX5_room_X5_isStacker : GoodIn wsX5_room wsX5_isStacker := goodIn_r _ [6, 1, 7, 8, 5, 9, 17, 18, 19, 20, 21, 22, 23, 24, 25, 26, 27, 28, 29, 30, 31, 32] (by decide +kernel) (by decide +kernel)
set_option maxRecDepth 20000 in
theorem gX5_room_X5_isStacker : GoodIn wsX5_room (wsV RX5 88 RX5 yX5_isStacker wsX5_isStacker) := goodIn_app (goodIn_of _ (by decide +kernel)) ggX5_room_X5_isStacker
set_option maxRecDepth 20000 in
theorem ggX5_room_X5_isWithin : GoodIn wsX5_room wsX5_isWithin := goodIn_r _ [9] (by decide +kernel) (by decide +kernel)
set_option maxRecDepth 20000 in
theorem gX5_room_X5_isWithin : GoodIn wsX5_room (va_wsS RX5 45 yX5_isWithin wsX5_isWithin) := goodIn_app (goodIn_of _ (by decide +kernel)) ggX5_room_X5_isWithin
set_option maxRecDepth 20000 in
theorem ggX5_room_X1_setRoom : GoodIn wsX5_room wsX1_setRoom := goodIn_r _ [14, 15, 16, 23, 24, 25, 26, 27, 28, 29, 30, 31, 32] (by decide +kernel) (by decide +kernel)
set_option maxRecDepth 20000 in
theorem gX5_room_X1_setRoom : GoodIn wsX5_room (wsV RX5 94 RX1 yX1_setRoom wsX1_setRoom) := goodIn_app (goodIn_of _ (by decide +kernel)) ggX5_room_X1_setRoom
theorem dX5_room_0 : decode cX5_room 0 = .ok (.aload_n 0, 1) := by decide +kernel
theorem dX5_room_1 : decode cX5_room 1 = .ok (.iload_n 1, 1) := by decide +kernel
theorem dX5_room_2 : decode cX5_room 2 = .ok (.invokevirtual 88, 3) := by decide +kernel
theorem dX5_room_5 : decode cX5_room 5 = .ok (.ifCond .ne 5, 3) := by decide +kernel
theorem dX5_room_8 : decode cX5_room 8 = .ok (.iconst (-1), 1) := by decide +kernel
theorem dX5_room_9 : decode cX5_room 9 = .ok (.ireturn, 1) := by decide +kernel
theorem dX5_room_10 : decode cX5_room 10 = .ok (.iload_n 2, 1) := by decide +kernel
theorem dX5_room_11 : decode cX5_room 11 = .ok (.iconst 1, 1) := by decide +kernel
theorem dX5_room_12 : decode cX5_room 12 = .ok (.bipush 99, 2) := by decide +kernel
theorem dX5_room_14 : decode cX5_room 14 = .ok (.invokestatic 45, 3) := by decide +kernel
theorem dX5_room_17 : decode cX5_room 17 = .ok (.ifCond .ne 6, 3) := by decide +kernel
theorem dX5_room_20 : decode cX5_room 20 = .ok (.bipush (-2), 2) := by decide +kernel
theorem dX5_room_22 : decode cX5_room 22 = .ok (.ireturn, 1) := by decide +kernel
theorem dX5_room_23 : decode cX5_room 23 = .ok (.aload_n 0, 1) := by decide +kernel
theorem dX5_room_24 : decode cX5_room 24 = .ok (.getfield 10, 3) := by decide +kernel
theorem dX5_room_27 : decode cX5_room 27 = .ok (.getfield 91, 3) := by decide +kernel
theorem dX5_room_30 : decode cX5_room 30 = .ok (.iload_n 1, 1) := by decide +kernel
theorem dX5_room_31 : decode cX5_room 31 = .ok (.iaload, 1) := by decide +kernel
theorem dX5_room_32 : decode cX5_room 32 = .ok (.istore_n 3, 1) := by decide +kernel
theorem dX5_room_33 : decode cX5_room 33 = .ok (.aload_n 0, 1) := by decide +kernel
theorem dX5_room_34 : decode cX5_room 34 = .ok (.getfield 10, 3) := by decide +kernel
theorem dX5_room_37 : decode cX5_room 37 = .ok (.iload_n 1, 1) := by decide +kernel
theorem dX5_room_38 : decode cX5_room 38 = .ok (.iload_n 2, 1) := by decide +kernel
theorem dX5_room_39 : decode cX5_room 39 = .ok (.invokevirtual 94, 3) := by decide +kernel
theorem dX5_room_42 : decode cX5_room 42 = .ok (.iload_n 3, 1) := by decide +kernel
theorem dX5_room_43 : decode cX5_room 43 = .ok (.ireturn, 1) := by decide +kernel
set_option maxRecDepth 20000 in
theorem ggX5_code_X5_isPoint : GoodIn wsX5_code wsX5_isPoint := goodIn_r _ [5, 6, 7, 4, 8] (by decide +kernel) (by decide +kernel)
set_option maxRecDepth 20000 in
theorem gX5_code_X5_isPoint : GoodIn wsX5_code (va_wsS RX5 41 yX5_isPoint wsX5_isPoint) := goodIn_app (goodIn_of _ (by decide +kernel)) ggX5_code_X5_isPoint
set_option maxRecDepth 20000 in
theorem ggX5_code_X5_isWithin : GoodIn wsX5_code wsX5_isWithin := goodIn_r _ [8] (by decide +kernel) (by decide +kernel)
set_option maxRecDepth 20000 in
theorem gX5_code_X5_isWithin : GoodIn wsX5_code (va_wsS RX5 45 yX5_isWithin wsX5_isWithin) := goodIn_app (goodIn_of _ (by decide +kernel)) ggX5_code_X5_isWithin
theorem dX5_code_0 : decode cX5_code 0 = .ok (.iload_n 1, 1) := by decide +kernel
theorem dX5_code_1 : decode cX5_code 1 = .ok (.invokestatic 41, 3) := by decide +kernel
theorem dX5_code_4 : decode cX5_code 4 = .ok (.ifCond .ne 5, 3) := by decide +kernel
theorem dX5_code_7 : decode cX5_code 7 = .ok (.iconst (-1), 1) := by decide +kernel
theorem dX5_code_8 : decode cX5_code 8 = .ok (.ireturn, 1) := by decide +kernel
theorem dX5_code_9 : decode cX5_code 9 = .ok (.iload_n 2, 1) := by decide +kernel
theorem dX5_code_10 : decode cX5_code 10 = .ok (.iconst 0, 1) := by decide +kernel
theorem dX5_code_11 : decode cX5_code 11 = .ok (.bipush 63, 2) := by decide +kernel
theorem dX5_code_13 : decode cX5_code 13 = .ok (.invokestatic 45, 3) := by decide +kernel
theorem dX5_code_16 : decode cX5_code 16 = .ok (.ifCond .ne 6, 3) := by decide +kernel
theorem dX5_code_19 : decode cX5_code 19 = .ok (.bipush (-2), 2) := by decide +kernel
theorem dX5_code_21 : decode cX5_code 21 = .ok (.ireturn, 1) := by decide +kernel
theorem dX5_code_22 : decode cX5_code 22 = .ok (.aload_n 0, 1) := by decide +kernel
theorem dX5_code_23 : decode cX5_code 23 = .ok (.getfield 10, 3) := by decide +kernel
theorem dX5_code_26 : decode cX5_code 26 = .ok (.getfield 97, 3) := by decide +kernel
theorem dX5_code_29 : decode cX5_code 29 = .ok (.iload_n 1, 1) := by decide +kernel
theorem dX5_code_30 : decode cX5_code 30 = .ok (.iaload, 1) := by decide +kernel
theorem dX5_code_31 : decode cX5_code 31 = .ok (.istore_n 3, 1) := by decide +kernel
theorem dX5_code_32 : decode cX5_code 32 = .ok (.aload_n 0, 1) := by decide +kernel
theorem dX5_code_33 : decode cX5_code 33 = .ok (.getfield 10, 3) := by decide +kernel
theorem dX5_code_36 : decode cX5_code 36 = .ok (.getfield 97, 3) := by decide +kernel
theorem dX5_code_39 : decode cX5_code 39 = .ok (.iload_n 1, 1) := by decide +kernel
theorem dX5_code_40 : decode cX5_code 40 = .ok (.iload_n 2, 1) := by decide +kernel
theorem dX5_code_41 : decode cX5_code 41 = .ok (.iastore, 1) := by decide +kernel
theorem dX5_code_42 : decode cX5_code 42 = .ok (.iload_n 3, 1) := by decide +kernel
theorem dX5_code_43 : decode cX5_code 43 = .ok (.ireturn, 1) := by decide +kernel
set_option maxRecDepth 20000 in
theorem ggX5_dense_X1_codeDensely : GoodIn wsX5_dense wsX1_codeDensely := goodIn_r _ [6, 7, 8, 9, 10, 11, 5, 12, 13, 14, 21, 22, 23, 24, 25, 26, 27, 28, 29, 30] (by decide +kernel) (by decide +kernel)
set_option maxRecDepth 20000 in
theorem gX5_dense_X1_codeDensely : GoodIn wsX5_dense (wsV RX5 100 RX1 yX1_codeDensely wsX1_codeDensely) := goodIn_app (goodIn_of _ (by decide +kernel)) ggX5_dense_X1_codeDensely
theorem dX5_dense_0 : decode cX5_dense 0 = .ok (.aload_n 0, 1) := by decide +kernel
theorem dX5_dense_1 : decode cX5_dense 1 = .ok (.getfield 10, 3) := by decide +kernel
theorem dX5_dense_4 : decode cX5_dense 4 = .ok (.invokevirtual 100, 3) := by decide +kernel
theorem dX5_dense_7 : decode cX5_dense 7 = .ok (.ireturn, 1) := by decide +kernel
set_option maxRecDepth 20000 in
theorem ggX5_of_X5_isLetter : GoodIn wsX5_of wsX5_isLetter := goodIn_r _ [6, 1, 7, 8, 5, 9, 10, 11, 12, 13, 14, 15, 16, 17, 18, 19, 20, 21, 22, 23, 24, 25] (by decide +kernel) (by decide +kernel)
set_option maxRecDepth 20000 in
theorem gX5_of_X5_isLetter : GoodIn wsX5_of (wsV RX5 57 RX5 yX5_isLetter wsX5_isLetter) := goodIn_app (goodIn_of _ (by decide +kernel)) ggX5_of_X5_isLetter
theorem dX5_of_0 : decode cX5_of 0 = .ok (.aload_n 0, 1) := by decide +kernel
theorem dX5_of_1 : decode cX5_of 1 = .ok (.iload_n 1, 1) := by decide +kernel
theorem dX5_of_2 : decode cX5_of 2 = .ok (.invokevirtual 57, 3) := by decide +kernel
theorem dX5_of_5 : decode cX5_of 5 = .ok (.ifCond .ne 5, 3) := by decide +kernel
theorem dX5_of_8 : decode cX5_of 8 = .ok (.iconst (-1), 1) := by decide +kernel
theorem dX5_of_9 : decode cX5_of 9 = .ok (.ireturn, 1) := by decide +kernel
theorem dX5_of_10 : decode cX5_of 10 = .ok (.iload_n 2, 1) := by decide +kernel
theorem dX5_of_11 : decode cX5_of 11 = .ok (.tableswitch 55 0 2 #[25, 35, 45], 25) := by decide +kernel
theorem dX5_of_36 : decode cX5_of 36 = .ok (.aload_n 0, 1) := by decide +kernel
theorem dX5_of_37 : decode cX5_of 37 = .ok (.getfield 10, 3) := by decide +kernel
theorem dX5_of_40 : decode cX5_of 40 = .ok (.getfield 103, 3) := by decide +kernel
theorem dX5_of_43 : decode cX5_of 43 = .ok (.iload_n 1, 1) := by decide +kernel
theorem dX5_of_44 : decode cX5_of 44 = .ok (.iaload, 1) := by decide +kernel
theorem dX5_of_45 : decode cX5_of 45 = .ok (.ireturn, 1) := by decide +kernel
theorem dX5_of_46 : decode cX5_of 46 = .ok (.aload_n 0, 1) := by decide +kernel
theorem dX5_of_47 : decode cX5_of 47 = .ok (.getfield 10, 3) := by decide +kernel
theorem dX5_of_50 : decode cX5_of 50 = .ok (.getfield 106, 3) := by decide +kernel
theorem dX5_of_53 : decode cX5_of 53 = .ok (.iload_n 1, 1) := by decide +kernel
theorem dX5_of_54 : decode cX5_of 54 = .ok (.iaload, 1) := by decide +kernel
theorem dX5_of_55 : decode cX5_of 55 = .ok (.ireturn, 1) := by decide +kernel
theorem dX5_of_56 : decode cX5_of 56 = .ok (.aload_n 0, 1) := by decide +kernel
theorem dX5_of_57 : decode cX5_of 57 = .ok (.getfield 10, 3) := by decide +kernel
theorem dX5_of_60 : decode cX5_of 60 = .ok (.getfield 109, 3) := by decide +kernel
theorem dX5_of_63 : decode cX5_of 63 = .ok (.iload_n 1, 1) := by decide +kernel
theorem dX5_of_64 : decode cX5_of 64 = .ok (.iaload, 1) := by decide +kernel
theorem dX5_of_65 : decode cX5_of 65 = .ok (.ireturn, 1) := by decide +kernel
theorem dX5_of_66 : decode cX5_of 66 = .ok (.bipush (-2), 2) := by decide +kernel
theorem dX5_of_68 : decode cX5_of 68 = .ok (.ireturn, 1) := by decide +kernel
set_option maxRecDepth 20000 in
theorem ggX5_run_X5_isPasses : GoodIn wsX5_run wsX5_isPasses := goodIn_r _ [6, 7, 8, 5, 9] (by decide +kernel) (by decide +kernel)
set_option maxRecDepth 20000 in
theorem gX5_run_X5_isPasses : GoodIn wsX5_run (va_wsS RX5 112 yX5_isPasses wsX5_isPasses) := goodIn_app (goodIn_of _ (by decide +kernel)) ggX5_run_X5_isPasses
set_option maxRecDepth 20000 in
theorem ggX5_run_X5_isWithin : GoodIn wsX5_run wsX5_isWithin := goodIn_r _ [9] (by decide +kernel) (by decide +kernel)
set_option maxRecDepth 20000 in
theorem gX5_run_X5_isWithin : GoodIn wsX5_run (va_wsS RX5 45 yX5_isWithin wsX5_isWithin) := goodIn_app (goodIn_of _ (by decide +kernel)) ggX5_run_X5_isWithin
set_option maxRecDepth 20000 in
theorem ggX5_run_X2_perform : GoodIn wsX5_run wsX2_perform := goodIn_r _ [14, 15, 16, 17, 13, 18, 19, 20, 21, 22, 23, 24, 25, 26, 27, 28, 29, 30, 31, 5, 32, 33, 34, 35, 36, 37, 38, 39, 40, 41, 42, 43, 44, 45, 46, 47, 48, 49, 50, 51, 66, 67, 68, 69, 70, 71, 72, 73, 74, 75, 76, 77, 78, 79, 80, 81, 82] (by decide +kernel) (by decide +kernel)
set_option maxRecDepth 20000 in
theorem gX5_run_X2_perform : GoodIn wsX5_run (wsV RX5 115 RX2 yX2_perform wsX2_perform) := goodIn_app (goodIn_of _ (by decide +kernel)) ggX5_run_X2_perform
set_option maxRecDepth 20000 in
theorem ggX5_run_X2_countWrong : GoodIn wsX5_run wsX2_countWrong := goodIn_r _ [55, 19, 25, 76, 77, 78, 79, 80, 81, 82, 66, 67, 68, 69, 70, 71, 72, 73, 74, 75] (by decide +kernel) (by decide +kernel)
set_option maxRecDepth 20000 in
theorem gX5_run_X2_countWrong : GoodIn wsX5_run (wsV RX5 122 RX2 yX2_countWrong wsX2_countWrong) := goodIn_app (goodIn_of _ (by decide +kernel)) ggX5_run_X2_countWrong
set_option maxRecDepth 20000 in
theorem ggX5_run_X2_countSpilledAt : GoodIn wsX5_run wsX2_countSpilledAt := goodIn_r _ [59, 24, 66, 67, 68, 69, 70, 71, 72, 73, 74, 75, 76, 77, 78, 79, 80, 81, 82] (by decide +kernel) (by decide +kernel)
set_option maxRecDepth 20000 in
theorem gX5_run_X2_countSpilledAt : GoodIn wsX5_run (wsV RX5 126 RX2 yX2_countSpilledAt wsX2_countSpilledAt) := goodIn_app (goodIn_of _ (by decide +kernel)) ggX5_run_X2_countSpilledAt
theorem dX5_run_0 : decode cX5_run 0 = .ok (.iload_n 1, 1) := by decide +kernel
theorem dX5_run_1 : decode cX5_run 1 = .ok (.invokestatic 112, 3) := by decide +kernel
theorem dX5_run_4 : decode cX5_run 4 = .ok (.ifCond .eq 12, 3) := by decide +kernel
theorem dX5_run_7 : decode cX5_run 7 = .ok (.iload_n 2, 1) := by decide +kernel
theorem dX5_run_8 : decode cX5_run 8 = .ok (.iconst 0, 1) := by decide +kernel
theorem dX5_run_9 : decode cX5_run 9 = .ok (.iconst 3, 1) := by decide +kernel
theorem dX5_run_10 : decode cX5_run 10 = .ok (.invokestatic 45, 3) := by decide +kernel
theorem dX5_run_13 : decode cX5_run 13 = .ok (.ifCond .ne 6, 3) := by decide +kernel
theorem dX5_run_16 : decode cX5_run 16 = .ok (.bipush (-2), 2) := by decide +kernel
theorem dX5_run_18 : decode cX5_run 18 = .ok (.ireturn, 1) := by decide +kernel
theorem dX5_run_19 : decode cX5_run 19 = .ok (.aload_n 0, 1) := by decide +kernel
theorem dX5_run_20 : decode cX5_run 20 = .ok (.getfield 23, 3) := by decide +kernel
theorem dX5_run_23 : decode cX5_run 23 = .ok (.aload_n 0, 1) := by decide +kernel
theorem dX5_run_24 : decode cX5_run 24 = .ok (.getfield 10, 3) := by decide +kernel
theorem dX5_run_27 : decode cX5_run 27 = .ok (.aload_n 0, 1) := by decide +kernel
theorem dX5_run_28 : decode cX5_run 28 = .ok (.getfield 10, 3) := by decide +kernel
theorem dX5_run_31 : decode cX5_run 31 = .ok (.getfield 97, 3) := by decide +kernel
theorem dX5_run_34 : decode cX5_run 34 = .ok (.iload_n 1, 1) := by decide +kernel
theorem dX5_run_35 : decode cX5_run 35 = .ok (.invokevirtual 115, 3) := by decide +kernel
theorem dX5_run_38 : decode cX5_run 38 = .ok (.iload_n 2, 1) := by decide +kernel
theorem dX5_run_39 : decode cX5_run 39 = .ok (.tableswitch 61 0 2 #[25, 33, 49], 25) := by decide +kernel
theorem dX5_run_64 : decode cX5_run 64 = .ok (.aload_n 0, 1) := by decide +kernel
theorem dX5_run_65 : decode cX5_run 65 = .ok (.getfield 23, 3) := by decide +kernel
theorem dX5_run_68 : decode cX5_run 68 = .ok (.getfield 119, 3) := by decide +kernel
theorem dX5_run_71 : decode cX5_run 71 = .ok (.ireturn, 1) := by decide +kernel
theorem dX5_run_72 : decode cX5_run 72 = .ok (.aload_n 0, 1) := by decide +kernel
theorem dX5_run_73 : decode cX5_run 73 = .ok (.getfield 10, 3) := by decide +kernel
theorem dX5_run_76 : decode cX5_run 76 = .ok (.getfield 49, 3) := by decide +kernel
theorem dX5_run_79 : decode cX5_run 79 = .ok (.aload_n 0, 1) := by decide +kernel
theorem dX5_run_80 : decode cX5_run 80 = .ok (.getfield 23, 3) := by decide +kernel
theorem dX5_run_83 : decode cX5_run 83 = .ok (.getfield 119, 3) := by decide +kernel
theorem dX5_run_86 : decode cX5_run 86 = .ok (.isub, 1) := by decide +kernel
theorem dX5_run_87 : decode cX5_run 87 = .ok (.ireturn, 1) := by decide +kernel
theorem dX5_run_88 : decode cX5_run 88 = .ok (.aload_n 0, 1) := by decide +kernel
theorem dX5_run_89 : decode cX5_run 89 = .ok (.getfield 23, 3) := by decide +kernel
theorem dX5_run_92 : decode cX5_run 92 = .ok (.aload_n 0, 1) := by decide +kernel
theorem dX5_run_93 : decode cX5_run 93 = .ok (.getfield 10, 3) := by decide +kernel
theorem dX5_run_96 : decode cX5_run 96 = .ok (.invokevirtual 122, 3) := by decide +kernel
theorem dX5_run_99 : decode cX5_run 99 = .ok (.ireturn, 1) := by decide +kernel
theorem dX5_run_100 : decode cX5_run 100 = .ok (.aload_n 0, 1) := by decide +kernel
theorem dX5_run_101 : decode cX5_run 101 = .ok (.getfield 23, 3) := by decide +kernel
theorem dX5_run_104 : decode cX5_run 104 = .ok (.aload_n 0, 1) := by decide +kernel
theorem dX5_run_105 : decode cX5_run 105 = .ok (.getfield 10, 3) := by decide +kernel
theorem dX5_run_108 : decode cX5_run 108 = .ok (.iload_n 1, 1) := by decide +kernel
theorem dX5_run_109 : decode cX5_run 109 = .ok (.invokevirtual 126, 3) := by decide +kernel
theorem dX5_run_112 : decode cX5_run 112 = .ok (.ireturn, 1) := by decide +kernel
set_option maxRecDepth 20000 in
theorem ggX5_out_X5_isPasses : GoodIn wsX5_out wsX5_isPasses := goodIn_r _ [6, 7, 8, 5, 9] (by decide +kernel) (by decide +kernel)
set_option maxRecDepth 20000 in
theorem gX5_out_X5_isPasses : GoodIn wsX5_out (va_wsS RX5 112 yX5_isPasses wsX5_isPasses) := goodIn_app (goodIn_of _ (by decide +kernel)) ggX5_out_X5_isPasses
set_option maxRecDepth 20000 in
theorem ggX5_out_X2_perform : GoodIn wsX5_out wsX2_perform := goodIn_r _ [14, 15, 16, 17, 13, 18, 19, 20, 21, 22, 23, 24, 25, 26, 27, 28, 29, 30, 31, 5, 32, 33, 34, 35, 36, 37, 38, 39, 40, 41, 42, 43, 44, 45, 46, 47, 48, 49, 50, 51, 58, 59, 60, 61, 62, 63, 64, 65, 66, 67, 68, 69, 70, 71, 72, 73, 74] (by decide +kernel) (by decide +kernel)
set_option maxRecDepth 20000 in
theorem gX5_out_X2_perform : GoodIn wsX5_out (wsV RX5 115 RX2 yX2_perform wsX2_perform) := goodIn_app (goodIn_of _ (by decide +kernel)) ggX5_out_X2_perform
set_option maxRecDepth 20000 in
theorem ggX5_out_X5_isWithin : GoodIn wsX5_out wsX5_isWithin := goodIn_r _ [9] (by decide +kernel) (by decide +kernel)
set_option maxRecDepth 20000 in
theorem gX5_out_X5_isWithin : GoodIn wsX5_out (va_wsS RX5 45 yX5_isWithin wsX5_isWithin) := goodIn_app (goodIn_of _ (by decide +kernel)) ggX5_out_X5_isWithin
theorem dX5_out_0 : decode cX5_out 0 = .ok (.iload_n 1, 1) := by decide +kernel
theorem dX5_out_1 : decode cX5_out 1 = .ok (.invokestatic 112, 3) := by decide +kernel
theorem dX5_out_4 : decode cX5_out 4 = .ok (.ifCond .ne 6, 3) := by decide +kernel
theorem dX5_out_7 : decode cX5_out 7 = .ok (.bipush (-2), 2) := by decide +kernel
theorem dX5_out_9 : decode cX5_out 9 = .ok (.ireturn, 1) := by decide +kernel
theorem dX5_out_10 : decode cX5_out 10 = .ok (.aload_n 0, 1) := by decide +kernel
theorem dX5_out_11 : decode cX5_out 11 = .ok (.getfield 23, 3) := by decide +kernel
theorem dX5_out_14 : decode cX5_out 14 = .ok (.aload_n 0, 1) := by decide +kernel
theorem dX5_out_15 : decode cX5_out 15 = .ok (.getfield 10, 3) := by decide +kernel
theorem dX5_out_18 : decode cX5_out 18 = .ok (.aload_n 0, 1) := by decide +kernel
theorem dX5_out_19 : decode cX5_out 19 = .ok (.getfield 10, 3) := by decide +kernel
theorem dX5_out_22 : decode cX5_out 22 = .ok (.getfield 97, 3) := by decide +kernel
theorem dX5_out_25 : decode cX5_out 25 = .ok (.iload_n 1, 1) := by decide +kernel
theorem dX5_out_26 : decode cX5_out 26 = .ok (.invokevirtual 115, 3) := by decide +kernel
theorem dX5_out_29 : decode cX5_out 29 = .ok (.iload_n 2, 1) := by decide +kernel
theorem dX5_out_30 : decode cX5_out 30 = .ok (.iconst 0, 1) := by decide +kernel
theorem dX5_out_31 : decode cX5_out 31 = .ok (.aload_n 0, 1) := by decide +kernel
theorem dX5_out_32 : decode cX5_out 32 = .ok (.getfield 23, 3) := by decide +kernel
theorem dX5_out_35 : decode cX5_out 35 = .ok (.getfield 119, 3) := by decide +kernel
theorem dX5_out_38 : decode cX5_out 38 = .ok (.iconst 1, 1) := by decide +kernel
theorem dX5_out_39 : decode cX5_out 39 = .ok (.isub, 1) := by decide +kernel
theorem dX5_out_40 : decode cX5_out 40 = .ok (.invokestatic 45, 3) := by decide +kernel
theorem dX5_out_43 : decode cX5_out 43 = .ok (.ifCond .eq 15, 3) := by decide +kernel
theorem dX5_out_46 : decode cX5_out 46 = .ok (.aload_n 0, 1) := by decide +kernel
theorem dX5_out_47 : decode cX5_out 47 = .ok (.getfield 23, 3) := by decide +kernel
theorem dX5_out_50 : decode cX5_out 50 = .ok (.getfield 130, 3) := by decide +kernel
theorem dX5_out_53 : decode cX5_out 53 = .ok (.iload_n 2, 1) := by decide +kernel
theorem dX5_out_54 : decode cX5_out 54 = .ok (.iaload, 1) := by decide +kernel
theorem dX5_out_55 : decode cX5_out 55 = .ok (.goto 5, 3) := by decide +kernel
theorem dX5_out_58 : decode cX5_out 58 = .ok (.bipush (-6), 2) := by decide +kernel
theorem dX5_out_60 : decode cX5_out 60 = .ok (.ireturn, 1) := by decide +kernel
set_option maxRecDepth 20000 in
theorem ggX5_spilled_X5_isPasses : GoodIn wsX5_spilled wsX5_isPasses := goodIn_r _ [6, 7, 8, 5, 9] (by decide +kernel) (by decide +kernel)
set_option maxRecDepth 20000 in
theorem gX5_spilled_X5_isPasses : GoodIn wsX5_spilled (va_wsS RX5 112 yX5_isPasses wsX5_isPasses) := goodIn_app (goodIn_of _ (by decide +kernel)) ggX5_spilled_X5_isPasses
set_option maxRecDepth 20000 in
theorem ggX5_spilled_X5_isLetter : GoodIn wsX5_spilled wsX5_isLetter := goodIn_r _ [13, 2, 7, 8, 5, 9, 56, 57, 58, 59, 60, 61, 62, 63, 64, 65, 66, 67, 68, 69, 70, 71] (by decide +kernel) (by decide +kernel)
set_option maxRecDepth 20000 in
theorem gX5_spilled_X5_isLetter : GoodIn wsX5_spilled (wsV RX5 57 RX5 yX5_isLetter wsX5_isLetter) := goodIn_app (goodIn_of _ (by decide +kernel)) ggX5_spilled_X5_isLetter
set_option maxRecDepth 20000 in
theorem ggX5_spilled_X2_perform : GoodIn wsX5_spilled wsX2_perform := goodIn_r _ [18, 19, 20, 21, 17, 22, 23, 24, 25, 26, 27, 28, 29, 30, 31, 32, 33, 34, 35, 5, 36, 37, 38, 39, 40, 41, 42, 43, 44, 45, 46, 47, 48, 49, 50, 51, 52, 53, 54, 55, 62, 63, 64, 65, 66, 67, 68, 69, 70, 71, 72, 73, 74, 75, 76, 77, 78] (by decide +kernel) (by decide +kernel)
set_option maxRecDepth 20000 in
theorem gX5_spilled_X2_perform : GoodIn wsX5_spilled (wsV RX5 115 RX2 yX2_perform wsX2_perform) := goodIn_app (goodIn_of _ (by decide +kernel)) ggX5_spilled_X2_perform
theorem dX5_spilled_0 : decode cX5_spilled 0 = .ok (.iload_n 1, 1) := by decide +kernel
theorem dX5_spilled_1 : decode cX5_spilled 1 = .ok (.invokestatic 112, 3) := by decide +kernel
theorem dX5_spilled_4 : decode cX5_spilled 4 = .ok (.ifCond .ne 6, 3) := by decide +kernel
theorem dX5_spilled_7 : decode cX5_spilled 7 = .ok (.bipush (-2), 2) := by decide +kernel
theorem dX5_spilled_9 : decode cX5_spilled 9 = .ok (.ireturn, 1) := by decide +kernel
theorem dX5_spilled_10 : decode cX5_spilled 10 = .ok (.aload_n 0, 1) := by decide +kernel
theorem dX5_spilled_11 : decode cX5_spilled 11 = .ok (.iload_n 2, 1) := by decide +kernel
theorem dX5_spilled_12 : decode cX5_spilled 12 = .ok (.invokevirtual 57, 3) := by decide +kernel
theorem dX5_spilled_15 : decode cX5_spilled 15 = .ok (.ifCond .ne 5, 3) := by decide +kernel
theorem dX5_spilled_18 : decode cX5_spilled 18 = .ok (.iconst (-1), 1) := by decide +kernel
theorem dX5_spilled_19 : decode cX5_spilled 19 = .ok (.ireturn, 1) := by decide +kernel
theorem dX5_spilled_20 : decode cX5_spilled 20 = .ok (.aload_n 0, 1) := by decide +kernel
theorem dX5_spilled_21 : decode cX5_spilled 21 = .ok (.getfield 23, 3) := by decide +kernel
theorem dX5_spilled_24 : decode cX5_spilled 24 = .ok (.aload_n 0, 1) := by decide +kernel
theorem dX5_spilled_25 : decode cX5_spilled 25 = .ok (.getfield 10, 3) := by decide +kernel
theorem dX5_spilled_28 : decode cX5_spilled 28 = .ok (.aload_n 0, 1) := by decide +kernel
theorem dX5_spilled_29 : decode cX5_spilled 29 = .ok (.getfield 10, 3) := by decide +kernel
theorem dX5_spilled_32 : decode cX5_spilled 32 = .ok (.getfield 97, 3) := by decide +kernel
theorem dX5_spilled_35 : decode cX5_spilled 35 = .ok (.iload_n 1, 1) := by decide +kernel
theorem dX5_spilled_36 : decode cX5_spilled 36 = .ok (.invokevirtual 115, 3) := by decide +kernel
theorem dX5_spilled_39 : decode cX5_spilled 39 = .ok (.aload_n 0, 1) := by decide +kernel
theorem dX5_spilled_40 : decode cX5_spilled 40 = .ok (.getfield 23, 3) := by decide +kernel
theorem dX5_spilled_43 : decode cX5_spilled 43 = .ok (.getfield 131, 3) := by decide +kernel
theorem dX5_spilled_46 : decode cX5_spilled 46 = .ok (.iload_n 2, 1) := by decide +kernel
theorem dX5_spilled_47 : decode cX5_spilled 47 = .ok (.iaload, 1) := by decide +kernel
theorem dX5_spilled_48 : decode cX5_spilled 48 = .ok (.ireturn, 1) := by decide +kernel
set_option maxRecDepth 20000 in
theorem ggX5_load_X5_isPasses : GoodIn wsX5_load wsX5_isPasses := goodIn_r _ [6, 7, 8, 5, 9] (by decide +kernel) (by decide +kernel)
set_option maxRecDepth 20000 in
theorem gX5_load_X5_isPasses : GoodIn wsX5_load (va_wsS RX5 112 yX5_isPasses wsX5_isPasses) := goodIn_app (goodIn_of _ (by decide +kernel)) ggX5_load_X5_isPasses
set_option maxRecDepth 20000 in
theorem ggX5_load_X5_isStacker : GoodIn wsX5_load wsX5_isStacker := goodIn_r _ [13, 2, 7, 8, 5, 9, 56, 57, 58, 59, 60, 61, 62, 63, 64, 65, 66, 67, 68, 69, 70, 71] (by decide +kernel) (by decide +kernel)
set_option maxRecDepth 20000 in
theorem gX5_load_X5_isStacker : GoodIn wsX5_load (wsV RX5 88 RX5 yX5_isStacker wsX5_isStacker) := goodIn_app (goodIn_of _ (by decide +kernel)) ggX5_load_X5_isStacker
set_option maxRecDepth 20000 in
theorem ggX5_load_X2_perform : GoodIn wsX5_load wsX2_perform := goodIn_r _ [18, 19, 20, 21, 17, 22, 23, 24, 25, 26, 27, 28, 29, 30, 31, 32, 33, 34, 35, 5, 36, 37, 38, 39, 40, 41, 42, 43, 44, 45, 46, 47, 48, 49, 50, 51, 52, 53, 54, 55, 62, 63, 64, 65, 66, 67, 68, 69, 70, 71, 72, 73, 74, 75, 76, 77, 78] (by decide +kernel) (by decide +kernel)
set_option maxRecDepth 20000 in
theorem gX5_load_X2_perform : GoodIn wsX5_load (wsV RX5 115 RX2 yX2_perform wsX2_perform) := goodIn_app (goodIn_of _ (by decide +kernel)) ggX5_load_X2_perform
theorem dX5_load_0 : decode cX5_load 0 = .ok (.iload_n 1, 1) := by decide +kernel
theorem dX5_load_1 : decode cX5_load 1 = .ok (.invokestatic 112, 3) := by decide +kernel
theorem dX5_load_4 : decode cX5_load 4 = .ok (.ifCond .ne 6, 3) := by decide +kernel
theorem dX5_load_7 : decode cX5_load 7 = .ok (.bipush (-2), 2) := by decide +kernel
theorem dX5_load_9 : decode cX5_load 9 = .ok (.ireturn, 1) := by decide +kernel
theorem dX5_load_10 : decode cX5_load 10 = .ok (.aload_n 0, 1) := by decide +kernel
theorem dX5_load_11 : decode cX5_load 11 = .ok (.iload_n 2, 1) := by decide +kernel
theorem dX5_load_12 : decode cX5_load 12 = .ok (.invokevirtual 88, 3) := by decide +kernel
theorem dX5_load_15 : decode cX5_load 15 = .ok (.ifCond .ne 5, 3) := by decide +kernel
theorem dX5_load_18 : decode cX5_load 18 = .ok (.iconst (-1), 1) := by decide +kernel
theorem dX5_load_19 : decode cX5_load 19 = .ok (.ireturn, 1) := by decide +kernel
theorem dX5_load_20 : decode cX5_load 20 = .ok (.aload_n 0, 1) := by decide +kernel
theorem dX5_load_21 : decode cX5_load 21 = .ok (.getfield 23, 3) := by decide +kernel
theorem dX5_load_24 : decode cX5_load 24 = .ok (.aload_n 0, 1) := by decide +kernel
theorem dX5_load_25 : decode cX5_load 25 = .ok (.getfield 10, 3) := by decide +kernel
theorem dX5_load_28 : decode cX5_load 28 = .ok (.aload_n 0, 1) := by decide +kernel
theorem dX5_load_29 : decode cX5_load 29 = .ok (.getfield 10, 3) := by decide +kernel
theorem dX5_load_32 : decode cX5_load 32 = .ok (.getfield 97, 3) := by decide +kernel
theorem dX5_load_35 : decode cX5_load 35 = .ok (.iload_n 1, 1) := by decide +kernel
theorem dX5_load_36 : decode cX5_load 36 = .ok (.invokevirtual 115, 3) := by decide +kernel
theorem dX5_load_39 : decode cX5_load 39 = .ok (.aload_n 0, 1) := by decide +kernel
theorem dX5_load_40 : decode cX5_load 40 = .ok (.getfield 23, 3) := by decide +kernel
theorem dX5_load_43 : decode cX5_load 43 = .ok (.getfield 134, 3) := by decide +kernel
theorem dX5_load_46 : decode cX5_load 46 = .ok (.iload_n 2, 1) := by decide +kernel
theorem dX5_load_47 : decode cX5_load 47 = .ok (.iaload, 1) := by decide +kernel
theorem dX5_load_48 : decode cX5_load 48 = .ok (.ireturn, 1) := by decide +kernel
set_option maxRecDepth 20000 in
theorem ggX5_rise_X1_codesRise : GoodIn wsX5_rise wsX1_codesRise := goodIn_r _ [6, 7, 8, 9, 10, 11, 5, 12, 13, 14, 21, 22, 23, 24, 25, 26, 27, 28, 29, 30] (by decide +kernel) (by decide +kernel)
set_option maxRecDepth 20000 in
theorem gX5_rise_X1_codesRise : GoodIn wsX5_rise (wsV RX5 137 RX1 yX1_codesRise wsX1_codesRise) := goodIn_app (goodIn_of _ (by decide +kernel)) ggX5_rise_X1_codesRise
theorem dX5_rise_0 : decode cX5_rise 0 = .ok (.aload_n 0, 1) := by decide +kernel
theorem dX5_rise_1 : decode cX5_rise 1 = .ok (.getfield 10, 3) := by decide +kernel
theorem dX5_rise_4 : decode cX5_rise 4 = .ok (.invokevirtual 137, 3) := by decide +kernel
theorem dX5_rise_7 : decode cX5_rise 7 = .ok (.ifCond .eq 7, 3) := by decide +kernel
theorem dX5_rise_10 : decode cX5_rise 10 = .ok (.iconst 1, 1) := by decide +kernel
theorem dX5_rise_11 : decode cX5_rise 11 = .ok (.goto 4, 3) := by decide +kernel
theorem dX5_rise_14 : decode cX5_rise 14 = .ok (.iconst 0, 1) := by decide +kernel
theorem dX5_rise_15 : decode cX5_rise 15 = .ok (.ireturn, 1) := by decide +kernel
set_option maxRecDepth 20000 in
theorem ggX5_best_X5_isPasses : GoodIn wsX5_best wsX5_isPasses := goodIn_r _ [6, 7, 8, 5, 9] (by decide +kernel) (by decide +kernel)
set_option maxRecDepth 20000 in
theorem gX5_best_X5_isPasses : GoodIn wsX5_best (va_wsS RX5 112 yX5_isPasses wsX5_isPasses) := goodIn_app (goodIn_of _ (by decide +kernel)) ggX5_best_X5_isPasses
set_option maxRecDepth 20000 in
theorem ggX5_best_X5_isWithin : GoodIn wsX5_best wsX5_isWithin := goodIn_r _ [9] (by decide +kernel) (by decide +kernel)
set_option maxRecDepth 20000 in
theorem gX5_best_X5_isWithin : GoodIn wsX5_best (va_wsS RX5 45 yX5_isWithin wsX5_isWithin) := goodIn_app (goodIn_of _ (by decide +kernel)) ggX5_best_X5_isWithin
set_option maxRecDepth 20000 in
theorem ggX5_best_X5_asksCode : GoodIn wsX5_best wsX5_asksCode := goodIn_r _ [12, 7, 8, 5, 9] (by decide +kernel) (by decide +kernel)
set_option maxRecDepth 20000 in
theorem gX5_best_X5_asksCode : GoodIn wsX5_best (va_wsS RX5 141 yX5_asksCode wsX5_asksCode) := goodIn_app (goodIn_of _ (by decide +kernel)) ggX5_best_X5_asksCode
set_option maxRecDepth 20000 in
theorem ggX5_best_X5_hasPlanCodes : GoodIn wsX5_best wsX5_hasPlanCodes := goodIn_r _ [16, 2, 17, 18, 5, 19, 109, 110, 111, 112, 113, 114, 123, 124, 125, 126, 127, 128, 129, 130, 131, 132] (by decide +kernel) (by decide +kernel)
set_option maxRecDepth 20000 in
theorem gX5_best_X5_hasPlanCodes : GoodIn wsX5_best (wsV RX5 144 RX5 yX5_hasPlanCodes wsX5_hasPlanCodes) := goodIn_app (goodIn_of _ (by decide +kernel)) ggX5_best_X5_hasPlanCodes
set_option maxRecDepth 20000 in
theorem ggX5_best_X0_find : GoodIn wsX5_best wsX0_find := goodIn_r _ [24, 25, 26, 27, 28, 29, 23, 30, 31, 32, 33, 34, 35, 36, 37, 38, 39, 40, 41, 42, 43, 44, 18, 5, 19, 45, 46, 47, 48, 49, 50, 51, 52, 53, 54, 55, 56, 57, 58, 59, 60, 61, 62, 63, 64, 65, 66, 67, 68, 69, 70, 71, 72, 73, 74, 75, 76, 77, 78, 79, 80, 81, 82, 83, 84, 85, 86, 87, 88, 89, 90, 91, 92, 93, 94, 95, 96, 97, 98, 99, 100, 101, 102, 103, 104, 105, 106, 107, 115, 116, 117, 118, 119, 120, 121, 122, 123, 124, 125, 126, 127, 128, 129, 130, 131, 132, 133, 134, 135, 136, 137, 138, 139, 140, 141, 142, 143] (by decide +kernel) (by decide +kernel)
set_option maxRecDepth 20000 in
theorem gX5_best_X0_find : GoodIn wsX5_best (wsV RX5 147 RX0 yX0_find wsX0_find) := goodIn_app (goodIn_of _ (by decide +kernel)) ggX5_best_X0_find
set_option maxRecDepth 20000 in
theorem ggX5_best_X1_hasLetterAt : GoodIn wsX5_best wsX1_hasLetterAt := goodIn_r _ [49, 50, 51, 123, 124, 125, 126, 127, 128, 129, 130, 131, 132] (by decide +kernel) (by decide +kernel)
set_option maxRecDepth 20000 in
theorem gX5_best_X1_hasLetterAt : GoodIn wsX5_best (wsV RX5 160 RX1 yX1_hasLetterAt wsX1_hasLetterAt) := goodIn_app (goodIn_of _ (by decide +kernel)) ggX5_best_X1_hasLetterAt
theorem dX5_best_0 : decode cX5_best 0 = .ok (.iload_n 1, 1) := by decide +kernel
theorem dX5_best_1 : decode cX5_best 1 = .ok (.invokestatic 112, 3) := by decide +kernel
theorem dX5_best_4 : decode cX5_best 4 = .ok (.ifCond .eq 19, 3) := by decide +kernel
theorem dX5_best_7 : decode cX5_best 7 = .ok (.iload_n 2, 1) := by decide +kernel
theorem dX5_best_8 : decode cX5_best 8 = .ok (.iconst 0, 1) := by decide +kernel
theorem dX5_best_9 : decode cX5_best 9 = .ok (.iconst 2, 1) := by decide +kernel
theorem dX5_best_10 : decode cX5_best 10 = .ok (.invokestatic 45, 3) := by decide +kernel
theorem dX5_best_13 : decode cX5_best 13 = .ok (.ifCond .ne 13, 3) := by decide +kernel
theorem dX5_best_16 : decode cX5_best 16 = .ok (.iload_n 2, 1) := by decide +kernel
theorem dX5_best_17 : decode cX5_best 17 = .ok (.invokestatic 141, 3) := by decide +kernel
theorem dX5_best_20 : decode cX5_best 20 = .ok (.ifCond .ne 6, 3) := by decide +kernel
theorem dX5_best_23 : decode cX5_best 23 = .ok (.bipush (-2), 2) := by decide +kernel
theorem dX5_best_25 : decode cX5_best 25 = .ok (.ireturn, 1) := by decide +kernel
theorem dX5_best_26 : decode cX5_best 26 = .ok (.aload_n 0, 1) := by decide +kernel
theorem dX5_best_27 : decode cX5_best 27 = .ok (.iload_n 1, 1) := by decide +kernel
theorem dX5_best_28 : decode cX5_best 28 = .ok (.invokevirtual 144, 3) := by decide +kernel
theorem dX5_best_31 : decode cX5_best 31 = .ok (.ifCond .ne 6, 3) := by decide +kernel
theorem dX5_best_34 : decode cX5_best 34 = .ok (.bipush (-5), 2) := by decide +kernel
theorem dX5_best_36 : decode cX5_best 36 = .ok (.ireturn, 1) := by decide +kernel
theorem dX5_best_37 : decode cX5_best 37 = .ok (.aload_n 0, 1) := by decide +kernel
theorem dX5_best_38 : decode cX5_best 38 = .ok (.getfield 30, 3) := by decide +kernel
theorem dX5_best_41 : decode cX5_best 41 = .ok (.aload_n 0, 1) := by decide +kernel
theorem dX5_best_42 : decode cX5_best 42 = .ok (.getfield 10, 3) := by decide +kernel
theorem dX5_best_45 : decode cX5_best 45 = .ok (.iload_n 1, 1) := by decide +kernel
theorem dX5_best_46 : decode cX5_best 46 = .ok (.invokevirtual 147, 3) := by decide +kernel
theorem dX5_best_49 : decode cX5_best 49 = .ok (.iload_n 2, 1) := by decide +kernel
theorem dX5_best_50 : decode cX5_best 50 = .ok (.iconst 2, 1) := by decide +kernel
theorem dX5_best_51 : decode cX5_best 51 = .ok (.if_icmp .ne 11, 3) := by decide +kernel
theorem dX5_best_54 : decode cX5_best 54 = .ok (.aload_n 0, 1) := by decide +kernel
theorem dX5_best_55 : decode cX5_best 55 = .ok (.getfield 30, 3) := by decide +kernel
theorem dX5_best_58 : decode cX5_best 58 = .ok (.getfield 151, 3) := by decide +kernel
theorem dX5_best_61 : decode cX5_best 61 = .ok (.ireturn, 1) := by decide +kernel
theorem dX5_best_62 : decode cX5_best 62 = .ok (.aload_n 0, 1) := by decide +kernel
theorem dX5_best_63 : decode cX5_best 63 = .ok (.getfield 30, 3) := by decide +kernel
theorem dX5_best_66 : decode cX5_best 66 = .ok (.getfield 151, 3) := by decide +kernel
theorem dX5_best_69 : decode cX5_best 69 = .ok (.ifCond .ne 6, 3) := by decide +kernel
theorem dX5_best_72 : decode cX5_best 72 = .ok (.bipush (-6), 2) := by decide +kernel
theorem dX5_best_74 : decode cX5_best 74 = .ok (.ireturn, 1) := by decide +kernel
theorem dX5_best_75 : decode cX5_best 75 = .ok (.iload_n 2, 1) := by decide +kernel
theorem dX5_best_76 : decode cX5_best 76 = .ok (.ifCond .ne 11, 3) := by decide +kernel
theorem dX5_best_79 : decode cX5_best 79 = .ok (.aload_n 0, 1) := by decide +kernel
theorem dX5_best_80 : decode cX5_best 80 = .ok (.getfield 30, 3) := by decide +kernel
theorem dX5_best_83 : decode cX5_best 83 = .ok (.getfield 154, 3) := by decide +kernel
theorem dX5_best_86 : decode cX5_best 86 = .ok (.ireturn, 1) := by decide +kernel
theorem dX5_best_87 : decode cX5_best 87 = .ok (.iload_n 2, 1) := by decide +kernel
theorem dX5_best_88 : decode cX5_best 88 = .ok (.iconst 1, 1) := by decide +kernel
theorem dX5_best_89 : decode cX5_best 89 = .ok (.if_icmp .ne 11, 3) := by decide +kernel
theorem dX5_best_92 : decode cX5_best 92 = .ok (.aload_n 0, 1) := by decide +kernel
theorem dX5_best_93 : decode cX5_best 93 = .ok (.getfield 30, 3) := by decide +kernel
theorem dX5_best_96 : decode cX5_best 96 = .ok (.getfield 157, 3) := by decide +kernel
theorem dX5_best_99 : decode cX5_best 99 = .ok (.ireturn, 1) := by decide +kernel
theorem dX5_best_100 : decode cX5_best 100 = .ok (.iload_n 2, 1) := by decide +kernel
theorem dX5_best_101 : decode cX5_best 101 = .ok (.bipush 10, 2) := by decide +kernel
theorem dX5_best_103 : decode cX5_best 103 = .ok (.isub, 1) := by decide +kernel
theorem dX5_best_104 : decode cX5_best 104 = .ok (.istore_n 3, 1) := by decide +kernel
theorem dX5_best_105 : decode cX5_best 105 = .ok (.aload_n 0, 1) := by decide +kernel
theorem dX5_best_106 : decode cX5_best 106 = .ok (.getfield 10, 3) := by decide +kernel
theorem dX5_best_109 : decode cX5_best 109 = .ok (.iload_n 3, 1) := by decide +kernel
theorem dX5_best_110 : decode cX5_best 110 = .ok (.invokevirtual 160, 3) := by decide +kernel
theorem dX5_best_113 : decode cX5_best 113 = .ok (.ifCond .eq 15, 3) := by decide +kernel
theorem dX5_best_116 : decode cX5_best 116 = .ok (.aload_n 0, 1) := by decide +kernel
theorem dX5_best_117 : decode cX5_best 117 = .ok (.getfield 30, 3) := by decide +kernel
theorem dX5_best_120 : decode cX5_best 120 = .ok (.getfield 163, 3) := by decide +kernel
theorem dX5_best_123 : decode cX5_best 123 = .ok (.iload_n 3, 1) := by decide +kernel
theorem dX5_best_124 : decode cX5_best 124 = .ok (.iaload, 1) := by decide +kernel
theorem dX5_best_125 : decode cX5_best 125 = .ok (.goto 5, 3) := by decide +kernel
theorem dX5_best_128 : decode cX5_best 128 = .ok (.bipush (-6), 2) := by decide +kernel
theorem dX5_best_130 : decode cX5_best 130 = .ok (.ireturn, 1) := by decide +kernel
set_option maxRecDepth 20000 in
theorem ggX5_take_X5_isPasses : GoodIn wsX5_take wsX5_isPasses := goodIn_r _ [6, 7, 8, 5, 9] (by decide +kernel) (by decide +kernel)
set_option maxRecDepth 20000 in
theorem gX5_take_X5_isPasses : GoodIn wsX5_take (va_wsS RX5 112 yX5_isPasses wsX5_isPasses) := goodIn_app (goodIn_of _ (by decide +kernel)) ggX5_take_X5_isPasses
set_option maxRecDepth 20000 in
theorem ggX5_take_X5_hasPlanCodes : GoodIn wsX5_take wsX5_hasPlanCodes := goodIn_r _ [13, 2, 14, 15, 5, 16, 111, 112, 113, 114, 115, 116, 125, 126, 127, 128, 129, 130, 131, 132, 133, 134] (by decide +kernel) (by decide +kernel)
set_option maxRecDepth 20000 in
theorem gX5_take_X5_hasPlanCodes : GoodIn wsX5_take (wsV RX5 144 RX5 yX5_hasPlanCodes wsX5_hasPlanCodes) := goodIn_app (goodIn_of _ (by decide +kernel)) ggX5_take_X5_hasPlanCodes
set_option maxRecDepth 20000 in
theorem ggX5_take_X0_find : GoodIn wsX5_take wsX0_find := goodIn_r _ [21, 22, 23, 24, 25, 26, 20, 27, 28, 29, 30, 31, 32, 33, 34, 35, 36, 37, 38, 39, 40, 41, 15, 5, 16, 42, 43, 44, 45, 46, 47, 48, 49, 50, 51, 52, 53, 54, 55, 56, 57, 58, 59, 60, 61, 62, 63, 64, 65, 66, 67, 68, 69, 70, 71, 72, 73, 74, 75, 76, 77, 78, 79, 80, 81, 82, 83, 84, 85, 86, 87, 88, 89, 90, 91, 92, 93, 94, 95, 96, 97, 98, 99, 100, 101, 102, 103, 104, 117, 118, 119, 120, 121, 122, 123, 124, 125, 126, 127, 128, 129, 130, 131, 132, 133, 134, 135, 136, 137, 138, 139, 140, 141, 142, 143, 144, 145] (by decide +kernel) (by decide +kernel)
set_option maxRecDepth 20000 in
theorem gX5_take_X0_find : GoodIn wsX5_take (wsV RX5 147 RX0 yX0_find wsX0_find) := goodIn_app (goodIn_of _ (by decide +kernel)) ggX5_take_X0_find
set_option maxRecDepth 20000 in
theorem ggX5_take_X1_takeCodes : GoodIn wsX5_take wsX1_takeCodes := goodIn_r _ [108, 109, 110, 43, 44, 45, 46, 47, 48, 125, 126, 127, 128, 129, 130, 131, 132, 133, 134] (by decide +kernel) (by decide +kernel)
set_option maxRecDepth 20000 in
theorem gX5_take_X1_takeCodes : GoodIn wsX5_take (wsV RX5 164 RX1 yX1_takeCodes wsX1_takeCodes) := goodIn_app (goodIn_of _ (by decide +kernel)) ggX5_take_X1_takeCodes
theorem dX5_take_0 : decode cX5_take 0 = .ok (.iload_n 1, 1) := by decide +kernel
theorem dX5_take_1 : decode cX5_take 1 = .ok (.invokestatic 112, 3) := by decide +kernel
theorem dX5_take_4 : decode cX5_take 4 = .ok (.ifCond .ne 6, 3) := by decide +kernel
theorem dX5_take_7 : decode cX5_take 7 = .ok (.bipush (-2), 2) := by decide +kernel
theorem dX5_take_9 : decode cX5_take 9 = .ok (.ireturn, 1) := by decide +kernel
theorem dX5_take_10 : decode cX5_take 10 = .ok (.aload_n 0, 1) := by decide +kernel
theorem dX5_take_11 : decode cX5_take 11 = .ok (.iload_n 1, 1) := by decide +kernel
theorem dX5_take_12 : decode cX5_take 12 = .ok (.invokevirtual 144, 3) := by decide +kernel
theorem dX5_take_15 : decode cX5_take 15 = .ok (.ifCond .ne 6, 3) := by decide +kernel
theorem dX5_take_18 : decode cX5_take 18 = .ok (.bipush (-5), 2) := by decide +kernel
theorem dX5_take_20 : decode cX5_take 20 = .ok (.ireturn, 1) := by decide +kernel
theorem dX5_take_21 : decode cX5_take 21 = .ok (.aload_n 0, 1) := by decide +kernel
theorem dX5_take_22 : decode cX5_take 22 = .ok (.getfield 30, 3) := by decide +kernel
theorem dX5_take_25 : decode cX5_take 25 = .ok (.aload_n 0, 1) := by decide +kernel
theorem dX5_take_26 : decode cX5_take 26 = .ok (.getfield 10, 3) := by decide +kernel
theorem dX5_take_29 : decode cX5_take 29 = .ok (.iload_n 1, 1) := by decide +kernel
theorem dX5_take_30 : decode cX5_take 30 = .ok (.invokevirtual 147, 3) := by decide +kernel
theorem dX5_take_33 : decode cX5_take 33 = .ok (.aload_n 0, 1) := by decide +kernel
theorem dX5_take_34 : decode cX5_take 34 = .ok (.getfield 30, 3) := by decide +kernel
theorem dX5_take_37 : decode cX5_take 37 = .ok (.getfield 151, 3) := by decide +kernel
theorem dX5_take_40 : decode cX5_take 40 = .ok (.ifCond .ne 6, 3) := by decide +kernel
theorem dX5_take_43 : decode cX5_take 43 = .ok (.bipush (-5), 2) := by decide +kernel
theorem dX5_take_45 : decode cX5_take 45 = .ok (.ireturn, 1) := by decide +kernel
theorem dX5_take_46 : decode cX5_take 46 = .ok (.aload_n 0, 1) := by decide +kernel
theorem dX5_take_47 : decode cX5_take 47 = .ok (.getfield 10, 3) := by decide +kernel
theorem dX5_take_50 : decode cX5_take 50 = .ok (.aload_n 0, 1) := by decide +kernel
theorem dX5_take_51 : decode cX5_take 51 = .ok (.getfield 30, 3) := by decide +kernel
theorem dX5_take_54 : decode cX5_take 54 = .ok (.getfield 163, 3) := by decide +kernel
theorem dX5_take_57 : decode cX5_take 57 = .ok (.invokevirtual 164, 3) := by decide +kernel
theorem dX5_take_60 : decode cX5_take 60 = .ok (.aload_n 0, 1) := by decide +kernel
theorem dX5_take_61 : decode cX5_take 61 = .ok (.getfield 30, 3) := by decide +kernel
theorem dX5_take_64 : decode cX5_take 64 = .ok (.getfield 154, 3) := by decide +kernel
theorem dX5_take_67 : decode cX5_take 67 = .ok (.ireturn, 1) := by decide +kernel
set_option maxRecDepth 20000 in
theorem ggX5_fewest_X5_hasPlanCodes : GoodIn wsX5_fewest wsX5_hasPlanCodes := goodIn_r _ [7, 2, 8, 9, 6, 10, 69, 70, 71, 72, 73, 74, 75, 76, 77, 78, 79, 80, 81, 82, 83, 84] (by decide +kernel) (by decide +kernel)
set_option maxRecDepth 20000 in
theorem gX5_fewest_X5_hasPlanCodes : GoodIn wsX5_fewest (wsV RX5 144 RX5 yX5_hasPlanCodes wsX5_hasPlanCodes) := goodIn_app (goodIn_of _ (by decide +kernel)) ggX5_fewest_X5_hasPlanCodes
set_option maxRecDepth 20000 in
theorem ggX5_fewest_X4_somePlanFits : GoodIn wsX5_fewest wsX4_somePlanFits := goodIn_r _ [15, 16, 17, 18, 19, 14, 20, 21, 22, 23, 24, 25, 26, 27, 28, 29, 30, 31, 32, 33, 34, 9, 6, 10, 35, 36, 37, 38, 39, 40, 41, 42, 43, 44, 45, 46, 47, 48, 49, 50, 51, 52, 53, 54, 55, 56, 57, 58, 59, 60, 61, 62, 63, 64, 65, 66, 67, 68, 85, 86, 87, 88, 75, 76, 77, 78, 79, 80, 81, 82, 83, 84, 89, 90, 91, 92] (by decide +kernel) (by decide +kernel)
set_option maxRecDepth 20000 in
theorem gX5_fewest_X4_somePlanFits : GoodIn wsX5_fewest (wsV RX5 168 RX4 yX4_somePlanFits wsX4_somePlanFits) := goodIn_app (goodIn_of _ (by decide +kernel)) ggX5_fewest_X4_somePlanFits
theorem dX5_fewest_0 : decode cX5_fewest 0 = .ok (.iconst 1, 1) := by decide +kernel
theorem dX5_fewest_1 : decode cX5_fewest 1 = .ok (.istore_n 1, 1) := by decide +kernel
theorem dX5_fewest_2 : decode cX5_fewest 2 = .ok (.iload_n 1, 1) := by decide +kernel
theorem dX5_fewest_3 : decode cX5_fewest 3 = .ok (.iconst 3, 1) := by decide +kernel
theorem dX5_fewest_4 : decode cX5_fewest 4 = .ok (.if_icmp .gt 34, 3) := by decide +kernel
theorem dX5_fewest_7 : decode cX5_fewest 7 = .ok (.aload_n 0, 1) := by decide +kernel
theorem dX5_fewest_8 : decode cX5_fewest 8 = .ok (.iload_n 1, 1) := by decide +kernel
theorem dX5_fewest_9 : decode cX5_fewest 9 = .ok (.invokevirtual 144, 3) := by decide +kernel
theorem dX5_fewest_12 : decode cX5_fewest 12 = .ok (.ifCond .eq 20, 3) := by decide +kernel
theorem dX5_fewest_15 : decode cX5_fewest 15 = .ok (.aload_n 0, 1) := by decide +kernel
theorem dX5_fewest_16 : decode cX5_fewest 16 = .ok (.getfield 37, 3) := by decide +kernel
theorem dX5_fewest_19 : decode cX5_fewest 19 = .ok (.aload_n 0, 1) := by decide +kernel
theorem dX5_fewest_20 : decode cX5_fewest 20 = .ok (.getfield 10, 3) := by decide +kernel
theorem dX5_fewest_23 : decode cX5_fewest 23 = .ok (.iload_n 1, 1) := by decide +kernel
theorem dX5_fewest_24 : decode cX5_fewest 24 = .ok (.invokevirtual 168, 3) := by decide +kernel
theorem dX5_fewest_27 : decode cX5_fewest 27 = .ok (.ifCond .eq 5, 3) := by decide +kernel
theorem dX5_fewest_30 : decode cX5_fewest 30 = .ok (.iload_n 1, 1) := by decide +kernel
theorem dX5_fewest_31 : decode cX5_fewest 31 = .ok (.ireturn, 1) := by decide +kernel
theorem dX5_fewest_32 : decode cX5_fewest 32 = .ok (.iinc 1 1, 3) := by decide +kernel
theorem dX5_fewest_35 : decode cX5_fewest 35 = .ok (.goto (-33), 3) := by decide +kernel
theorem dX5_fewest_38 : decode cX5_fewest 38 = .ok (.bipush (-6), 2) := by decide +kernel
theorem dX5_fewest_40 : decode cX5_fewest 40 = .ok (.ireturn, 1) := by decide +kernel
set_option maxRecDepth 20000 in
theorem ggX5_needs_X5_isPasses : GoodIn wsX5_needs wsX5_isPasses := goodIn_r _ [6, 7, 8, 5, 9] (by decide +kernel) (by decide +kernel)
set_option maxRecDepth 20000 in
theorem gX5_needs_X5_isPasses : GoodIn wsX5_needs (va_wsS RX5 112 yX5_isPasses wsX5_isPasses) := goodIn_app (goodIn_of _ (by decide +kernel)) ggX5_needs_X5_isPasses
set_option maxRecDepth 20000 in
theorem ggX5_needs_X5_hasPlanCodes : GoodIn wsX5_needs wsX5_hasPlanCodes := goodIn_r _ [13, 2, 14, 15, 5, 16, 76, 77, 78, 79, 80, 81, 82, 83, 84, 85, 86, 87, 88, 89, 90, 91] (by decide +kernel) (by decide +kernel)
set_option maxRecDepth 20000 in
theorem gX5_needs_X5_hasPlanCodes : GoodIn wsX5_needs (wsV RX5 144 RX5 yX5_hasPlanCodes wsX5_hasPlanCodes) := goodIn_app (goodIn_of _ (by decide +kernel)) ggX5_needs_X5_hasPlanCodes
set_option maxRecDepth 20000 in
theorem ggX5_needs_X4_leastRoom : GoodIn wsX5_needs wsX4_leastRoom := goodIn_r _ [21, 22, 23, 24, 25, 26, 20, 27, 28, 29, 30, 31, 32, 33, 34, 35, 36, 37, 38, 39, 40, 41, 15, 5, 16, 42, 43, 44, 45, 46, 47, 48, 49, 50, 51, 52, 53, 54, 55, 56, 57, 58, 59, 60, 61, 62, 63, 64, 65, 66, 67, 68, 69, 70, 71, 72, 73, 74, 75, 92, 93, 94, 95, 82, 83, 84, 85, 86, 87, 88, 89, 90, 91, 96, 97, 98, 99] (by decide +kernel) (by decide +kernel)
set_option maxRecDepth 20000 in
theorem gX5_needs_X4_leastRoom : GoodIn wsX5_needs (wsV RX5 172 RX4 yX4_leastRoom wsX4_leastRoom) := goodIn_app (goodIn_of _ (by decide +kernel)) ggX5_needs_X4_leastRoom
theorem dX5_needs_0 : decode cX5_needs 0 = .ok (.iload_n 1, 1) := by decide +kernel
theorem dX5_needs_1 : decode cX5_needs 1 = .ok (.invokestatic 112, 3) := by decide +kernel
theorem dX5_needs_4 : decode cX5_needs 4 = .ok (.ifCond .ne 6, 3) := by decide +kernel
theorem dX5_needs_7 : decode cX5_needs 7 = .ok (.bipush (-2), 2) := by decide +kernel
theorem dX5_needs_9 : decode cX5_needs 9 = .ok (.ireturn, 1) := by decide +kernel
theorem dX5_needs_10 : decode cX5_needs 10 = .ok (.aload_n 0, 1) := by decide +kernel
theorem dX5_needs_11 : decode cX5_needs 11 = .ok (.iload_n 1, 1) := by decide +kernel
theorem dX5_needs_12 : decode cX5_needs 12 = .ok (.invokevirtual 144, 3) := by decide +kernel
theorem dX5_needs_15 : decode cX5_needs 15 = .ok (.ifCond .ne 6, 3) := by decide +kernel
theorem dX5_needs_18 : decode cX5_needs 18 = .ok (.bipush (-5), 2) := by decide +kernel
theorem dX5_needs_20 : decode cX5_needs 20 = .ok (.ireturn, 1) := by decide +kernel
theorem dX5_needs_21 : decode cX5_needs 21 = .ok (.aload_n 0, 1) := by decide +kernel
theorem dX5_needs_22 : decode cX5_needs 22 = .ok (.getfield 37, 3) := by decide +kernel
theorem dX5_needs_25 : decode cX5_needs 25 = .ok (.aload_n 0, 1) := by decide +kernel
theorem dX5_needs_26 : decode cX5_needs 26 = .ok (.getfield 10, 3) := by decide +kernel
theorem dX5_needs_29 : decode cX5_needs 29 = .ok (.iload_n 1, 1) := by decide +kernel
theorem dX5_needs_30 : decode cX5_needs 30 = .ok (.invokevirtual 172, 3) := by decide +kernel
theorem dX5_needs_33 : decode cX5_needs 33 = .ok (.istore_n 2, 1) := by decide +kernel
theorem dX5_needs_34 : decode cX5_needs 34 = .ok (.iload_n 2, 1) := by decide +kernel
theorem dX5_needs_35 : decode cX5_needs 35 = .ok (.bipush 99, 2) := by decide +kernel
theorem dX5_needs_37 : decode cX5_needs 37 = .ok (.if_icmp .gt 7, 3) := by decide +kernel
theorem dX5_needs_40 : decode cX5_needs 40 = .ok (.iload_n 2, 1) := by decide +kernel
theorem dX5_needs_41 : decode cX5_needs 41 = .ok (.goto 5, 3) := by decide +kernel
theorem dX5_needs_44 : decode cX5_needs 44 = .ok (.bipush (-6), 2) := by decide +kernel
theorem dX5_needs_46 : decode cX5_needs 46 = .ok (.ireturn, 1) := by decide +kernel
set_option maxRecDepth 20000 in
theorem ggX5_image_X5_isImage : GoodIn wsX5_image wsX5_isImage := goodIn_r _ [7, 8, 9, 6, 10] (by decide +kernel) (by decide +kernel)
set_option maxRecDepth 20000 in
theorem gX5_image_X5_isImage : GoodIn wsX5_image (va_wsS RX5 175 yX5_isImage wsX5_isImage) := goodIn_app (goodIn_of _ (by decide +kernel)) ggX5_image_X5_isImage
set_option maxRecDepth 20000 in
theorem ggX5_image_X1_copyFrom : GoodIn wsX5_image wsX1_copyFrom := goodIn_r _ [15, 16, 17, 18, 19, 20, 21, 22, 23, 24, 25, 26, 27, 14, 28, 29, 30, 31, 32, 39, 40, 41, 42, 43, 44, 45, 46, 47, 48] (by decide +kernel) (by decide +kernel)
set_option maxRecDepth 20000 in
theorem gX5_image_X1_copyFrom : GoodIn wsX5_image (wsV RX5 178 RX1 yX1_copyFrom wsX1_copyFrom) := goodIn_app (goodIn_of _ (by decide +kernel)) ggX5_image_X1_copyFrom
theorem dX5_image_0 : decode cX5_image 0 = .ok (.iload_n 1, 1) := by decide +kernel
theorem dX5_image_1 : decode cX5_image 1 = .ok (.invokestatic 175, 3) := by decide +kernel
theorem dX5_image_4 : decode cX5_image 4 = .ok (.ifCond .ne 6, 3) := by decide +kernel
theorem dX5_image_7 : decode cX5_image 7 = .ok (.bipush (-2), 2) := by decide +kernel
theorem dX5_image_9 : decode cX5_image 9 = .ok (.ireturn, 1) := by decide +kernel
theorem dX5_image_10 : decode cX5_image 10 = .ok (.aload_n 0, 1) := by decide +kernel
theorem dX5_image_11 : decode cX5_image 11 = .ok (.getfield 16, 3) := by decide +kernel
theorem dX5_image_14 : decode cX5_image 14 = .ok (.iload_n 1, 1) := by decide +kernel
theorem dX5_image_15 : decode cX5_image 15 = .ok (.aaload, 1) := by decide +kernel
theorem dX5_image_16 : decode cX5_image 16 = .ok (.aload_n 0, 1) := by decide +kernel
theorem dX5_image_17 : decode cX5_image 17 = .ok (.getfield 10, 3) := by decide +kernel
theorem dX5_image_20 : decode cX5_image 20 = .ok (.invokevirtual 178, 3) := by decide +kernel
theorem dX5_image_23 : decode cX5_image 23 = .ok (.aload_n 0, 1) := by decide +kernel
theorem dX5_image_24 : decode cX5_image 24 = .ok (.dup, 1) := by decide +kernel
theorem dX5_image_25 : decode cX5_image 25 = .ok (.getfield 182, 3) := by decide +kernel
theorem dX5_image_28 : decode cX5_image 28 = .ok (.iconst 1, 1) := by decide +kernel
theorem dX5_image_29 : decode cX5_image 29 = .ok (.iload_n 1, 1) := by decide +kernel
theorem dX5_image_30 : decode cX5_image 30 = .ok (.ishl, 1) := by decide +kernel
theorem dX5_image_31 : decode cX5_image 31 = .ok (.ior, 1) := by decide +kernel
theorem dX5_image_32 : decode cX5_image 32 = .ok (.putfield 182, 3) := by decide +kernel
theorem dX5_image_35 : decode cX5_image 35 = .ok (.iconst 1, 1) := by decide +kernel
theorem dX5_image_36 : decode cX5_image 36 = .ok (.ireturn, 1) := by decide +kernel
set_option maxRecDepth 20000 in
theorem ggX5_restore_X5_isImage : GoodIn wsX5_restore wsX5_isImage := goodIn_r _ [7, 8, 9, 6, 10] (by decide +kernel) (by decide +kernel)
set_option maxRecDepth 20000 in
theorem gX5_restore_X5_isImage : GoodIn wsX5_restore (va_wsS RX5 175 yX5_isImage wsX5_isImage) := goodIn_app (goodIn_of _ (by decide +kernel)) ggX5_restore_X5_isImage
set_option maxRecDepth 20000 in
theorem ggX5_restore_X1_copyFrom : GoodIn wsX5_restore wsX1_copyFrom := goodIn_r _ [15, 16, 17, 18, 19, 20, 21, 22, 23, 24, 25, 26, 27, 14, 28, 29, 30, 31, 32, 39, 40, 41, 42, 43, 44, 45, 46, 47, 48] (by decide +kernel) (by decide +kernel)
set_option maxRecDepth 20000 in
theorem gX5_restore_X1_copyFrom : GoodIn wsX5_restore (wsV RX5 178 RX1 yX1_copyFrom wsX1_copyFrom) := goodIn_app (goodIn_of _ (by decide +kernel)) ggX5_restore_X1_copyFrom
theorem dX5_restore_0 : decode cX5_restore 0 = .ok (.iload_n 1, 1) := by decide +kernel
theorem dX5_restore_1 : decode cX5_restore 1 = .ok (.invokestatic 175, 3) := by decide +kernel
theorem dX5_restore_4 : decode cX5_restore 4 = .ok (.ifCond .ne 6, 3) := by decide +kernel
theorem dX5_restore_7 : decode cX5_restore 7 = .ok (.bipush (-2), 2) := by decide +kernel
theorem dX5_restore_9 : decode cX5_restore 9 = .ok (.ireturn, 1) := by decide +kernel
theorem dX5_restore_10 : decode cX5_restore 10 = .ok (.aload_n 0, 1) := by decide +kernel
theorem dX5_restore_11 : decode cX5_restore 11 = .ok (.getfield 182, 3) := by decide +kernel
theorem dX5_restore_14 : decode cX5_restore 14 = .ok (.iload_n 1, 1) := by decide +kernel
theorem dX5_restore_15 : decode cX5_restore 15 = .ok (.ishr, 1) := by decide +kernel
theorem dX5_restore_16 : decode cX5_restore 16 = .ok (.iconst 1, 1) := by decide +kernel
theorem dX5_restore_17 : decode cX5_restore 17 = .ok (.iand, 1) := by decide +kernel
theorem dX5_restore_18 : decode cX5_restore 18 = .ok (.ifCond .ne 6, 3) := by decide +kernel
theorem dX5_restore_21 : decode cX5_restore 21 = .ok (.bipush (-3), 2) := by decide +kernel
theorem dX5_restore_23 : decode cX5_restore 23 = .ok (.ireturn, 1) := by decide +kernel
theorem dX5_restore_24 : decode cX5_restore 24 = .ok (.aload_n 0, 1) := by decide +kernel
theorem dX5_restore_25 : decode cX5_restore 25 = .ok (.getfield 10, 3) := by decide +kernel
theorem dX5_restore_28 : decode cX5_restore 28 = .ok (.aload_n 0, 1) := by decide +kernel
theorem dX5_restore_29 : decode cX5_restore 29 = .ok (.getfield 16, 3) := by decide +kernel
theorem dX5_restore_32 : decode cX5_restore 32 = .ok (.iload_n 1, 1) := by decide +kernel
theorem dX5_restore_33 : decode cX5_restore 33 = .ok (.aaload, 1) := by decide +kernel
theorem dX5_restore_34 : decode cX5_restore 34 = .ok (.invokevirtual 178, 3) := by decide +kernel
theorem dX5_restore_37 : decode cX5_restore 37 = .ok (.iconst 1, 1) := by decide +kernel
theorem dX5_restore_38 : decode cX5_restore 38 = .ok (.ireturn, 1) := by decide +kernel
set_option maxRecDepth 20000 in
theorem ggX5_count_X5_asksCode : GoodIn wsX5_count wsX5_asksCode := goodIn_r _ [6, 7, 8, 5, 9] (by decide +kernel) (by decide +kernel)
set_option maxRecDepth 20000 in
theorem gX5_count_X5_asksCode : GoodIn wsX5_count (va_wsS RX5 141 yX5_asksCode wsX5_asksCode) := goodIn_app (goodIn_of _ (by decide +kernel)) ggX5_count_X5_asksCode
set_option maxRecDepth 20000 in
theorem ggX5_count_X1_countMisread : GoodIn wsX5_count wsX1_countMisread := goodIn_r _ [14, 15, 16, 17, 18, 13, 19, 46, 47, 48, 49, 50, 51, 52, 53, 54, 55] (by decide +kernel) (by decide +kernel)
set_option maxRecDepth 20000 in
theorem gX5_count_X1_countMisread : GoodIn wsX5_count (wsV RX5 64 RX1 yX1_countMisread wsX1_countMisread) := goodIn_app (goodIn_of _ (by decide +kernel)) ggX5_count_X1_countMisread
set_option maxRecDepth 20000 in
theorem ggX5_count_X1_countPoints : GoodIn wsX5_count wsX1_countPoints := goodIn_r _ [23, 24, 25, 26, 13, 27, 16, 28, 46, 47, 48, 49, 50, 51, 52, 53, 54, 55] (by decide +kernel) (by decide +kernel)
set_option maxRecDepth 20000 in
theorem gX5_count_X1_countPoints : GoodIn wsX5_count (wsV RX5 185 RX1 yX1_countPoints wsX1_countPoints) := goodIn_app (goodIn_of _ (by decide +kernel)) ggX5_count_X1_countPoints
set_option maxRecDepth 20000 in
theorem ggX5_count_X1_addThicks : GoodIn wsX5_count wsX1_addThicks := goodIn_r _ [32, 33, 16, 17, 18, 13, 19, 46, 47, 48, 49, 50, 51, 52, 53, 54, 55] (by decide +kernel) (by decide +kernel)
set_option maxRecDepth 20000 in
theorem gX5_count_X1_addThicks : GoodIn wsX5_count (wsV RX5 188 RX1 yX1_addThicks wsX1_addThicks) := goodIn_app (goodIn_of _ (by decide +kernel)) ggX5_count_X1_addThicks
set_option maxRecDepth 20000 in
theorem ggX5_count_X1_addRooms : GoodIn wsX5_count wsX1_addRooms := goodIn_r _ [37, 38, 39, 17, 18, 13, 19, 46, 47, 48, 49, 50, 51, 52, 53, 54, 55] (by decide +kernel) (by decide +kernel)
set_option maxRecDepth 20000 in
theorem gX5_count_X1_addRooms : GoodIn wsX5_count (wsV RX5 191 RX1 yX1_addRooms wsX1_addRooms) := goodIn_app (goodIn_of _ (by decide +kernel)) ggX5_count_X1_addRooms
theorem dX5_count_0 : decode cX5_count 0 = .ok (.iload_n 1, 1) := by decide +kernel
theorem dX5_count_1 : decode cX5_count 1 = .ok (.invokestatic 141, 3) := by decide +kernel
theorem dX5_count_4 : decode cX5_count 4 = .ok (.ifCond .eq 16, 3) := by decide +kernel
theorem dX5_count_7 : decode cX5_count 7 = .ok (.aload_n 0, 1) := by decide +kernel
theorem dX5_count_8 : decode cX5_count 8 = .ok (.getfield 10, 3) := by decide +kernel
theorem dX5_count_11 : decode cX5_count 11 = .ok (.getfield 97, 3) := by decide +kernel
theorem dX5_count_14 : decode cX5_count 14 = .ok (.iload_n 1, 1) := by decide +kernel
theorem dX5_count_15 : decode cX5_count 15 = .ok (.bipush 10, 2) := by decide +kernel
theorem dX5_count_17 : decode cX5_count 17 = .ok (.isub, 1) := by decide +kernel
theorem dX5_count_18 : decode cX5_count 18 = .ok (.iaload, 1) := by decide +kernel
theorem dX5_count_19 : decode cX5_count 19 = .ok (.ireturn, 1) := by decide +kernel
theorem dX5_count_20 : decode cX5_count 20 = .ok (.iload_n 1, 1) := by decide +kernel
theorem dX5_count_21 : decode cX5_count 21 = .ok (.tableswitch 96 0 6 #[43, 51, 59, 67, 75, 83, 91], 43) := by decide +kernel
theorem dX5_count_64 : decode cX5_count 64 = .ok (.aload_n 0, 1) := by decide +kernel
theorem dX5_count_65 : decode cX5_count 65 = .ok (.getfield 10, 3) := by decide +kernel
theorem dX5_count_68 : decode cX5_count 68 = .ok (.getfield 49, 3) := by decide +kernel
theorem dX5_count_71 : decode cX5_count 71 = .ok (.ireturn, 1) := by decide +kernel
theorem dX5_count_72 : decode cX5_count 72 = .ok (.aload_n 0, 1) := by decide +kernel
theorem dX5_count_73 : decode cX5_count 73 = .ok (.getfield 10, 3) := by decide +kernel
theorem dX5_count_76 : decode cX5_count 76 = .ok (.invokevirtual 64, 3) := by decide +kernel
theorem dX5_count_79 : decode cX5_count 79 = .ok (.ireturn, 1) := by decide +kernel
theorem dX5_count_80 : decode cX5_count 80 = .ok (.aload_n 0, 1) := by decide +kernel
theorem dX5_count_81 : decode cX5_count 81 = .ok (.getfield 10, 3) := by decide +kernel
theorem dX5_count_84 : decode cX5_count 84 = .ok (.invokevirtual 185, 3) := by decide +kernel
theorem dX5_count_87 : decode cX5_count 87 = .ok (.ireturn, 1) := by decide +kernel
theorem dX5_count_88 : decode cX5_count 88 = .ok (.aload_n 0, 1) := by decide +kernel
theorem dX5_count_89 : decode cX5_count 89 = .ok (.getfield 10, 3) := by decide +kernel
theorem dX5_count_92 : decode cX5_count 92 = .ok (.getfield 82, 3) := by decide +kernel
theorem dX5_count_95 : decode cX5_count 95 = .ok (.ireturn, 1) := by decide +kernel
theorem dX5_count_96 : decode cX5_count 96 = .ok (.aload_n 0, 1) := by decide +kernel
theorem dX5_count_97 : decode cX5_count 97 = .ok (.getfield 10, 3) := by decide +kernel
theorem dX5_count_100 : decode cX5_count 100 = .ok (.invokevirtual 188, 3) := by decide +kernel
theorem dX5_count_103 : decode cX5_count 103 = .ok (.ireturn, 1) := by decide +kernel
theorem dX5_count_104 : decode cX5_count 104 = .ok (.aload_n 0, 1) := by decide +kernel
theorem dX5_count_105 : decode cX5_count 105 = .ok (.getfield 10, 3) := by decide +kernel
theorem dX5_count_108 : decode cX5_count 108 = .ok (.invokevirtual 191, 3) := by decide +kernel
theorem dX5_count_111 : decode cX5_count 111 = .ok (.ireturn, 1) := by decide +kernel
theorem dX5_count_112 : decode cX5_count 112 = .ok (.aload_n 0, 1) := by decide +kernel
theorem dX5_count_113 : decode cX5_count 113 = .ok (.getfield 182, 3) := by decide +kernel
theorem dX5_count_116 : decode cX5_count 116 = .ok (.ireturn, 1) := by decide +kernel
theorem dX5_count_117 : decode cX5_count 117 = .ok (.bipush (-2), 2) := by decide +kernel
theorem dX5_count_119 : decode cX5_count 119 = .ok (.ireturn, 1) := by decide +kernel
theorem dX5_isWithin_0 : decode cX5_isWithin 0 = .ok (.iload_n 0, 1) := by decide +kernel
theorem dX5_isWithin_1 : decode cX5_isWithin 1 = .ok (.iload_n 1, 1) := by decide +kernel
theorem dX5_isWithin_2 : decode cX5_isWithin 2 = .ok (.if_icmp .lt 12, 3) := by decide +kernel
theorem dX5_isWithin_5 : decode cX5_isWithin 5 = .ok (.iload_n 0, 1) := by decide +kernel
theorem dX5_isWithin_6 : decode cX5_isWithin 6 = .ok (.iload_n 2, 1) := by decide +kernel
theorem dX5_isWithin_7 : decode cX5_isWithin 7 = .ok (.if_icmp .gt 7, 3) := by decide +kernel
theorem dX5_isWithin_10 : decode cX5_isWithin 10 = .ok (.iconst 1, 1) := by decide +kernel
theorem dX5_isWithin_11 : decode cX5_isWithin 11 = .ok (.goto 4, 3) := by decide +kernel
theorem dX5_isWithin_14 : decode cX5_isWithin 14 = .ok (.iconst 0, 1) := by decide +kernel
theorem dX5_isWithin_15 : decode cX5_isWithin 15 = .ok (.ireturn, 1) := by decide +kernel
set_option maxRecDepth 20000 in
theorem ggX5_isPoint_X5_isWithin : GoodIn wsX5_isPoint wsX5_isWithin := goodIn_r _ [4] (by decide +kernel) (by decide +kernel)
set_option maxRecDepth 20000 in
theorem gX5_isPoint_X5_isWithin : GoodIn wsX5_isPoint (va_wsS RX5 45 yX5_isWithin wsX5_isWithin) := goodIn_app (goodIn_of _ (by decide +kernel)) ggX5_isPoint_X5_isWithin
theorem dX5_isPoint_0 : decode cX5_isPoint 0 = .ok (.iload_n 0, 1) := by decide +kernel
theorem dX5_isPoint_1 : decode cX5_isPoint 1 = .ok (.iconst 0, 1) := by decide +kernel
theorem dX5_isPoint_2 : decode cX5_isPoint 2 = .ok (.bipush 9, 2) := by decide +kernel
theorem dX5_isPoint_4 : decode cX5_isPoint 4 = .ok (.invokestatic 45, 3) := by decide +kernel
theorem dX5_isPoint_7 : decode cX5_isPoint 7 = .ok (.ireturn, 1) := by decide +kernel
set_option maxRecDepth 20000 in
theorem ggX5_isLetter_X5_isWithin : GoodIn wsX5_isLetter wsX5_isWithin := goodIn_r _ [5] (by decide +kernel) (by decide +kernel)
set_option maxRecDepth 20000 in
theorem gX5_isLetter_X5_isWithin : GoodIn wsX5_isLetter (va_wsS RX5 45 yX5_isWithin wsX5_isWithin) := goodIn_app (goodIn_of _ (by decide +kernel)) ggX5_isLetter_X5_isWithin
theorem dX5_isLetter_0 : decode cX5_isLetter 0 = .ok (.iload_n 1, 1) := by decide +kernel
theorem dX5_isLetter_1 : decode cX5_isLetter 1 = .ok (.iconst 0, 1) := by decide +kernel
theorem dX5_isLetter_2 : decode cX5_isLetter 2 = .ok (.aload_n 0, 1) := by decide +kernel
theorem dX5_isLetter_3 : decode cX5_isLetter 3 = .ok (.getfield 10, 3) := by decide +kernel
theorem dX5_isLetter_6 : decode cX5_isLetter 6 = .ok (.getfield 49, 3) := by decide +kernel
theorem dX5_isLetter_9 : decode cX5_isLetter 9 = .ok (.iconst 1, 1) := by decide +kernel
theorem dX5_isLetter_10 : decode cX5_isLetter 10 = .ok (.isub, 1) := by decide +kernel
theorem dX5_isLetter_11 : decode cX5_isLetter 11 = .ok (.invokestatic 45, 3) := by decide +kernel
theorem dX5_isLetter_14 : decode cX5_isLetter 14 = .ok (.ireturn, 1) := by decide +kernel
set_option maxRecDepth 20000 in
theorem ggX5_isStacker_X5_isWithin : GoodIn wsX5_isStacker wsX5_isWithin := goodIn_r _ [5] (by decide +kernel) (by decide +kernel)
set_option maxRecDepth 20000 in
theorem gX5_isStacker_X5_isWithin : GoodIn wsX5_isStacker (va_wsS RX5 45 yX5_isWithin wsX5_isWithin) := goodIn_app (goodIn_of _ (by decide +kernel)) ggX5_isStacker_X5_isWithin
theorem dX5_isStacker_0 : decode cX5_isStacker 0 = .ok (.iload_n 1, 1) := by decide +kernel
theorem dX5_isStacker_1 : decode cX5_isStacker 1 = .ok (.iconst 0, 1) := by decide +kernel
theorem dX5_isStacker_2 : decode cX5_isStacker 2 = .ok (.aload_n 0, 1) := by decide +kernel
theorem dX5_isStacker_3 : decode cX5_isStacker 3 = .ok (.getfield 10, 3) := by decide +kernel
theorem dX5_isStacker_6 : decode cX5_isStacker 6 = .ok (.getfield 82, 3) := by decide +kernel
theorem dX5_isStacker_9 : decode cX5_isStacker 9 = .ok (.iconst 1, 1) := by decide +kernel
theorem dX5_isStacker_10 : decode cX5_isStacker 10 = .ok (.isub, 1) := by decide +kernel
theorem dX5_isStacker_11 : decode cX5_isStacker 11 = .ok (.invokestatic 45, 3) := by decide +kernel
theorem dX5_isStacker_14 : decode cX5_isStacker 14 = .ok (.ireturn, 1) := by decide +kernel
set_option maxRecDepth 20000 in
theorem ggX5_isPasses_X5_isWithin : GoodIn wsX5_isPasses wsX5_isWithin := goodIn_r _ [4] (by decide +kernel) (by decide +kernel)
set_option maxRecDepth 20000 in
theorem gX5_isPasses_X5_isWithin : GoodIn wsX5_isPasses (va_wsS RX5 45 yX5_isWithin wsX5_isWithin) := goodIn_app (goodIn_of _ (by decide +kernel)) ggX5_isPasses_X5_isWithin
theorem dX5_isPasses_0 : decode cX5_isPasses 0 = .ok (.iload_n 0, 1) := by decide +kernel
theorem dX5_isPasses_1 : decode cX5_isPasses 1 = .ok (.iconst 1, 1) := by decide +kernel
theorem dX5_isPasses_2 : decode cX5_isPasses 2 = .ok (.iconst 3, 1) := by decide +kernel
theorem dX5_isPasses_3 : decode cX5_isPasses 3 = .ok (.invokestatic 45, 3) := by decide +kernel
theorem dX5_isPasses_6 : decode cX5_isPasses 6 = .ok (.ireturn, 1) := by decide +kernel
set_option maxRecDepth 20000 in
theorem ggX5_isImage_X5_isWithin : GoodIn wsX5_isImage wsX5_isWithin := goodIn_r _ [4] (by decide +kernel) (by decide +kernel)
set_option maxRecDepth 20000 in
theorem gX5_isImage_X5_isWithin : GoodIn wsX5_isImage (va_wsS RX5 45 yX5_isWithin wsX5_isWithin) := goodIn_app (goodIn_of _ (by decide +kernel)) ggX5_isImage_X5_isWithin
theorem dX5_isImage_0 : decode cX5_isImage 0 = .ok (.iload_n 0, 1) := by decide +kernel
theorem dX5_isImage_1 : decode cX5_isImage 1 = .ok (.iconst 0, 1) := by decide +kernel
theorem dX5_isImage_2 : decode cX5_isImage 2 = .ok (.iconst 1, 1) := by decide +kernel
theorem dX5_isImage_3 : decode cX5_isImage 3 = .ok (.invokestatic 45, 3) := by decide +kernel
theorem dX5_isImage_6 : decode cX5_isImage 6 = .ok (.ireturn, 1) := by decide +kernel
set_option maxRecDepth 20000 in
theorem ggX5_asksCode_X5_isWithin : GoodIn wsX5_asksCode wsX5_isWithin := goodIn_r _ [4] (by decide +kernel) (by decide +kernel)
set_option maxRecDepth 20000 in
theorem gX5_asksCode_X5_isWithin : GoodIn wsX5_asksCode (va_wsS RX5 45 yX5_isWithin wsX5_isWithin) := goodIn_app (goodIn_of _ (by decide +kernel)) ggX5_asksCode_X5_isWithin
theorem dX5_asksCode_0 : decode cX5_asksCode 0 = .ok (.iload_n 0, 1) := by decide +kernel
theorem dX5_asksCode_1 : decode cX5_asksCode 1 = .ok (.bipush 10, 2) := by decide +kernel
theorem dX5_asksCode_3 : decode cX5_asksCode 3 = .ok (.bipush 19, 2) := by decide +kernel
theorem dX5_asksCode_5 : decode cX5_asksCode 5 = .ok (.invokestatic 45, 3) := by decide +kernel
theorem dX5_asksCode_8 : decode cX5_asksCode 8 = .ok (.ireturn, 1) := by decide +kernel
set_option maxRecDepth 20000 in
theorem ggX5_hasPlanCodes_X5_power : GoodIn wsX5_hasPlanCodes wsX5_power := goodIn_r _ [5] (by decide +kernel) (by decide +kernel)
set_option maxRecDepth 20000 in
theorem gX5_hasPlanCodes_X5_power : GoodIn wsX5_hasPlanCodes (va_wsS RX5 194 yX5_power wsX5_power) := goodIn_app (goodIn_of _ (by decide +kernel)) ggX5_hasPlanCodes_X5_power
theorem dX5_hasPlanCodes_0 : decode cX5_hasPlanCodes 0 = .ok (.aload_n 0, 1) := by decide +kernel
theorem dX5_hasPlanCodes_1 : decode cX5_hasPlanCodes 1 = .ok (.getfield 10, 3) := by decide +kernel
theorem dX5_hasPlanCodes_4 : decode cX5_hasPlanCodes 4 = .ok (.getfield 82, 3) := by decide +kernel
theorem dX5_hasPlanCodes_7 : decode cX5_hasPlanCodes 7 = .ok (.iload_n 1, 1) := by decide +kernel
theorem dX5_hasPlanCodes_8 : decode cX5_hasPlanCodes 8 = .ok (.invokestatic 194, 3) := by decide +kernel
theorem dX5_hasPlanCodes_11 : decode cX5_hasPlanCodes 11 = .ok (.bipush 16, 2) := by decide +kernel
theorem dX5_hasPlanCodes_13 : decode cX5_hasPlanCodes 13 = .ok (.if_icmp .gt 7, 3) := by decide +kernel
theorem dX5_hasPlanCodes_16 : decode cX5_hasPlanCodes 16 = .ok (.iconst 1, 1) := by decide +kernel
theorem dX5_hasPlanCodes_17 : decode cX5_hasPlanCodes 17 = .ok (.goto 4, 3) := by decide +kernel
theorem dX5_hasPlanCodes_20 : decode cX5_hasPlanCodes 20 = .ok (.iconst 0, 1) := by decide +kernel
theorem dX5_hasPlanCodes_21 : decode cX5_hasPlanCodes 21 = .ok (.ireturn, 1) := by decide +kernel
theorem dX5_power_0 : decode cX5_power 0 = .ok (.iconst 1, 1) := by decide +kernel
theorem dX5_power_1 : decode cX5_power 1 = .ok (.istore_n 2, 1) := by decide +kernel
theorem dX5_power_2 : decode cX5_power 2 = .ok (.iconst 0, 1) := by decide +kernel
theorem dX5_power_3 : decode cX5_power 3 = .ok (.istore_n 3, 1) := by decide +kernel
theorem dX5_power_4 : decode cX5_power 4 = .ok (.iload_n 3, 1) := by decide +kernel
theorem dX5_power_5 : decode cX5_power 5 = .ok (.iload_n 1, 1) := by decide +kernel
theorem dX5_power_6 : decode cX5_power 6 = .ok (.if_icmp .ge 13, 3) := by decide +kernel
theorem dX5_power_9 : decode cX5_power 9 = .ok (.iload_n 2, 1) := by decide +kernel
theorem dX5_power_10 : decode cX5_power 10 = .ok (.iload_n 0, 1) := by decide +kernel
theorem dX5_power_11 : decode cX5_power 11 = .ok (.imul, 1) := by decide +kernel
theorem dX5_power_12 : decode cX5_power 12 = .ok (.istore_n 2, 1) := by decide +kernel
theorem dX5_power_13 : decode cX5_power 13 = .ok (.iinc 3 1, 3) := by decide +kernel
theorem dX5_power_16 : decode cX5_power 16 = .ok (.goto (-12), 3) := by decide +kernel
theorem dX5_power_19 : decode cX5_power 19 = .ok (.iload_n 2, 1) := by decide +kernel
theorem dX5_power_20 : decode cX5_power 20 = .ok (.ireturn, 1) := by decide +kernel
theorem dX5_figure_0 : decode cX5_figure 0 = .ok (.iload_n 1, 1) := by decide +kernel
theorem dX5_figure_1 : decode cX5_figure 1 = .ok (.iconst 1, 1) := by decide +kernel
theorem dX5_figure_2 : decode cX5_figure 2 = .ok (.if_icmp .lt 8, 3) := by decide +kernel
theorem dX5_figure_5 : decode cX5_figure 5 = .ok (.iload_n 2, 1) := by decide +kernel
theorem dX5_figure_6 : decode cX5_figure 6 = .ok (.iconst 1, 1) := by decide +kernel
theorem dX5_figure_7 : decode cX5_figure 7 = .ok (.if_icmp .ge 5, 3) := by decide +kernel
theorem dX5_figure_10 : decode cX5_figure 10 = .ok (.iconst 0, 1) := by decide +kernel
theorem dX5_figure_11 : decode cX5_figure 11 = .ok (.ireturn, 1) := by decide +kernel
theorem dX5_figure_12 : decode cX5_figure 12 = .ok (.iload_n 0, 1) := by decide +kernel
theorem dX5_figure_13 : decode cX5_figure 13 = .ok (.iload_n 1, 1) := by decide +kernel
theorem dX5_figure_14 : decode cX5_figure 14 = .ok (.idiv, 1) := by decide +kernel
theorem dX5_figure_15 : decode cX5_figure 15 = .ok (.iload_n 2, 1) := by decide +kernel
theorem dX5_figure_16 : decode cX5_figure 16 = .ok (.irem, 1) := by decide +kernel
theorem dX5_figure_17 : decode cX5_figure 17 = .ok (.ireturn, 1) := by decide +kernel
theorem dX6_init_0 : decode cX6_init 0 = .ok (.aload_n 0, 1) := by decide +kernel
theorem dX6_init_1 : decode cX6_init 1 = .ok (.invokespecial 1, 3) := by decide +kernel
theorem dX6_init_4 : decode cX6_init 4 = .ok (.aload_n 0, 1) := by decide +kernel
theorem dX6_init_5 : decode cX6_init 5 = .ok (.bipush 98, 2) := by decide +kernel
theorem dX6_init_7 : decode cX6_init 7 = .ok (.newarray .int, 2) := by decide +kernel
theorem dX6_init_9 : decode cX6_init 9 = .ok (.putfield 7, 3) := by decide +kernel
theorem dX6_init_12 : decode cX6_init 12 = .ok (.aload_n 0, 1) := by decide +kernel
theorem dX6_init_13 : decode cX6_init 13 = .ok (.sipush 196, 3) := by decide +kernel
theorem dX6_init_16 : decode cX6_init 16 = .ok (.newarray .int, 2) := by decide +kernel
theorem dX6_init_18 : decode cX6_init 18 = .ok (.putfield 13, 3) := by decide +kernel
theorem dX6_init_21 : decode cX6_init 21 = .ok (.aload_n 0, 1) := by decide +kernel
theorem dX6_init_22 : decode cX6_init 22 = .ok (.iconst 2, 1) := by decide +kernel
theorem dX6_init_23 : decode cX6_init 23 = .ok (.newarray .boolean, 2) := by decide +kernel
theorem dX6_init_25 : decode cX6_init 25 = .ok (.putfield 16, 3) := by decide +kernel
theorem dX6_init_28 : decode cX6_init 28 = .ok (.aload_n 0, 1) := by decide +kernel
theorem dX6_init_29 : decode cX6_init 29 = .ok (.bipush 24, 2) := by decide +kernel
theorem dX6_init_31 : decode cX6_init 31 = .ok (.newarray .int, 2) := by decide +kernel
theorem dX6_init_33 : decode cX6_init 33 = .ok (.putfield 20, 3) := by decide +kernel
theorem dX6_init_36 : decode cX6_init 36 = .ok (.aload_n 0, 1) := by decide +kernel
theorem dX6_init_37 : decode cX6_init 37 = .ok (.bipush 24, 2) := by decide +kernel
theorem dX6_init_39 : decode cX6_init 39 = .ok (.newarray .int, 2) := by decide +kernel
theorem dX6_init_41 : decode cX6_init 41 = .ok (.putfield 23, 3) := by decide +kernel
theorem dX6_init_44 : decode cX6_init 44 = .ok (.aload_n 0, 1) := by decide +kernel
theorem dX6_init_45 : decode cX6_init 45 = .ok (.bipush 24, 2) := by decide +kernel
theorem dX6_init_47 : decode cX6_init 47 = .ok (.newarray .int, 2) := by decide +kernel
theorem dX6_init_49 : decode cX6_init 49 = .ok (.putfield 26, 3) := by decide +kernel
theorem dX6_init_52 : decode cX6_init 52 = .ok (.aload_n 0, 1) := by decide +kernel
theorem dX6_init_53 : decode cX6_init 53 = .ok (.bipush 24, 2) := by decide +kernel
theorem dX6_init_55 : decode cX6_init 55 = .ok (.newarray .int, 2) := by decide +kernel
theorem dX6_init_57 : decode cX6_init 57 = .ok (.putfield 29, 3) := by decide +kernel
theorem dX6_init_60 : decode cX6_init 60 = .ok (.aload_n 0, 1) := by decide +kernel
theorem dX6_init_61 : decode cX6_init 61 = .ok (.iconst 4, 1) := by decide +kernel
theorem dX6_init_62 : decode cX6_init 62 = .ok (.newarray .int, 2) := by decide +kernel
theorem dX6_init_64 : decode cX6_init 64 = .ok (.putfield 32, 3) := by decide +kernel
theorem dX6_init_67 : decode cX6_init 67 = .ok (.aload_n 0, 1) := by decide +kernel
theorem dX6_init_68 : decode cX6_init 68 = .ok (.bipush 10, 2) := by decide +kernel
theorem dX6_init_70 : decode cX6_init 70 = .ok (.newarray .int, 2) := by decide +kernel
theorem dX6_init_72 : decode cX6_init 72 = .ok (.putfield 35, 3) := by decide +kernel
theorem dX6_init_75 : decode cX6_init 75 = .ok (.aload_n 0, 1) := by decide +kernel
theorem dX6_init_76 : decode cX6_init 76 = .ok (.iconst 4, 1) := by decide +kernel
theorem dX6_init_77 : decode cX6_init 77 = .ok (.newarray .int, 2) := by decide +kernel
theorem dX6_init_79 : decode cX6_init 79 = .ok (.putfield 38, 3) := by decide +kernel
theorem dX6_init_82 : decode cX6_init 82 = .ok (.iconst 0, 1) := by decide +kernel
theorem dX6_init_83 : decode cX6_init 83 = .ok (.istore_n 1, 1) := by decide +kernel
theorem dX6_init_84 : decode cX6_init 84 = .ok (.iload_n 1, 1) := by decide +kernel
theorem dX6_init_85 : decode cX6_init 85 = .ok (.bipush 10, 2) := by decide +kernel
theorem dX6_init_87 : decode cX6_init 87 = .ok (.if_icmp .ge 18, 3) := by decide +kernel
theorem dX6_init_90 : decode cX6_init 90 = .ok (.aload_n 0, 1) := by decide +kernel
theorem dX6_init_91 : decode cX6_init 91 = .ok (.getfield 7, 3) := by decide +kernel
theorem dX6_init_94 : decode cX6_init 94 = .ok (.iconst 0, 1) := by decide +kernel
theorem dX6_init_95 : decode cX6_init 95 = .ok (.iload_n 1, 1) := by decide +kernel
theorem dX6_init_96 : decode cX6_init 96 = .ok (.iadd, 1) := by decide +kernel
theorem dX6_init_97 : decode cX6_init 97 = .ok (.iload_n 1, 1) := by decide +kernel
theorem dX6_init_98 : decode cX6_init 98 = .ok (.iastore, 1) := by decide +kernel
theorem dX6_init_99 : decode cX6_init 99 = .ok (.iinc 1 1, 3) := by decide +kernel
theorem dX6_init_102 : decode cX6_init 102 = .ok (.goto (-18), 3) := by decide +kernel
theorem dX6_init_105 : decode cX6_init 105 = .ok (.iconst 0, 1) := by decide +kernel
theorem dX6_init_106 : decode cX6_init 106 = .ok (.istore_n 1, 1) := by decide +kernel
theorem dX6_init_107 : decode cX6_init 107 = .ok (.iload_n 1, 1) := by decide +kernel
theorem dX6_init_108 : decode cX6_init 108 = .ok (.iconst 4, 1) := by decide +kernel
theorem dX6_init_109 : decode cX6_init 109 = .ok (.if_icmp .ge 20, 3) := by decide +kernel
theorem dX6_init_112 : decode cX6_init 112 = .ok (.aload_n 0, 1) := by decide +kernel
theorem dX6_init_113 : decode cX6_init 113 = .ok (.getfield 7, 3) := by decide +kernel
theorem dX6_init_116 : decode cX6_init 116 = .ok (.bipush 20, 2) := by decide +kernel
theorem dX6_init_118 : decode cX6_init 118 = .ok (.iload_n 1, 1) := by decide +kernel
theorem dX6_init_119 : decode cX6_init 119 = .ok (.iadd, 1) := by decide +kernel
theorem dX6_init_120 : decode cX6_init 120 = .ok (.bipush 20, 2) := by decide +kernel
theorem dX6_init_122 : decode cX6_init 122 = .ok (.iastore, 1) := by decide +kernel
theorem dX6_init_123 : decode cX6_init 123 = .ok (.iinc 1 1, 3) := by decide +kernel
theorem dX6_init_126 : decode cX6_init 126 = .ok (.goto (-19), 3) := by decide +kernel
theorem dX6_init_129 : decode cX6_init 129 = .ok (.aload_n 0, 1) := by decide +kernel
theorem dX6_init_130 : decode cX6_init 130 = .ok (.getfield 7, 3) := by decide +kernel
theorem dX6_init_133 : decode cX6_init 133 = .ok (.bipush 24, 2) := by decide +kernel
theorem dX6_init_135 : decode cX6_init 135 = .ok (.iconst 3, 1) := by decide +kernel
theorem dX6_init_136 : decode cX6_init 136 = .ok (.iastore, 1) := by decide +kernel
theorem dX6_init_137 : decode cX6_init 137 = .ok (.return_, 1) := by decide +kernel
theorem dX6_in_0 : decode cX6_in 0 = .ok (.iload_n 0, 1) := by decide +kernel
theorem dX6_in_1 : decode cX6_in 1 = .ok (.iload_n 1, 1) := by decide +kernel
theorem dX6_in_2 : decode cX6_in 2 = .ok (.if_icmp .lt 12, 3) := by decide +kernel
theorem dX6_in_5 : decode cX6_in 5 = .ok (.iload_n 0, 1) := by decide +kernel
theorem dX6_in_6 : decode cX6_in 6 = .ok (.iload_n 2, 1) := by decide +kernel
theorem dX6_in_7 : decode cX6_in 7 = .ok (.if_icmp .gt 7, 3) := by decide +kernel
theorem dX6_in_10 : decode cX6_in 10 = .ok (.iconst 1, 1) := by decide +kernel
theorem dX6_in_11 : decode cX6_in 11 = .ok (.goto 4, 3) := by decide +kernel
theorem dX6_in_14 : decode cX6_in 14 = .ok (.iconst 0, 1) := by decide +kernel
theorem dX6_in_15 : decode cX6_in 15 = .ok (.ireturn, 1) := by decide +kernel
set_option maxRecDepth 20000 in
theorem ggX6_isPoint_X6_in : GoodIn wsX6_isPoint wsX6_in := goodIn_r _ [4] (by decide +kernel) (by decide +kernel)
set_option maxRecDepth 20000 in
theorem gX6_isPoint_X6_in : GoodIn wsX6_isPoint (va_wsS RX6 41 yX6_in wsX6_in) := goodIn_app (goodIn_of _ (by decide +kernel)) ggX6_isPoint_X6_in
theorem dX6_isPoint_0 : decode cX6_isPoint 0 = .ok (.iload_n 0, 1) := by decide +kernel
theorem dX6_isPoint_1 : decode cX6_isPoint 1 = .ok (.iconst 0, 1) := by decide +kernel
theorem dX6_isPoint_2 : decode cX6_isPoint 2 = .ok (.bipush 9, 2) := by decide +kernel
theorem dX6_isPoint_4 : decode cX6_isPoint 4 = .ok (.invokestatic 41, 3) := by decide +kernel
theorem dX6_isPoint_7 : decode cX6_isPoint 7 = .ok (.ireturn, 1) := by decide +kernel
set_option maxRecDepth 20000 in
theorem ggX6_isLetter_X6_in : GoodIn wsX6_isLetter wsX6_in := goodIn_r _ [5] (by decide +kernel) (by decide +kernel)
set_option maxRecDepth 20000 in
theorem gX6_isLetter_X6_in : GoodIn wsX6_isLetter (va_wsS RX6 41 yX6_in wsX6_in) := goodIn_app (goodIn_of _ (by decide +kernel)) ggX6_isLetter_X6_in
theorem dX6_isLetter_0 : decode cX6_isLetter 0 = .ok (.iload_n 1, 1) := by decide +kernel
theorem dX6_isLetter_1 : decode cX6_isLetter 1 = .ok (.iconst 0, 1) := by decide +kernel
theorem dX6_isLetter_2 : decode cX6_isLetter 2 = .ok (.aload_n 0, 1) := by decide +kernel
theorem dX6_isLetter_3 : decode cX6_isLetter 3 = .ok (.getfield 7, 3) := by decide +kernel
theorem dX6_isLetter_6 : decode cX6_isLetter 6 = .ok (.bipush 25, 2) := by decide +kernel
theorem dX6_isLetter_8 : decode cX6_isLetter 8 = .ok (.iaload, 1) := by decide +kernel
theorem dX6_isLetter_9 : decode cX6_isLetter 9 = .ok (.iconst 1, 1) := by decide +kernel
theorem dX6_isLetter_10 : decode cX6_isLetter 10 = .ok (.isub, 1) := by decide +kernel
theorem dX6_isLetter_11 : decode cX6_isLetter 11 = .ok (.invokestatic 41, 3) := by decide +kernel
theorem dX6_isLetter_14 : decode cX6_isLetter 14 = .ok (.ireturn, 1) := by decide +kernel
set_option maxRecDepth 20000 in
theorem ggX6_isStacker_X6_in : GoodIn wsX6_isStacker wsX6_in := goodIn_r _ [5] (by decide +kernel) (by decide +kernel)
set_option maxRecDepth 20000 in
theorem gX6_isStacker_X6_in : GoodIn wsX6_isStacker (va_wsS RX6 41 yX6_in wsX6_in) := goodIn_app (goodIn_of _ (by decide +kernel)) ggX6_isStacker_X6_in
theorem dX6_isStacker_0 : decode cX6_isStacker 0 = .ok (.iload_n 1, 1) := by decide +kernel
theorem dX6_isStacker_1 : decode cX6_isStacker 1 = .ok (.iconst 0, 1) := by decide +kernel
theorem dX6_isStacker_2 : decode cX6_isStacker 2 = .ok (.aload_n 0, 1) := by decide +kernel
theorem dX6_isStacker_3 : decode cX6_isStacker 3 = .ok (.getfield 7, 3) := by decide +kernel
theorem dX6_isStacker_6 : decode cX6_isStacker 6 = .ok (.bipush 24, 2) := by decide +kernel
theorem dX6_isStacker_8 : decode cX6_isStacker 8 = .ok (.iaload, 1) := by decide +kernel
theorem dX6_isStacker_9 : decode cX6_isStacker 9 = .ok (.iconst 1, 1) := by decide +kernel
theorem dX6_isStacker_10 : decode cX6_isStacker 10 = .ok (.isub, 1) := by decide +kernel
theorem dX6_isStacker_11 : decode cX6_isStacker 11 = .ok (.invokestatic 41, 3) := by decide +kernel
theorem dX6_isStacker_14 : decode cX6_isStacker 14 = .ok (.ireturn, 1) := by decide +kernel
set_option maxRecDepth 20000 in
theorem ggX6_isRun_X6_in : GoodIn wsX6_isRun wsX6_in := goodIn_r _ [4] (by decide +kernel) (by decide +kernel)
set_option maxRecDepth 20000 in
theorem gX6_isRun_X6_in : GoodIn wsX6_isRun (va_wsS RX6 41 yX6_in wsX6_in) := goodIn_app (goodIn_of _ (by decide +kernel)) ggX6_isRun_X6_in
theorem dX6_isRun_0 : decode cX6_isRun 0 = .ok (.iload_n 0, 1) := by decide +kernel
theorem dX6_isRun_1 : decode cX6_isRun 1 = .ok (.iconst 1, 1) := by decide +kernel
theorem dX6_isRun_2 : decode cX6_isRun 2 = .ok (.iconst 3, 1) := by decide +kernel
theorem dX6_isRun_3 : decode cX6_isRun 3 = .ok (.invokestatic 41, 3) := by decide +kernel
end
section
theorem dX6_isRun_6 : decode cX6_isRun 6 = .ok (.ireturn, 1) := by decide +kernel
set_option maxRecDepth 20000 in
theorem ggX6_letter_X6_isPoint : GoodIn wsX6_letter wsX6_isPoint := goodIn_r _ [5, 6, 7, 4, 8] (by decide +kernel) (by decide +kernel)
set_option maxRecDepth 20000 in
theorem gX6_letter_X6_isPoint : GoodIn wsX6_letter (va_wsS RX6 45 yX6_isPoint wsX6_isPoint) := goodIn_app (goodIn_of _ (by decide +kernel)) ggX6_letter_X6_isPoint
set_option maxRecDepth 20000 in
theorem ggX6_letter_X6_in : GoodIn wsX6_letter wsX6_in := goodIn_r _ [8] (by decide +kernel) (by decide +kernel)
set_option maxRecDepth 20000 in
theorem gX6_letter_X6_in : GoodIn wsX6_letter (va_wsS RX6 41 yX6_in wsX6_in) := goodIn_app (goodIn_of _ (by decide +kernel)) ggX6_letter_X6_in
theorem dX6_letter_0 : decode cX6_letter 0 = .ok (.iload_n 1, 1) := by decide +kernel
theorem dX6_letter_1 : decode cX6_letter 1 = .ok (.invokestatic 45, 3) := by decide +kernel
theorem dX6_letter_4 : decode cX6_letter 4 = .ok (.ifCond .ne 5, 3) := by decide +kernel
theorem dX6_letter_7 : decode cX6_letter 7 = .ok (.iconst (-1), 1) := by decide +kernel
theorem dX6_letter_8 : decode cX6_letter 8 = .ok (.ireturn, 1) := by decide +kernel
theorem dX6_letter_9 : decode cX6_letter 9 = .ok (.iload_n 2, 1) := by decide +kernel
theorem dX6_letter_10 : decode cX6_letter 10 = .ok (.iconst 1, 1) := by decide +kernel
theorem dX6_letter_11 : decode cX6_letter 11 = .ok (.bipush 9, 2) := by decide +kernel
theorem dX6_letter_13 : decode cX6_letter 13 = .ok (.invokestatic 41, 3) := by decide +kernel
theorem dX6_letter_16 : decode cX6_letter 16 = .ok (.ifCond .ne 6, 3) := by decide +kernel
theorem dX6_letter_19 : decode cX6_letter 19 = .ok (.bipush (-2), 2) := by decide +kernel
theorem dX6_letter_21 : decode cX6_letter 21 = .ok (.ireturn, 1) := by decide +kernel
theorem dX6_letter_22 : decode cX6_letter 22 = .ok (.aload_n 0, 1) := by decide +kernel
theorem dX6_letter_23 : decode cX6_letter 23 = .ok (.getfield 7, 3) := by decide +kernel
theorem dX6_letter_26 : decode cX6_letter 26 = .ok (.bipush 25, 2) := by decide +kernel
theorem dX6_letter_28 : decode cX6_letter 28 = .ok (.iaload, 1) := by decide +kernel
theorem dX6_letter_29 : decode cX6_letter 29 = .ok (.istore_n 3, 1) := by decide +kernel
theorem dX6_letter_30 : decode cX6_letter 30 = .ok (.iload_n 3, 1) := by decide +kernel
theorem dX6_letter_31 : decode cX6_letter 31 = .ok (.bipush 24, 2) := by decide +kernel
theorem dX6_letter_33 : decode cX6_letter 33 = .ok (.if_icmp .ne 6, 3) := by decide +kernel
theorem dX6_letter_36 : decode cX6_letter 36 = .ok (.bipush (-4), 2) := by decide +kernel
theorem dX6_letter_38 : decode cX6_letter 38 = .ok (.ireturn, 1) := by decide +kernel
theorem dX6_letter_39 : decode cX6_letter 39 = .ok (.aload_n 0, 1) := by decide +kernel
theorem dX6_letter_40 : decode cX6_letter 40 = .ok (.getfield 7, 3) := by decide +kernel
theorem dX6_letter_43 : decode cX6_letter 43 = .ok (.bipush 26, 2) := by decide +kernel
theorem dX6_letter_45 : decode cX6_letter 45 = .ok (.iload_n 3, 1) := by decide +kernel
theorem dX6_letter_46 : decode cX6_letter 46 = .ok (.iadd, 1) := by decide +kernel
theorem dX6_letter_47 : decode cX6_letter 47 = .ok (.iload_n 1, 1) := by decide +kernel
theorem dX6_letter_48 : decode cX6_letter 48 = .ok (.iastore, 1) := by decide +kernel
theorem dX6_letter_49 : decode cX6_letter 49 = .ok (.aload_n 0, 1) := by decide +kernel
theorem dX6_letter_50 : decode cX6_letter 50 = .ok (.getfield 7, 3) := by decide +kernel
theorem dX6_letter_53 : decode cX6_letter 53 = .ok (.bipush 50, 2) := by decide +kernel
theorem dX6_letter_55 : decode cX6_letter 55 = .ok (.iload_n 3, 1) := by decide +kernel
theorem dX6_letter_56 : decode cX6_letter 56 = .ok (.iadd, 1) := by decide +kernel
theorem dX6_letter_57 : decode cX6_letter 57 = .ok (.iload_n 2, 1) := by decide +kernel
theorem dX6_letter_58 : decode cX6_letter 58 = .ok (.iastore, 1) := by decide +kernel
theorem dX6_letter_59 : decode cX6_letter 59 = .ok (.aload_n 0, 1) := by decide +kernel
theorem dX6_letter_60 : decode cX6_letter 60 = .ok (.getfield 7, 3) := by decide +kernel
theorem dX6_letter_63 : decode cX6_letter 63 = .ok (.bipush 74, 2) := by decide +kernel
theorem dX6_letter_65 : decode cX6_letter 65 = .ok (.iload_n 3, 1) := by decide +kernel
theorem dX6_letter_66 : decode cX6_letter 66 = .ok (.iadd, 1) := by decide +kernel
theorem dX6_letter_67 : decode cX6_letter 67 = .ok (.iconst 0, 1) := by decide +kernel
theorem dX6_letter_68 : decode cX6_letter 68 = .ok (.iastore, 1) := by decide +kernel
theorem dX6_letter_69 : decode cX6_letter 69 = .ok (.aload_n 0, 1) := by decide +kernel
theorem dX6_letter_70 : decode cX6_letter 70 = .ok (.getfield 7, 3) := by decide +kernel
theorem dX6_letter_73 : decode cX6_letter 73 = .ok (.bipush 25, 2) := by decide +kernel
theorem dX6_letter_75 : decode cX6_letter 75 = .ok (.dup2, 1) := by decide +kernel
theorem dX6_letter_76 : decode cX6_letter 76 = .ok (.iaload, 1) := by decide +kernel
theorem dX6_letter_77 : decode cX6_letter 77 = .ok (.iconst 1, 1) := by decide +kernel
theorem dX6_letter_78 : decode cX6_letter 78 = .ok (.iadd, 1) := by decide +kernel
theorem dX6_letter_79 : decode cX6_letter 79 = .ok (.iastore, 1) := by decide +kernel
theorem dX6_letter_80 : decode cX6_letter 80 = .ok (.iload_n 3, 1) := by decide +kernel
theorem dX6_letter_81 : decode cX6_letter 81 = .ok (.ireturn, 1) := by decide +kernel
theorem dX6_misreads_0 : decode cX6_misreads 0 = .ok (.iconst 0, 1) := by decide +kernel
theorem dX6_misreads_1 : decode cX6_misreads 1 = .ok (.istore_n 1, 1) := by decide +kernel
theorem dX6_misreads_2 : decode cX6_misreads 2 = .ok (.iconst 0, 1) := by decide +kernel
theorem dX6_misreads_3 : decode cX6_misreads 3 = .ok (.istore_n 2, 1) := by decide +kernel
theorem dX6_misreads_4 : decode cX6_misreads 4 = .ok (.iload_n 2, 1) := by decide +kernel
theorem dX6_misreads_5 : decode cX6_misreads 5 = .ok (.aload_n 0, 1) := by decide +kernel
theorem dX6_misreads_6 : decode cX6_misreads 6 = .ok (.getfield 7, 3) := by decide +kernel
theorem dX6_misreads_9 : decode cX6_misreads 9 = .ok (.bipush 25, 2) := by decide +kernel
theorem dX6_misreads_11 : decode cX6_misreads 11 = .ok (.iaload, 1) := by decide +kernel
theorem dX6_misreads_12 : decode cX6_misreads 12 = .ok (.if_icmp .ge 21, 3) := by decide +kernel
theorem dX6_misreads_15 : decode cX6_misreads 15 = .ok (.iload_n 1, 1) := by decide +kernel
theorem dX6_misreads_16 : decode cX6_misreads 16 = .ok (.aload_n 0, 1) := by decide +kernel
theorem dX6_misreads_17 : decode cX6_misreads 17 = .ok (.getfield 7, 3) := by decide +kernel
theorem dX6_misreads_20 : decode cX6_misreads 20 = .ok (.bipush 74, 2) := by decide +kernel
theorem dX6_misreads_22 : decode cX6_misreads 22 = .ok (.iload_n 2, 1) := by decide +kernel
theorem dX6_misreads_23 : decode cX6_misreads 23 = .ok (.iadd, 1) := by decide +kernel
theorem dX6_misreads_24 : decode cX6_misreads 24 = .ok (.iaload, 1) := by decide +kernel
theorem dX6_misreads_25 : decode cX6_misreads 25 = .ok (.iadd, 1) := by decide +kernel
theorem dX6_misreads_26 : decode cX6_misreads 26 = .ok (.istore_n 1, 1) := by decide +kernel
theorem dX6_misreads_27 : decode cX6_misreads 27 = .ok (.iinc 2 1, 3) := by decide +kernel
theorem dX6_misreads_30 : decode cX6_misreads 30 = .ok (.goto (-26), 3) := by decide +kernel
theorem dX6_misreads_33 : decode cX6_misreads 33 = .ok (.iload_n 1, 1) := by decide +kernel
theorem dX6_misreads_34 : decode cX6_misreads 34 = .ok (.ireturn, 1) := by decide +kernel
set_option maxRecDepth 20000 in
theorem ggX6_misread_X6_isLetter : GoodIn wsX6_misread wsX6_isLetter := goodIn_r _ [6, 1, 7, 8, 5, 9, 14, 15, 16, 17, 18, 19, 20, 21, 22, 23, 24, 25, 26, 27, 28, 29] (by decide +kernel) (by decide +kernel)
set_option maxRecDepth 20000 in
theorem gX6_misread_X6_isLetter : GoodIn wsX6_misread (wsV RX6 49 RX6 yX6_isLetter wsX6_isLetter) := goodIn_app (goodIn_of _ (by decide +kernel)) ggX6_misread_X6_isLetter
set_option maxRecDepth 20000 in
theorem ggX6_misread_X6_in : GoodIn wsX6_misread wsX6_in := goodIn_r _ [9] (by decide +kernel) (by decide +kernel)
set_option maxRecDepth 20000 in
theorem gX6_misread_X6_in : GoodIn wsX6_misread (va_wsS RX6 41 yX6_in wsX6_in) := goodIn_app (goodIn_of _ (by decide +kernel)) ggX6_misread_X6_in
set_option maxRecDepth 20000 in
theorem ggX6_misread_X6_misreads : GoodIn wsX6_misread wsX6_misreads := goodIn_r _ [13, 1, 14, 15, 16, 17, 18, 19, 20, 21, 22, 23, 24, 25, 26, 27, 28, 29] (by decide +kernel) (by decide +kernel)
set_option maxRecDepth 20000 in
theorem gX6_misread_X6_misreads : GoodIn wsX6_misread (wsV RX6 52 RX6 yX6_misreads wsX6_misreads) := goodIn_app (goodIn_of _ (by decide +kernel)) ggX6_misread_X6_misreads
theorem dX6_misread_0 : decode cX6_misread 0 = .ok (.aload_n 0, 1) := by decide +kernel
theorem dX6_misread_1 : decode cX6_misread 1 = .ok (.iload_n 1, 1) := by decide +kernel
theorem dX6_misread_2 : decode cX6_misread 2 = .ok (.invokevirtual 49, 3) := by decide +kernel
theorem dX6_misread_5 : decode cX6_misread 5 = .ok (.ifCond .ne 5, 3) := by decide +kernel
theorem dX6_misread_8 : decode cX6_misread 8 = .ok (.iconst (-1), 1) := by decide +kernel
theorem dX6_misread_9 : decode cX6_misread 9 = .ok (.ireturn, 1) := by decide +kernel
theorem dX6_misread_10 : decode cX6_misread 10 = .ok (.iload_n 2, 1) := by decide +kernel
theorem dX6_misread_11 : decode cX6_misread 11 = .ok (.iconst 0, 1) := by decide +kernel
theorem dX6_misread_12 : decode cX6_misread 12 = .ok (.iconst 1, 1) := by decide +kernel
theorem dX6_misread_13 : decode cX6_misread 13 = .ok (.invokestatic 41, 3) := by decide +kernel
theorem dX6_misread_16 : decode cX6_misread 16 = .ok (.ifCond .ne 6, 3) := by decide +kernel
theorem dX6_misread_19 : decode cX6_misread 19 = .ok (.bipush (-2), 2) := by decide +kernel
theorem dX6_misread_21 : decode cX6_misread 21 = .ok (.ireturn, 1) := by decide +kernel
theorem dX6_misread_22 : decode cX6_misread 22 = .ok (.aload_n 0, 1) := by decide +kernel
theorem dX6_misread_23 : decode cX6_misread 23 = .ok (.getfield 7, 3) := by decide +kernel
theorem dX6_misread_26 : decode cX6_misread 26 = .ok (.bipush 74, 2) := by decide +kernel
theorem dX6_misread_28 : decode cX6_misread 28 = .ok (.iload_n 1, 1) := by decide +kernel
theorem dX6_misread_29 : decode cX6_misread 29 = .ok (.iadd, 1) := by decide +kernel
theorem dX6_misread_30 : decode cX6_misread 30 = .ok (.iload_n 2, 1) := by decide +kernel
theorem dX6_misread_31 : decode cX6_misread 31 = .ok (.iastore, 1) := by decide +kernel
theorem dX6_misread_32 : decode cX6_misread 32 = .ok (.aload_n 0, 1) := by decide +kernel
theorem dX6_misread_33 : decode cX6_misread 33 = .ok (.invokevirtual 52, 3) := by decide +kernel
theorem dX6_misread_36 : decode cX6_misread 36 = .ok (.ireturn, 1) := by decide +kernel
set_option maxRecDepth 20000 in
theorem ggX6_drop_X6_isLetter : GoodIn wsX6_drop wsX6_isLetter := goodIn_r _ [6, 1, 7, 8, 5, 9, 10, 11, 12, 13, 14, 15, 16, 17, 18, 19, 20, 21, 22, 23, 24, 25] (by decide +kernel) (by decide +kernel)
set_option maxRecDepth 20000 in
theorem gX6_drop_X6_isLetter : GoodIn wsX6_drop (wsV RX6 49 RX6 yX6_isLetter wsX6_isLetter) := goodIn_app (goodIn_of _ (by decide +kernel)) ggX6_drop_X6_isLetter
theorem dX6_drop_0 : decode cX6_drop 0 = .ok (.aload_n 0, 1) := by decide +kernel
theorem dX6_drop_1 : decode cX6_drop 1 = .ok (.iload_n 1, 1) := by decide +kernel
theorem dX6_drop_2 : decode cX6_drop 2 = .ok (.invokevirtual 49, 3) := by decide +kernel
theorem dX6_drop_5 : decode cX6_drop 5 = .ok (.ifCond .ne 5, 3) := by decide +kernel
theorem dX6_drop_8 : decode cX6_drop 8 = .ok (.iconst (-1), 1) := by decide +kernel
theorem dX6_drop_9 : decode cX6_drop 9 = .ok (.ireturn, 1) := by decide +kernel
theorem dX6_drop_10 : decode cX6_drop 10 = .ok (.iload_n 1, 1) := by decide +kernel
theorem dX6_drop_11 : decode cX6_drop 11 = .ok (.istore_n 2, 1) := by decide +kernel
theorem dX6_drop_12 : decode cX6_drop 12 = .ok (.iload_n 2, 1) := by decide +kernel
theorem dX6_drop_13 : decode cX6_drop 13 = .ok (.iconst 1, 1) := by decide +kernel
theorem dX6_drop_14 : decode cX6_drop 14 = .ok (.iadd, 1) := by decide +kernel
theorem dX6_drop_15 : decode cX6_drop 15 = .ok (.aload_n 0, 1) := by decide +kernel
theorem dX6_drop_16 : decode cX6_drop 16 = .ok (.getfield 7, 3) := by decide +kernel
theorem dX6_drop_19 : decode cX6_drop 19 = .ok (.bipush 25, 2) := by decide +kernel
theorem dX6_drop_21 : decode cX6_drop 21 = .ok (.iaload, 1) := by decide +kernel
theorem dX6_drop_22 : decode cX6_drop 22 = .ok (.if_icmp .ge 69, 3) := by decide +kernel
theorem dX6_drop_25 : decode cX6_drop 25 = .ok (.aload_n 0, 1) := by decide +kernel
theorem dX6_drop_26 : decode cX6_drop 26 = .ok (.getfield 7, 3) := by decide +kernel
theorem dX6_drop_29 : decode cX6_drop 29 = .ok (.bipush 26, 2) := by decide +kernel
theorem dX6_drop_31 : decode cX6_drop 31 = .ok (.iload_n 2, 1) := by decide +kernel
theorem dX6_drop_32 : decode cX6_drop 32 = .ok (.iadd, 1) := by decide +kernel
theorem dX6_drop_33 : decode cX6_drop 33 = .ok (.aload_n 0, 1) := by decide +kernel
theorem dX6_drop_34 : decode cX6_drop 34 = .ok (.getfield 7, 3) := by decide +kernel
theorem dX6_drop_37 : decode cX6_drop 37 = .ok (.bipush 26, 2) := by decide +kernel
theorem dX6_drop_39 : decode cX6_drop 39 = .ok (.iload_n 2, 1) := by decide +kernel
theorem dX6_drop_40 : decode cX6_drop 40 = .ok (.iadd, 1) := by decide +kernel
theorem dX6_drop_41 : decode cX6_drop 41 = .ok (.iconst 1, 1) := by decide +kernel
theorem dX6_drop_42 : decode cX6_drop 42 = .ok (.iadd, 1) := by decide +kernel
theorem dX6_drop_43 : decode cX6_drop 43 = .ok (.iaload, 1) := by decide +kernel
theorem dX6_drop_44 : decode cX6_drop 44 = .ok (.iastore, 1) := by decide +kernel
theorem dX6_drop_45 : decode cX6_drop 45 = .ok (.aload_n 0, 1) := by decide +kernel
theorem dX6_drop_46 : decode cX6_drop 46 = .ok (.getfield 7, 3) := by decide +kernel
theorem dX6_drop_49 : decode cX6_drop 49 = .ok (.bipush 50, 2) := by decide +kernel
theorem dX6_drop_51 : decode cX6_drop 51 = .ok (.iload_n 2, 1) := by decide +kernel
theorem dX6_drop_52 : decode cX6_drop 52 = .ok (.iadd, 1) := by decide +kernel
theorem dX6_drop_53 : decode cX6_drop 53 = .ok (.aload_n 0, 1) := by decide +kernel
theorem dX6_drop_54 : decode cX6_drop 54 = .ok (.getfield 7, 3) := by decide +kernel
theorem dX6_drop_57 : decode cX6_drop 57 = .ok (.bipush 50, 2) := by decide +kernel
theorem dX6_drop_59 : decode cX6_drop 59 = .ok (.iload_n 2, 1) := by decide +kernel
theorem dX6_drop_60 : decode cX6_drop 60 = .ok (.iadd, 1) := by decide +kernel
theorem dX6_drop_61 : decode cX6_drop 61 = .ok (.iconst 1, 1) := by decide +kernel
theorem dX6_drop_62 : decode cX6_drop 62 = .ok (.iadd, 1) := by decide +kernel
theorem dX6_drop_63 : decode cX6_drop 63 = .ok (.iaload, 1) := by decide +kernel
theorem dX6_drop_64 : decode cX6_drop 64 = .ok (.iastore, 1) := by decide +kernel
theorem dX6_drop_65 : decode cX6_drop 65 = .ok (.aload_n 0, 1) := by decide +kernel
theorem dX6_drop_66 : decode cX6_drop 66 = .ok (.getfield 7, 3) := by decide +kernel
theorem dX6_drop_69 : decode cX6_drop 69 = .ok (.bipush 74, 2) := by decide +kernel
theorem dX6_drop_71 : decode cX6_drop 71 = .ok (.iload_n 2, 1) := by decide +kernel
theorem dX6_drop_72 : decode cX6_drop 72 = .ok (.iadd, 1) := by decide +kernel
theorem dX6_drop_73 : decode cX6_drop 73 = .ok (.aload_n 0, 1) := by decide +kernel
theorem dX6_drop_74 : decode cX6_drop 74 = .ok (.getfield 7, 3) := by decide +kernel
theorem dX6_drop_77 : decode cX6_drop 77 = .ok (.bipush 74, 2) := by decide +kernel
theorem dX6_drop_79 : decode cX6_drop 79 = .ok (.iload_n 2, 1) := by decide +kernel
theorem dX6_drop_80 : decode cX6_drop 80 = .ok (.iadd, 1) := by decide +kernel
theorem dX6_drop_81 : decode cX6_drop 81 = .ok (.iconst 1, 1) := by decide +kernel
theorem dX6_drop_82 : decode cX6_drop 82 = .ok (.iadd, 1) := by decide +kernel
theorem dX6_drop_83 : decode cX6_drop 83 = .ok (.iaload, 1) := by decide +kernel
theorem dX6_drop_84 : decode cX6_drop 84 = .ok (.iastore, 1) := by decide +kernel
theorem dX6_drop_85 : decode cX6_drop 85 = .ok (.iinc 2 1, 3) := by decide +kernel
theorem dX6_drop_88 : decode cX6_drop 88 = .ok (.goto (-76), 3) := by decide +kernel
theorem dX6_drop_91 : decode cX6_drop 91 = .ok (.aload_n 0, 1) := by decide +kernel
theorem dX6_drop_92 : decode cX6_drop 92 = .ok (.getfield 7, 3) := by decide +kernel
theorem dX6_drop_95 : decode cX6_drop 95 = .ok (.bipush 25, 2) := by decide +kernel
theorem dX6_drop_97 : decode cX6_drop 97 = .ok (.dup2, 1) := by decide +kernel
theorem dX6_drop_98 : decode cX6_drop 98 = .ok (.iaload, 1) := by decide +kernel
theorem dX6_drop_99 : decode cX6_drop 99 = .ok (.iconst 1, 1) := by decide +kernel
theorem dX6_drop_100 : decode cX6_drop 100 = .ok (.isub, 1) := by decide +kernel
theorem dX6_drop_101 : decode cX6_drop 101 = .ok (.iastore, 1) := by decide +kernel
theorem dX6_drop_102 : decode cX6_drop 102 = .ok (.aload_n 0, 1) := by decide +kernel
theorem dX6_drop_103 : decode cX6_drop 103 = .ok (.getfield 7, 3) := by decide +kernel
theorem dX6_drop_106 : decode cX6_drop 106 = .ok (.bipush 25, 2) := by decide +kernel
theorem dX6_drop_108 : decode cX6_drop 108 = .ok (.iaload, 1) := by decide +kernel
theorem dX6_drop_109 : decode cX6_drop 109 = .ok (.ireturn, 1) := by decide +kernel
theorem dX6_placeOf_0 : decode cX6_placeOf 0 = .ok (.bipush (-6), 2) := by decide +kernel
theorem dX6_placeOf_2 : decode cX6_placeOf 2 = .ok (.istore_n 2, 1) := by decide +kernel
theorem dX6_placeOf_3 : decode cX6_placeOf 3 = .ok (.iconst 0, 1) := by decide +kernel
theorem dX6_placeOf_4 : decode cX6_placeOf 4 = .ok (.istore_n 3, 1) := by decide +kernel
theorem dX6_placeOf_5 : decode cX6_placeOf 5 = .ok (.iload_n 3, 1) := by decide +kernel
theorem dX6_placeOf_6 : decode cX6_placeOf 6 = .ok (.bipush 10, 2) := by decide +kernel
theorem dX6_placeOf_8 : decode cX6_placeOf 8 = .ok (.if_icmp .ge 27, 3) := by decide +kernel
theorem dX6_placeOf_11 : decode cX6_placeOf 11 = .ok (.aload_n 0, 1) := by decide +kernel
theorem dX6_placeOf_12 : decode cX6_placeOf 12 = .ok (.getfield 7, 3) := by decide +kernel
theorem dX6_placeOf_15 : decode cX6_placeOf 15 = .ok (.iconst 0, 1) := by decide +kernel
theorem dX6_placeOf_16 : decode cX6_placeOf 16 = .ok (.iload_n 3, 1) := by decide +kernel
theorem dX6_placeOf_17 : decode cX6_placeOf 17 = .ok (.iadd, 1) := by decide +kernel
theorem dX6_placeOf_18 : decode cX6_placeOf 18 = .ok (.iaload, 1) := by decide +kernel
theorem dX6_placeOf_19 : decode cX6_placeOf 19 = .ok (.iload_n 1, 1) := by decide +kernel
theorem dX6_placeOf_20 : decode cX6_placeOf 20 = .ok (.if_icmp .ne 7, 3) := by decide +kernel
theorem dX6_placeOf_23 : decode cX6_placeOf 23 = .ok (.iload_n 3, 1) := by decide +kernel
theorem dX6_placeOf_24 : decode cX6_placeOf 24 = .ok (.goto 4, 3) := by decide +kernel
theorem dX6_placeOf_27 : decode cX6_placeOf 27 = .ok (.iload_n 2, 1) := by decide +kernel
theorem dX6_placeOf_28 : decode cX6_placeOf 28 = .ok (.istore_n 2, 1) := by decide +kernel
theorem dX6_placeOf_29 : decode cX6_placeOf 29 = .ok (.iinc 3 1, 3) := by decide +kernel
theorem dX6_placeOf_32 : decode cX6_placeOf 32 = .ok (.goto (-27), 3) := by decide +kernel
theorem dX6_placeOf_35 : decode cX6_placeOf 35 = .ok (.iload_n 2, 1) := by decide +kernel
theorem dX6_placeOf_36 : decode cX6_placeOf 36 = .ok (.ireturn, 1) := by decide +kernel
set_option maxRecDepth 20000 in
theorem ggX6_change_X6_isPoint : GoodIn wsX6_change wsX6_isPoint := goodIn_r _ [5, 6, 7, 4, 8] (by decide +kernel) (by decide +kernel)
set_option maxRecDepth 20000 in
theorem gX6_change_X6_isPoint : GoodIn wsX6_change (va_wsS RX6 45 yX6_isPoint wsX6_isPoint) := goodIn_app (goodIn_of _ (by decide +kernel)) ggX6_change_X6_isPoint
set_option maxRecDepth 20000 in
theorem ggX6_change_X6_placeOf : GoodIn wsX6_change wsX6_placeOf := goodIn_r _ [12, 1, 13, 14, 15, 16, 17, 18, 19, 20, 21, 22, 23, 24, 25, 26, 27, 28] (by decide +kernel) (by decide +kernel)
set_option maxRecDepth 20000 in
theorem gX6_change_X6_placeOf : GoodIn wsX6_change (wsV RX6 56 RX6 yX6_placeOf wsX6_placeOf) := goodIn_app (goodIn_of _ (by decide +kernel)) ggX6_change_X6_placeOf
theorem dX6_change_0 : decode cX6_change 0 = .ok (.iload_n 1, 1) := by decide +kernel
theorem dX6_change_1 : decode cX6_change 1 = .ok (.invokestatic 45, 3) := by decide +kernel
theorem dX6_change_4 : decode cX6_change 4 = .ok (.ifCond .eq 10, 3) := by decide +kernel
theorem dX6_change_7 : decode cX6_change 7 = .ok (.iload_n 2, 1) := by decide +kernel
theorem dX6_change_8 : decode cX6_change 8 = .ok (.invokestatic 45, 3) := by decide +kernel
theorem dX6_change_11 : decode cX6_change 11 = .ok (.ifCond .ne 5, 3) := by decide +kernel
theorem dX6_change_14 : decode cX6_change 14 = .ok (.iconst (-1), 1) := by decide +kernel
theorem dX6_change_15 : decode cX6_change 15 = .ok (.ireturn, 1) := by decide +kernel
theorem dX6_change_16 : decode cX6_change 16 = .ok (.aload_n 0, 1) := by decide +kernel
theorem dX6_change_17 : decode cX6_change 17 = .ok (.iload_n 1, 1) := by decide +kernel
theorem dX6_change_18 : decode cX6_change 18 = .ok (.invokevirtual 56, 3) := by decide +kernel
theorem dX6_change_21 : decode cX6_change 21 = .ok (.istore_n 3, 1) := by decide +kernel
theorem dX6_change_22 : decode cX6_change 22 = .ok (.aload_n 0, 1) := by decide +kernel
theorem dX6_change_23 : decode cX6_change 23 = .ok (.iload_n 2, 1) := by decide +kernel
theorem dX6_change_24 : decode cX6_change 24 = .ok (.invokevirtual 56, 3) := by decide +kernel
theorem dX6_change_27 : decode cX6_change 27 = .ok (.istore 4, 2) := by decide +kernel
theorem dX6_change_29 : decode cX6_change 29 = .ok (.aload_n 0, 1) := by decide +kernel
theorem dX6_change_30 : decode cX6_change 30 = .ok (.getfield 7, 3) := by decide +kernel
theorem dX6_change_33 : decode cX6_change 33 = .ok (.iconst 0, 1) := by decide +kernel
theorem dX6_change_34 : decode cX6_change 34 = .ok (.iload_n 3, 1) := by decide +kernel
theorem dX6_change_35 : decode cX6_change 35 = .ok (.iadd, 1) := by decide +kernel
theorem dX6_change_36 : decode cX6_change 36 = .ok (.iload_n 2, 1) := by decide +kernel
theorem dX6_change_37 : decode cX6_change 37 = .ok (.iastore, 1) := by decide +kernel
theorem dX6_change_38 : decode cX6_change 38 = .ok (.aload_n 0, 1) := by decide +kernel
theorem dX6_change_39 : decode cX6_change 39 = .ok (.getfield 7, 3) := by decide +kernel
theorem dX6_change_42 : decode cX6_change 42 = .ok (.iconst 0, 1) := by decide +kernel
theorem dX6_change_43 : decode cX6_change 43 = .ok (.iload 4, 2) := by decide +kernel
theorem dX6_change_45 : decode cX6_change 45 = .ok (.iadd, 1) := by decide +kernel
theorem dX6_change_46 : decode cX6_change 46 = .ok (.iload_n 1, 1) := by decide +kernel
theorem dX6_change_47 : decode cX6_change 47 = .ok (.iastore, 1) := by decide +kernel
theorem dX6_change_48 : decode cX6_change 48 = .ok (.iload 4, 2) := by decide +kernel
theorem dX6_change_50 : decode cX6_change 50 = .ok (.ireturn, 1) := by decide +kernel
set_option maxRecDepth 20000 in
theorem ggX6_walk_X6_in : GoodIn wsX6_walk wsX6_in := goodIn_r _ [5] (by decide +kernel) (by decide +kernel)
set_option maxRecDepth 20000 in
theorem gX6_walk_X6_in : GoodIn wsX6_walk (va_wsS RX6 41 yX6_in wsX6_in) := goodIn_app (goodIn_of _ (by decide +kernel)) ggX6_walk_X6_in
theorem dX6_walk_0 : decode cX6_walk 0 = .ok (.iload_n 1, 1) := by decide +kernel
theorem dX6_walk_1 : decode cX6_walk 1 = .ok (.iconst 0, 1) := by decide +kernel
theorem dX6_walk_2 : decode cX6_walk 2 = .ok (.bipush 9, 2) := by decide +kernel
theorem dX6_walk_4 : decode cX6_walk 4 = .ok (.invokestatic 41, 3) := by decide +kernel
theorem dX6_walk_7 : decode cX6_walk 7 = .ok (.ifCond .eq 14, 3) := by decide +kernel
theorem dX6_walk_10 : decode cX6_walk 10 = .ok (.aload_n 0, 1) := by decide +kernel
theorem dX6_walk_11 : decode cX6_walk 11 = .ok (.getfield 7, 3) := by decide +kernel
theorem dX6_walk_14 : decode cX6_walk 14 = .ok (.iconst 0, 1) := by decide +kernel
theorem dX6_walk_15 : decode cX6_walk 15 = .ok (.iload_n 1, 1) := by decide +kernel
theorem dX6_walk_16 : decode cX6_walk 16 = .ok (.iadd, 1) := by decide +kernel
theorem dX6_walk_17 : decode cX6_walk 17 = .ok (.iaload, 1) := by decide +kernel
theorem dX6_walk_18 : decode cX6_walk 18 = .ok (.goto 5, 3) := by decide +kernel
theorem dX6_walk_21 : decode cX6_walk 21 = .ok (.bipush (-2), 2) := by decide +kernel
theorem dX6_walk_23 : decode cX6_walk 23 = .ok (.ireturn, 1) := by decide +kernel
set_option maxRecDepth 20000 in
theorem ggX6_stackers_X6_in : GoodIn wsX6_stackers wsX6_in := goodIn_r _ [5] (by decide +kernel) (by decide +kernel)
set_option maxRecDepth 20000 in
theorem gX6_stackers_X6_in : GoodIn wsX6_stackers (va_wsS RX6 41 yX6_in wsX6_in) := goodIn_app (goodIn_of _ (by decide +kernel)) ggX6_stackers_X6_in
theorem dX6_stackers_0 : decode cX6_stackers 0 = .ok (.iload_n 1, 1) := by decide +kernel
theorem dX6_stackers_1 : decode cX6_stackers 1 = .ok (.iconst 2, 1) := by decide +kernel
theorem dX6_stackers_2 : decode cX6_stackers 2 = .ok (.iconst 4, 1) := by decide +kernel
theorem dX6_stackers_3 : decode cX6_stackers 3 = .ok (.invokestatic 41, 3) := by decide +kernel
theorem dX6_stackers_6 : decode cX6_stackers 6 = .ok (.ifCond .ne 6, 3) := by decide +kernel
theorem dX6_stackers_9 : decode cX6_stackers 9 = .ok (.bipush (-2), 2) := by decide +kernel
theorem dX6_stackers_11 : decode cX6_stackers 11 = .ok (.ireturn, 1) := by decide +kernel
theorem dX6_stackers_12 : decode cX6_stackers 12 = .ok (.aload_n 0, 1) := by decide +kernel
theorem dX6_stackers_13 : decode cX6_stackers 13 = .ok (.getfield 7, 3) := by decide +kernel
theorem dX6_stackers_16 : decode cX6_stackers 16 = .ok (.bipush 24, 2) := by decide +kernel
theorem dX6_stackers_18 : decode cX6_stackers 18 = .ok (.iaload, 1) := by decide +kernel
theorem dX6_stackers_19 : decode cX6_stackers 19 = .ok (.istore_n 2, 1) := by decide +kernel
theorem dX6_stackers_20 : decode cX6_stackers 20 = .ok (.aload_n 0, 1) := by decide +kernel
theorem dX6_stackers_21 : decode cX6_stackers 21 = .ok (.getfield 7, 3) := by decide +kernel
theorem dX6_stackers_24 : decode cX6_stackers 24 = .ok (.bipush 24, 2) := by decide +kernel
theorem dX6_stackers_26 : decode cX6_stackers 26 = .ok (.iload_n 1, 1) := by decide +kernel
theorem dX6_stackers_27 : decode cX6_stackers 27 = .ok (.iastore, 1) := by decide +kernel
theorem dX6_stackers_28 : decode cX6_stackers 28 = .ok (.iload_n 2, 1) := by decide +kernel
theorem dX6_stackers_29 : decode cX6_stackers 29 = .ok (.ireturn, 1) := by decide +kernel
set_option maxRecDepth 20000 in
theorem ggX6_room_X6_isStacker : GoodIn wsX6_room wsX6_isStacker := goodIn_r _ [6, 1, 7, 8, 5, 9, 10, 11, 12, 13, 14, 15, 16, 17, 18, 19, 20, 21, 22, 23, 24, 25] (by decide +kernel) (by decide +kernel)
set_option maxRecDepth 20000 in
theorem gX6_room_X6_isStacker : GoodIn wsX6_room (wsV RX6 60 RX6 yX6_isStacker wsX6_isStacker) := goodIn_app (goodIn_of _ (by decide +kernel)) ggX6_room_X6_isStacker
set_option maxRecDepth 20000 in
theorem ggX6_room_X6_in : GoodIn wsX6_room wsX6_in := goodIn_r _ [9] (by decide +kernel) (by decide +kernel)
set_option maxRecDepth 20000 in
theorem gX6_room_X6_in : GoodIn wsX6_room (va_wsS RX6 41 yX6_in wsX6_in) := goodIn_app (goodIn_of _ (by decide +kernel)) ggX6_room_X6_in
theorem dX6_room_0 : decode cX6_room 0 = .ok (.aload_n 0, 1) := by decide +kernel
theorem dX6_room_1 : decode cX6_room 1 = .ok (.iload_n 1, 1) := by decide +kernel
theorem dX6_room_2 : decode cX6_room 2 = .ok (.invokevirtual 60, 3) := by decide +kernel
theorem dX6_room_5 : decode cX6_room 5 = .ok (.ifCond .ne 5, 3) := by decide +kernel
theorem dX6_room_8 : decode cX6_room 8 = .ok (.iconst (-1), 1) := by decide +kernel
theorem dX6_room_9 : decode cX6_room 9 = .ok (.ireturn, 1) := by decide +kernel
theorem dX6_room_10 : decode cX6_room 10 = .ok (.iload_n 2, 1) := by decide +kernel
theorem dX6_room_11 : decode cX6_room 11 = .ok (.iconst 1, 1) := by decide +kernel
theorem dX6_room_12 : decode cX6_room 12 = .ok (.bipush 99, 2) := by decide +kernel
theorem dX6_room_14 : decode cX6_room 14 = .ok (.invokestatic 41, 3) := by decide +kernel
theorem dX6_room_17 : decode cX6_room 17 = .ok (.ifCond .ne 6, 3) := by decide +kernel
theorem dX6_room_20 : decode cX6_room 20 = .ok (.bipush (-2), 2) := by decide +kernel
theorem dX6_room_22 : decode cX6_room 22 = .ok (.ireturn, 1) := by decide +kernel
theorem dX6_room_23 : decode cX6_room 23 = .ok (.aload_n 0, 1) := by decide +kernel
theorem dX6_room_24 : decode cX6_room 24 = .ok (.getfield 7, 3) := by decide +kernel
theorem dX6_room_27 : decode cX6_room 27 = .ok (.bipush 20, 2) := by decide +kernel
theorem dX6_room_29 : decode cX6_room 29 = .ok (.iload_n 1, 1) := by decide +kernel
theorem dX6_room_30 : decode cX6_room 30 = .ok (.iadd, 1) := by decide +kernel
theorem dX6_room_31 : decode cX6_room 31 = .ok (.iaload, 1) := by decide +kernel
theorem dX6_room_32 : decode cX6_room 32 = .ok (.istore_n 3, 1) := by decide +kernel
theorem dX6_room_33 : decode cX6_room 33 = .ok (.aload_n 0, 1) := by decide +kernel
theorem dX6_room_34 : decode cX6_room 34 = .ok (.getfield 7, 3) := by decide +kernel
theorem dX6_room_37 : decode cX6_room 37 = .ok (.bipush 20, 2) := by decide +kernel
theorem dX6_room_39 : decode cX6_room 39 = .ok (.iload_n 1, 1) := by decide +kernel
theorem dX6_room_40 : decode cX6_room 40 = .ok (.iadd, 1) := by decide +kernel
theorem dX6_room_41 : decode cX6_room 41 = .ok (.iload_n 2, 1) := by decide +kernel
theorem dX6_room_42 : decode cX6_room 42 = .ok (.iastore, 1) := by decide +kernel
theorem dX6_room_43 : decode cX6_room 43 = .ok (.iload_n 3, 1) := by decide +kernel
theorem dX6_room_44 : decode cX6_room 44 = .ok (.ireturn, 1) := by decide +kernel
set_option maxRecDepth 20000 in
theorem ggX6_code_X6_isPoint : GoodIn wsX6_code wsX6_isPoint := goodIn_r _ [5, 6, 7, 4, 8] (by decide +kernel) (by decide +kernel)
set_option maxRecDepth 20000 in
theorem gX6_code_X6_isPoint : GoodIn wsX6_code (va_wsS RX6 45 yX6_isPoint wsX6_isPoint) := goodIn_app (goodIn_of _ (by decide +kernel)) ggX6_code_X6_isPoint
set_option maxRecDepth 20000 in
theorem ggX6_code_X6_in : GoodIn wsX6_code wsX6_in := goodIn_r _ [8] (by decide +kernel) (by decide +kernel)
set_option maxRecDepth 20000 in
theorem gX6_code_X6_in : GoodIn wsX6_code (va_wsS RX6 41 yX6_in wsX6_in) := goodIn_app (goodIn_of _ (by decide +kernel)) ggX6_code_X6_in
theorem dX6_code_0 : decode cX6_code 0 = .ok (.iload_n 1, 1) := by decide +kernel
theorem dX6_code_1 : decode cX6_code 1 = .ok (.invokestatic 45, 3) := by decide +kernel
theorem dX6_code_4 : decode cX6_code 4 = .ok (.ifCond .ne 5, 3) := by decide +kernel
theorem dX6_code_7 : decode cX6_code 7 = .ok (.iconst (-1), 1) := by decide +kernel
theorem dX6_code_8 : decode cX6_code 8 = .ok (.ireturn, 1) := by decide +kernel
theorem dX6_code_9 : decode cX6_code 9 = .ok (.iload_n 2, 1) := by decide +kernel
theorem dX6_code_10 : decode cX6_code 10 = .ok (.iconst 0, 1) := by decide +kernel
theorem dX6_code_11 : decode cX6_code 11 = .ok (.bipush 63, 2) := by decide +kernel
theorem dX6_code_13 : decode cX6_code 13 = .ok (.invokestatic 41, 3) := by decide +kernel
theorem dX6_code_16 : decode cX6_code 16 = .ok (.ifCond .ne 6, 3) := by decide +kernel
theorem dX6_code_19 : decode cX6_code 19 = .ok (.bipush (-2), 2) := by decide +kernel
theorem dX6_code_21 : decode cX6_code 21 = .ok (.ireturn, 1) := by decide +kernel
theorem dX6_code_22 : decode cX6_code 22 = .ok (.aload_n 0, 1) := by decide +kernel
theorem dX6_code_23 : decode cX6_code 23 = .ok (.getfield 7, 3) := by decide +kernel
theorem dX6_code_26 : decode cX6_code 26 = .ok (.bipush 10, 2) := by decide +kernel
theorem dX6_code_28 : decode cX6_code 28 = .ok (.iload_n 1, 1) := by decide +kernel
theorem dX6_code_29 : decode cX6_code 29 = .ok (.iadd, 1) := by decide +kernel
theorem dX6_code_30 : decode cX6_code 30 = .ok (.iaload, 1) := by decide +kernel
theorem dX6_code_31 : decode cX6_code 31 = .ok (.istore_n 3, 1) := by decide +kernel
theorem dX6_code_32 : decode cX6_code 32 = .ok (.aload_n 0, 1) := by decide +kernel
theorem dX6_code_33 : decode cX6_code 33 = .ok (.getfield 7, 3) := by decide +kernel
theorem dX6_code_36 : decode cX6_code 36 = .ok (.bipush 10, 2) := by decide +kernel
theorem dX6_code_38 : decode cX6_code 38 = .ok (.iload_n 1, 1) := by decide +kernel
theorem dX6_code_39 : decode cX6_code 39 = .ok (.iadd, 1) := by decide +kernel
theorem dX6_code_40 : decode cX6_code 40 = .ok (.iload_n 2, 1) := by decide +kernel
theorem dX6_code_41 : decode cX6_code 41 = .ok (.iastore, 1) := by decide +kernel
theorem dX6_code_42 : decode cX6_code 42 = .ok (.iload_n 3, 1) := by decide +kernel
theorem dX6_code_43 : decode cX6_code 43 = .ok (.ireturn, 1) := by decide +kernel
theorem dX6_isUsed_0 : decode cX6_isUsed 0 = .ok (.iconst 0, 1) := by decide +kernel
theorem dX6_isUsed_1 : decode cX6_isUsed 1 = .ok (.istore_n 2, 1) := by decide +kernel
theorem dX6_isUsed_2 : decode cX6_isUsed 2 = .ok (.iconst 0, 1) := by decide +kernel
theorem dX6_isUsed_3 : decode cX6_isUsed 3 = .ok (.istore_n 3, 1) := by decide +kernel
theorem dX6_isUsed_4 : decode cX6_isUsed 4 = .ok (.iload_n 3, 1) := by decide +kernel
theorem dX6_isUsed_5 : decode cX6_isUsed 5 = .ok (.aload_n 0, 1) := by decide +kernel
theorem dX6_isUsed_6 : decode cX6_isUsed 6 = .ok (.getfield 7, 3) := by decide +kernel
theorem dX6_isUsed_9 : decode cX6_isUsed 9 = .ok (.bipush 25, 2) := by decide +kernel
theorem dX6_isUsed_11 : decode cX6_isUsed 11 = .ok (.iaload, 1) := by decide +kernel
theorem dX6_isUsed_12 : decode cX6_isUsed 12 = .ok (.if_icmp .ge 32, 3) := by decide +kernel
theorem dX6_isUsed_15 : decode cX6_isUsed 15 = .ok (.iload_n 2, 1) := by decide +kernel
theorem dX6_isUsed_16 : decode cX6_isUsed 16 = .ok (.ifCond .ne 16, 3) := by decide +kernel
theorem dX6_isUsed_19 : decode cX6_isUsed 19 = .ok (.aload_n 0, 1) := by decide +kernel
theorem dX6_isUsed_20 : decode cX6_isUsed 20 = .ok (.getfield 7, 3) := by decide +kernel
theorem dX6_isUsed_23 : decode cX6_isUsed 23 = .ok (.bipush 26, 2) := by decide +kernel
theorem dX6_isUsed_25 : decode cX6_isUsed 25 = .ok (.iload_n 3, 1) := by decide +kernel
theorem dX6_isUsed_26 : decode cX6_isUsed 26 = .ok (.iadd, 1) := by decide +kernel
theorem dX6_isUsed_27 : decode cX6_isUsed 27 = .ok (.iaload, 1) := by decide +kernel
theorem dX6_isUsed_28 : decode cX6_isUsed 28 = .ok (.iload_n 1, 1) := by decide +kernel
theorem dX6_isUsed_29 : decode cX6_isUsed 29 = .ok (.if_icmp .ne 7, 3) := by decide +kernel
theorem dX6_isUsed_32 : decode cX6_isUsed 32 = .ok (.iconst 1, 1) := by decide +kernel
theorem dX6_isUsed_33 : decode cX6_isUsed 33 = .ok (.goto 4, 3) := by decide +kernel
theorem dX6_isUsed_36 : decode cX6_isUsed 36 = .ok (.iconst 0, 1) := by decide +kernel
theorem dX6_isUsed_37 : decode cX6_isUsed 37 = .ok (.istore_n 2, 1) := by decide +kernel
theorem dX6_isUsed_38 : decode cX6_isUsed 38 = .ok (.iinc 3 1, 3) := by decide +kernel
theorem dX6_isUsed_41 : decode cX6_isUsed 41 = .ok (.goto (-37), 3) := by decide +kernel
theorem dX6_isUsed_44 : decode cX6_isUsed 44 = .ok (.iload_n 2, 1) := by decide +kernel
theorem dX6_isUsed_45 : decode cX6_isUsed 45 = .ok (.ireturn, 1) := by decide +kernel
set_option maxRecDepth 20000 in
theorem ggX6_dense_X6_isUsed : GoodIn wsX6_dense wsX6_isUsed := goodIn_r _ [6, 1, 7, 8, 9, 10, 11, 12, 13, 14, 15, 16, 17, 18, 19, 20, 21, 22] (by decide +kernel) (by decide +kernel)
set_option maxRecDepth 20000 in
theorem gX6_dense_X6_isUsed : GoodIn wsX6_dense (wsV RX6 63 RX6 yX6_isUsed wsX6_isUsed) := goodIn_app (goodIn_of _ (by decide +kernel)) ggX6_dense_X6_isUsed
theorem dX6_dense_0 : decode cX6_dense 0 = .ok (.iconst 0, 1) := by decide +kernel
theorem dX6_dense_1 : decode cX6_dense 1 = .ok (.istore_n 1, 1) := by decide +kernel
theorem dX6_dense_2 : decode cX6_dense 2 = .ok (.iconst 0, 1) := by decide +kernel
theorem dX6_dense_3 : decode cX6_dense 3 = .ok (.istore_n 2, 1) := by decide +kernel
theorem dX6_dense_4 : decode cX6_dense 4 = .ok (.iload_n 2, 1) := by decide +kernel
theorem dX6_dense_5 : decode cX6_dense 5 = .ok (.bipush 10, 2) := by decide +kernel
theorem dX6_dense_7 : decode cX6_dense 7 = .ok (.if_icmp .ge 44, 3) := by decide +kernel
theorem dX6_dense_10 : decode cX6_dense 10 = .ok (.aload_n 0, 1) := by decide +kernel
theorem dX6_dense_11 : decode cX6_dense 11 = .ok (.aload_n 0, 1) := by decide +kernel
theorem dX6_dense_12 : decode cX6_dense 12 = .ok (.getfield 7, 3) := by decide +kernel
theorem dX6_dense_15 : decode cX6_dense 15 = .ok (.iconst 0, 1) := by decide +kernel
theorem dX6_dense_16 : decode cX6_dense 16 = .ok (.iload_n 2, 1) := by decide +kernel
theorem dX6_dense_17 : decode cX6_dense 17 = .ok (.iadd, 1) := by decide +kernel
theorem dX6_dense_18 : decode cX6_dense 18 = .ok (.iaload, 1) := by decide +kernel
theorem dX6_dense_19 : decode cX6_dense 19 = .ok (.invokevirtual 63, 3) := by decide +kernel
theorem dX6_dense_22 : decode cX6_dense 22 = .ok (.ifCond .eq 23, 3) := by decide +kernel
theorem dX6_dense_25 : decode cX6_dense 25 = .ok (.aload_n 0, 1) := by decide +kernel
theorem dX6_dense_26 : decode cX6_dense 26 = .ok (.getfield 7, 3) := by decide +kernel
theorem dX6_dense_29 : decode cX6_dense 29 = .ok (.bipush 10, 2) := by decide +kernel
theorem dX6_dense_31 : decode cX6_dense 31 = .ok (.aload_n 0, 1) := by decide +kernel
theorem dX6_dense_32 : decode cX6_dense 32 = .ok (.getfield 7, 3) := by decide +kernel
theorem dX6_dense_35 : decode cX6_dense 35 = .ok (.iconst 0, 1) := by decide +kernel
theorem dX6_dense_36 : decode cX6_dense 36 = .ok (.iload_n 2, 1) := by decide +kernel
theorem dX6_dense_37 : decode cX6_dense 37 = .ok (.iadd, 1) := by decide +kernel
theorem dX6_dense_38 : decode cX6_dense 38 = .ok (.iaload, 1) := by decide +kernel
theorem dX6_dense_39 : decode cX6_dense 39 = .ok (.iadd, 1) := by decide +kernel
theorem dX6_dense_40 : decode cX6_dense 40 = .ok (.iload_n 1, 1) := by decide +kernel
theorem dX6_dense_41 : decode cX6_dense 41 = .ok (.iastore, 1) := by decide +kernel
theorem dX6_dense_42 : decode cX6_dense 42 = .ok (.iinc 1 1, 3) := by decide +kernel
theorem dX6_dense_45 : decode cX6_dense 45 = .ok (.iinc 2 1, 3) := by decide +kernel
theorem dX6_dense_48 : decode cX6_dense 48 = .ok (.goto (-44), 3) := by decide +kernel
theorem dX6_dense_51 : decode cX6_dense 51 = .ok (.iload_n 1, 1) := by decide +kernel
theorem dX6_dense_52 : decode cX6_dense 52 = .ok (.ireturn, 1) := by decide +kernel
set_option maxRecDepth 20000 in
theorem ggX6_of_X6_isLetter : GoodIn wsX6_of wsX6_isLetter := goodIn_r _ [6, 1, 7, 8, 5, 9, 10, 11, 12, 13, 14, 15, 16, 17, 18, 19, 20, 21, 22, 23, 24, 25] (by decide +kernel) (by decide +kernel)
set_option maxRecDepth 20000 in
theorem gX6_of_X6_isLetter : GoodIn wsX6_of (wsV RX6 49 RX6 yX6_isLetter wsX6_isLetter) := goodIn_app (goodIn_of _ (by decide +kernel)) ggX6_of_X6_isLetter
theorem dX6_of_0 : decode cX6_of 0 = .ok (.aload_n 0, 1) := by decide +kernel
theorem dX6_of_1 : decode cX6_of 1 = .ok (.iload_n 1, 1) := by decide +kernel
theorem dX6_of_2 : decode cX6_of 2 = .ok (.invokevirtual 49, 3) := by decide +kernel
theorem dX6_of_5 : decode cX6_of 5 = .ok (.ifCond .ne 5, 3) := by decide +kernel
theorem dX6_of_8 : decode cX6_of 8 = .ok (.iconst (-1), 1) := by decide +kernel
theorem dX6_of_9 : decode cX6_of 9 = .ok (.ireturn, 1) := by decide +kernel
theorem dX6_of_10 : decode cX6_of 10 = .ok (.iload_n 2, 1) := by decide +kernel
theorem dX6_of_11 : decode cX6_of 11 = .ok (.ifCond .ne 15, 3) := by decide +kernel
theorem dX6_of_14 : decode cX6_of 14 = .ok (.aload_n 0, 1) := by decide +kernel
theorem dX6_of_15 : decode cX6_of 15 = .ok (.getfield 7, 3) := by decide +kernel
theorem dX6_of_18 : decode cX6_of 18 = .ok (.bipush 26, 2) := by decide +kernel
theorem dX6_of_20 : decode cX6_of 20 = .ok (.iload_n 1, 1) := by decide +kernel
theorem dX6_of_21 : decode cX6_of 21 = .ok (.iadd, 1) := by decide +kernel
theorem dX6_of_22 : decode cX6_of 22 = .ok (.iaload, 1) := by decide +kernel
theorem dX6_of_23 : decode cX6_of 23 = .ok (.goto 39, 3) := by decide +kernel
theorem dX6_of_26 : decode cX6_of 26 = .ok (.iload_n 2, 1) := by decide +kernel
theorem dX6_of_27 : decode cX6_of 27 = .ok (.iconst 1, 1) := by decide +kernel
theorem dX6_of_28 : decode cX6_of 28 = .ok (.if_icmp .ne 15, 3) := by decide +kernel
theorem dX6_of_31 : decode cX6_of 31 = .ok (.aload_n 0, 1) := by decide +kernel
theorem dX6_of_32 : decode cX6_of 32 = .ok (.getfield 7, 3) := by decide +kernel
theorem dX6_of_35 : decode cX6_of 35 = .ok (.bipush 50, 2) := by decide +kernel
theorem dX6_of_37 : decode cX6_of 37 = .ok (.iload_n 1, 1) := by decide +kernel
theorem dX6_of_38 : decode cX6_of 38 = .ok (.iadd, 1) := by decide +kernel
theorem dX6_of_39 : decode cX6_of 39 = .ok (.iaload, 1) := by decide +kernel
theorem dX6_of_40 : decode cX6_of 40 = .ok (.goto 22, 3) := by decide +kernel
theorem dX6_of_43 : decode cX6_of 43 = .ok (.iload_n 2, 1) := by decide +kernel
theorem dX6_of_44 : decode cX6_of 44 = .ok (.iconst 2, 1) := by decide +kernel
theorem dX6_of_45 : decode cX6_of 45 = .ok (.if_icmp .ne 15, 3) := by decide +kernel
theorem dX6_of_48 : decode cX6_of 48 = .ok (.aload_n 0, 1) := by decide +kernel
theorem dX6_of_49 : decode cX6_of 49 = .ok (.getfield 7, 3) := by decide +kernel
theorem dX6_of_52 : decode cX6_of 52 = .ok (.bipush 74, 2) := by decide +kernel
theorem dX6_of_54 : decode cX6_of 54 = .ok (.iload_n 1, 1) := by decide +kernel
theorem dX6_of_55 : decode cX6_of 55 = .ok (.iadd, 1) := by decide +kernel
theorem dX6_of_56 : decode cX6_of 56 = .ok (.iaload, 1) := by decide +kernel
theorem dX6_of_57 : decode cX6_of 57 = .ok (.goto 5, 3) := by decide +kernel
theorem dX6_of_60 : decode cX6_of 60 = .ok (.bipush (-2), 2) := by decide +kernel
theorem dX6_of_62 : decode cX6_of 62 = .ok (.ireturn, 1) := by decide +kernel
theorem dX6_figure_0 : decode cX6_figure 0 = .ok (.iload_n 1, 1) := by decide +kernel
theorem dX6_figure_1 : decode cX6_figure 1 = .ok (.istore_n 3, 1) := by decide +kernel
theorem dX6_figure_2 : decode cX6_figure 2 = .ok (.iconst 1, 1) := by decide +kernel
theorem dX6_figure_3 : decode cX6_figure 3 = .ok (.istore 4, 2) := by decide +kernel
theorem dX6_figure_5 : decode cX6_figure 5 = .ok (.iload 4, 2) := by decide +kernel
theorem dX6_figure_7 : decode cX6_figure 7 = .ok (.iload_n 2, 1) := by decide +kernel
theorem dX6_figure_8 : decode cX6_figure 8 = .ok (.if_icmp .ge 19, 3) := by decide +kernel
theorem dX6_figure_11 : decode cX6_figure 11 = .ok (.iload_n 3, 1) := by decide +kernel
theorem dX6_figure_12 : decode cX6_figure 12 = .ok (.aload_n 0, 1) := by decide +kernel
theorem dX6_figure_13 : decode cX6_figure 13 = .ok (.getfield 7, 3) := by decide +kernel
theorem dX6_figure_16 : decode cX6_figure 16 = .ok (.bipush 24, 2) := by decide +kernel
theorem dX6_figure_18 : decode cX6_figure 18 = .ok (.iaload, 1) := by decide +kernel
theorem dX6_figure_19 : decode cX6_figure 19 = .ok (.idiv, 1) := by decide +kernel
theorem dX6_figure_20 : decode cX6_figure 20 = .ok (.istore_n 3, 1) := by decide +kernel
theorem dX6_figure_21 : decode cX6_figure 21 = .ok (.iinc 4 1, 3) := by decide +kernel
theorem dX6_figure_24 : decode cX6_figure 24 = .ok (.goto (-19), 3) := by decide +kernel
theorem dX6_figure_27 : decode cX6_figure 27 = .ok (.iload_n 3, 1) := by decide +kernel
theorem dX6_figure_28 : decode cX6_figure 28 = .ok (.aload_n 0, 1) := by decide +kernel
theorem dX6_figure_29 : decode cX6_figure 29 = .ok (.getfield 7, 3) := by decide +kernel
theorem dX6_figure_32 : decode cX6_figure 32 = .ok (.bipush 24, 2) := by decide +kernel
theorem dX6_figure_34 : decode cX6_figure 34 = .ok (.iaload, 1) := by decide +kernel
theorem dX6_figure_35 : decode cX6_figure 35 = .ok (.irem, 1) := by decide +kernel
theorem dX6_figure_36 : decode cX6_figure 36 = .ok (.ireturn, 1) := by decide +kernel
set_option maxRecDepth 20000 in
theorem ggX6_place_X6_figure : GoodIn wsX6_place wsX6_figure := goodIn_r _ [7, 1, 8, 9, 10, 11, 12, 13, 14, 15, 16, 17, 18, 19, 20, 21, 22, 23] (by decide +kernel) (by decide +kernel)
set_option maxRecDepth 20000 in
theorem gX6_place_X6_figure : GoodIn wsX6_place (wsV RX6 66 RX6 yX6_figure wsX6_figure) := goodIn_app (goodIn_of _ (by decide +kernel)) ggX6_place_X6_figure
theorem dX6_place_0 : decode cX6_place 0 = .ok (.aload_n 0, 1) := by decide +kernel
theorem dX6_place_1 : decode cX6_place 1 = .ok (.getfield 7, 3) := by decide +kernel
theorem dX6_place_4 : decode cX6_place 4 = .ok (.bipush 74, 2) := by decide +kernel
theorem dX6_place_6 : decode cX6_place 6 = .ok (.iload_n 1, 1) := by decide +kernel
theorem dX6_place_7 : decode cX6_place 7 = .ok (.iadd, 1) := by decide +kernel
theorem dX6_place_8 : decode cX6_place 8 = .ok (.iaload, 1) := by decide +kernel
theorem dX6_place_9 : decode cX6_place 9 = .ok (.iconst 1, 1) := by decide +kernel
theorem dX6_place_10 : decode cX6_place 10 = .ok (.if_icmp .ne 6, 3) := by decide +kernel
theorem dX6_place_13 : decode cX6_place 13 = .ok (.bipush (-6), 2) := by decide +kernel
theorem dX6_place_15 : decode cX6_place 15 = .ok (.ireturn, 1) := by decide +kernel
theorem dX6_place_16 : decode cX6_place 16 = .ok (.aload_n 0, 1) := by decide +kernel
theorem dX6_place_17 : decode cX6_place 17 = .ok (.aload_n 0, 1) := by decide +kernel
theorem dX6_place_18 : decode cX6_place 18 = .ok (.getfield 7, 3) := by decide +kernel
theorem dX6_place_21 : decode cX6_place 21 = .ok (.bipush 10, 2) := by decide +kernel
theorem dX6_place_23 : decode cX6_place 23 = .ok (.aload_n 0, 1) := by decide +kernel
theorem dX6_place_24 : decode cX6_place 24 = .ok (.getfield 7, 3) := by decide +kernel
theorem dX6_place_27 : decode cX6_place 27 = .ok (.bipush 26, 2) := by decide +kernel
theorem dX6_place_29 : decode cX6_place 29 = .ok (.iload_n 1, 1) := by decide +kernel
theorem dX6_place_30 : decode cX6_place 30 = .ok (.iadd, 1) := by decide +kernel
theorem dX6_place_31 : decode cX6_place 31 = .ok (.iaload, 1) := by decide +kernel
theorem dX6_place_32 : decode cX6_place 32 = .ok (.iadd, 1) := by decide +kernel
theorem dX6_place_33 : decode cX6_place 33 = .ok (.iaload, 1) := by decide +kernel
theorem dX6_place_34 : decode cX6_place 34 = .ok (.iload_n 2, 1) := by decide +kernel
theorem dX6_place_35 : decode cX6_place 35 = .ok (.invokevirtual 66, 3) := by decide +kernel
theorem dX6_place_38 : decode cX6_place 38 = .ok (.istore_n 3, 1) := by decide +kernel
theorem dX6_place_39 : decode cX6_place 39 = .ok (.aload_n 0, 1) := by decide +kernel
theorem dX6_place_40 : decode cX6_place 40 = .ok (.getfield 32, 3) := by decide +kernel
theorem dX6_place_43 : decode cX6_place 43 = .ok (.iload_n 3, 1) := by decide +kernel
theorem dX6_place_44 : decode cX6_place 44 = .ok (.iaload, 1) := by decide +kernel
theorem dX6_place_45 : decode cX6_place 45 = .ok (.aload_n 0, 1) := by decide +kernel
theorem dX6_place_46 : decode cX6_place 46 = .ok (.getfield 7, 3) := by decide +kernel
theorem dX6_place_49 : decode cX6_place 49 = .ok (.bipush 50, 2) := by decide +kernel
theorem dX6_place_51 : decode cX6_place 51 = .ok (.iload_n 1, 1) := by decide +kernel
theorem dX6_place_52 : decode cX6_place 52 = .ok (.iadd, 1) := by decide +kernel
theorem dX6_place_53 : decode cX6_place 53 = .ok (.iaload, 1) := by decide +kernel
theorem dX6_place_54 : decode cX6_place 54 = .ok (.iadd, 1) := by decide +kernel
theorem dX6_place_55 : decode cX6_place 55 = .ok (.aload_n 0, 1) := by decide +kernel
theorem dX6_place_56 : decode cX6_place 56 = .ok (.getfield 7, 3) := by decide +kernel
theorem dX6_place_59 : decode cX6_place 59 = .ok (.bipush 20, 2) := by decide +kernel
theorem dX6_place_61 : decode cX6_place 61 = .ok (.iload_n 3, 1) := by decide +kernel
theorem dX6_place_62 : decode cX6_place 62 = .ok (.iadd, 1) := by decide +kernel
theorem dX6_place_63 : decode cX6_place 63 = .ok (.iaload, 1) := by decide +kernel
theorem dX6_place_64 : decode cX6_place 64 = .ok (.if_icmp .le 6, 3) := by decide +kernel
theorem dX6_place_67 : decode cX6_place 67 = .ok (.bipush (-6), 2) := by decide +kernel
theorem dX6_place_69 : decode cX6_place 69 = .ok (.ireturn, 1) := by decide +kernel
theorem dX6_place_70 : decode cX6_place 70 = .ok (.aload_n 0, 1) := by decide +kernel
theorem dX6_place_71 : decode cX6_place 71 = .ok (.getfield 32, 3) := by decide +kernel
theorem dX6_place_74 : decode cX6_place 74 = .ok (.iload_n 3, 1) := by decide +kernel
theorem dX6_place_75 : decode cX6_place 75 = .ok (.dup2, 1) := by decide +kernel
theorem dX6_place_76 : decode cX6_place 76 = .ok (.iaload, 1) := by decide +kernel
theorem dX6_place_77 : decode cX6_place 77 = .ok (.aload_n 0, 1) := by decide +kernel
theorem dX6_place_78 : decode cX6_place 78 = .ok (.getfield 7, 3) := by decide +kernel
theorem dX6_place_81 : decode cX6_place 81 = .ok (.bipush 50, 2) := by decide +kernel
theorem dX6_place_83 : decode cX6_place 83 = .ok (.iload_n 1, 1) := by decide +kernel
theorem dX6_place_84 : decode cX6_place 84 = .ok (.iadd, 1) := by decide +kernel
theorem dX6_place_85 : decode cX6_place 85 = .ok (.iaload, 1) := by decide +kernel
theorem dX6_place_86 : decode cX6_place 86 = .ok (.iadd, 1) := by decide +kernel
theorem dX6_place_87 : decode cX6_place 87 = .ok (.iastore, 1) := by decide +kernel
theorem dX6_place_88 : decode cX6_place 88 = .ok (.iload_n 3, 1) := by decide +kernel
theorem dX6_place_89 : decode cX6_place 89 = .ok (.ireturn, 1) := by decide +kernel
set_option maxRecDepth 20000 in
theorem ggX6_pass_X6_place : GoodIn wsX6_pass wsX6_place := goodIn_r _ [13, 7, 1, 14, 15, 16, 12, 17, 18, 19, 20, 21, 22, 23, 24, 25, 26, 27, 28, 29, 30, 31, 32, 33] (by decide +kernel) (by decide +kernel)
set_option maxRecDepth 20000 in
theorem gX6_pass_X6_place : GoodIn wsX6_pass (wsV RX6 74 RX6 yX6_place wsX6_place) := goodIn_app (goodIn_of _ (by decide +kernel)) ggX6_pass_X6_place
theorem dX6_pass_0 : decode cX6_pass 0 = .ok (.iconst 0, 1) := by decide +kernel
theorem dX6_pass_1 : decode cX6_pass 1 = .ok (.istore_n 2, 1) := by decide +kernel
theorem dX6_pass_2 : decode cX6_pass 2 = .ok (.iload_n 2, 1) := by decide +kernel
theorem dX6_pass_3 : decode cX6_pass 3 = .ok (.iconst 4, 1) := by decide +kernel
theorem dX6_pass_4 : decode cX6_pass 4 = .ok (.if_icmp .ge 16, 3) := by decide +kernel
theorem dX6_pass_7 : decode cX6_pass 7 = .ok (.aload_n 0, 1) := by decide +kernel
theorem dX6_pass_8 : decode cX6_pass 8 = .ok (.getfield 32, 3) := by decide +kernel
theorem dX6_pass_11 : decode cX6_pass 11 = .ok (.iload_n 2, 1) := by decide +kernel
theorem dX6_pass_12 : decode cX6_pass 12 = .ok (.iconst 0, 1) := by decide +kernel
theorem dX6_pass_13 : decode cX6_pass 13 = .ok (.iastore, 1) := by decide +kernel
theorem dX6_pass_14 : decode cX6_pass 14 = .ok (.iinc 2 1, 3) := by decide +kernel
theorem dX6_pass_17 : decode cX6_pass 17 = .ok (.goto (-15), 3) := by decide +kernel
theorem dX6_pass_20 : decode cX6_pass 20 = .ok (.iconst 0, 1) := by decide +kernel
theorem dX6_pass_21 : decode cX6_pass 21 = .ok (.istore_n 2, 1) := by decide +kernel
theorem dX6_pass_22 : decode cX6_pass 22 = .ok (.iload_n 2, 1) := by decide +kernel
theorem dX6_pass_23 : decode cX6_pass 23 = .ok (.aload_n 0, 1) := by decide +kernel
theorem dX6_pass_24 : decode cX6_pass 24 = .ok (.getfield 70, 3) := by decide +kernel
theorem dX6_pass_27 : decode cX6_pass 27 = .ok (.if_icmp .ge 48, 3) := by decide +kernel
theorem dX6_pass_30 : decode cX6_pass 30 = .ok (.aload_n 0, 1) := by decide +kernel
theorem dX6_pass_31 : decode cX6_pass 31 = .ok (.getfield 20, 3) := by decide +kernel
theorem dX6_pass_34 : decode cX6_pass 34 = .ok (.iload_n 2, 1) := by decide +kernel
theorem dX6_pass_35 : decode cX6_pass 35 = .ok (.iaload, 1) := by decide +kernel
theorem dX6_pass_36 : decode cX6_pass 36 = .ok (.istore_n 3, 1) := by decide +kernel
theorem dX6_pass_37 : decode cX6_pass 37 = .ok (.aload_n 0, 1) := by decide +kernel
theorem dX6_pass_38 : decode cX6_pass 38 = .ok (.getfield 26, 3) := by decide +kernel
theorem dX6_pass_41 : decode cX6_pass 41 = .ok (.iload_n 3, 1) := by decide +kernel
theorem dX6_pass_42 : decode cX6_pass 42 = .ok (.aload_n 0, 1) := by decide +kernel
theorem dX6_pass_43 : decode cX6_pass 43 = .ok (.iload_n 3, 1) := by decide +kernel
theorem dX6_pass_44 : decode cX6_pass 44 = .ok (.iload_n 1, 1) := by decide +kernel
theorem dX6_pass_45 : decode cX6_pass 45 = .ok (.invokevirtual 74, 3) := by decide +kernel
theorem dX6_pass_48 : decode cX6_pass 48 = .ok (.iastore, 1) := by decide +kernel
theorem dX6_pass_49 : decode cX6_pass 49 = .ok (.aload_n 0, 1) := by decide +kernel
theorem dX6_pass_50 : decode cX6_pass 50 = .ok (.getfield 29, 3) := by decide +kernel
theorem dX6_pass_53 : decode cX6_pass 53 = .ok (.iload_n 3, 1) := by decide +kernel
theorem dX6_pass_54 : decode cX6_pass 54 = .ok (.aload_n 0, 1) := by decide +kernel
theorem dX6_pass_55 : decode cX6_pass 55 = .ok (.getfield 26, 3) := by decide +kernel
theorem dX6_pass_58 : decode cX6_pass 58 = .ok (.iload_n 3, 1) := by decide +kernel
theorem dX6_pass_59 : decode cX6_pass 59 = .ok (.iaload, 1) := by decide +kernel
theorem dX6_pass_60 : decode cX6_pass 60 = .ok (.ifCond .ge 7, 3) := by decide +kernel
theorem dX6_pass_63 : decode cX6_pass 63 = .ok (.iload_n 1, 1) := by decide +kernel
theorem dX6_pass_64 : decode cX6_pass 64 = .ok (.goto 4, 3) := by decide +kernel
theorem dX6_pass_67 : decode cX6_pass 67 = .ok (.iconst 0, 1) := by decide +kernel
theorem dX6_pass_68 : decode cX6_pass 68 = .ok (.iastore, 1) := by decide +kernel
theorem dX6_pass_69 : decode cX6_pass 69 = .ok (.iinc 2 1, 3) := by decide +kernel
theorem dX6_pass_72 : decode cX6_pass 72 = .ok (.goto (-50), 3) := by decide +kernel
theorem dX6_pass_75 : decode cX6_pass 75 = .ok (.aload_n 0, 1) := by decide +kernel
theorem dX6_pass_76 : decode cX6_pass 76 = .ok (.iconst 0, 1) := by decide +kernel
theorem dX6_pass_77 : decode cX6_pass 77 = .ok (.putfield 77, 3) := by decide +kernel
theorem dX6_pass_80 : decode cX6_pass 80 = .ok (.iconst 0, 1) := by decide +kernel
theorem dX6_pass_81 : decode cX6_pass 81 = .ok (.istore_n 2, 1) := by decide +kernel
theorem dX6_pass_82 : decode cX6_pass 82 = .ok (.iload_n 2, 1) := by decide +kernel
theorem dX6_pass_83 : decode cX6_pass 83 = .ok (.aload_n 0, 1) := by decide +kernel
theorem dX6_pass_84 : decode cX6_pass 84 = .ok (.getfield 7, 3) := by decide +kernel
theorem dX6_pass_87 : decode cX6_pass 87 = .ok (.bipush 24, 2) := by decide +kernel
theorem dX6_pass_89 : decode cX6_pass 89 = .ok (.iaload, 1) := by decide +kernel
theorem dX6_pass_90 : decode cX6_pass 90 = .ok (.if_icmp .ge 65, 3) := by decide +kernel
theorem dX6_pass_93 : decode cX6_pass 93 = .ok (.iconst 0, 1) := by decide +kernel
theorem dX6_pass_94 : decode cX6_pass 94 = .ok (.istore_n 3, 1) := by decide +kernel
theorem dX6_pass_95 : decode cX6_pass 95 = .ok (.iload_n 3, 1) := by decide +kernel
theorem dX6_pass_96 : decode cX6_pass 96 = .ok (.aload_n 0, 1) := by decide +kernel
theorem dX6_pass_97 : decode cX6_pass 97 = .ok (.getfield 70, 3) := by decide +kernel
theorem dX6_pass_100 : decode cX6_pass 100 = .ok (.if_icmp .ge 49, 3) := by decide +kernel
theorem dX6_pass_103 : decode cX6_pass 103 = .ok (.aload_n 0, 1) := by decide +kernel
theorem dX6_pass_104 : decode cX6_pass 104 = .ok (.getfield 26, 3) := by decide +kernel
theorem dX6_pass_107 : decode cX6_pass 107 = .ok (.aload_n 0, 1) := by decide +kernel
theorem dX6_pass_108 : decode cX6_pass 108 = .ok (.getfield 20, 3) := by decide +kernel
theorem dX6_pass_111 : decode cX6_pass 111 = .ok (.iload_n 3, 1) := by decide +kernel
theorem dX6_pass_112 : decode cX6_pass 112 = .ok (.iaload, 1) := by decide +kernel
theorem dX6_pass_113 : decode cX6_pass 113 = .ok (.iaload, 1) := by decide +kernel
theorem dX6_pass_114 : decode cX6_pass 114 = .ok (.iload_n 2, 1) := by decide +kernel
theorem dX6_pass_115 : decode cX6_pass 115 = .ok (.if_icmp .ne 28, 3) := by decide +kernel
theorem dX6_pass_118 : decode cX6_pass 118 = .ok (.aload_n 0, 1) := by decide +kernel
theorem dX6_pass_119 : decode cX6_pass 119 = .ok (.getfield 23, 3) := by decide +kernel
theorem dX6_pass_122 : decode cX6_pass 122 = .ok (.aload_n 0, 1) := by decide +kernel
theorem dX6_pass_123 : decode cX6_pass 123 = .ok (.getfield 77, 3) := by decide +kernel
theorem dX6_pass_126 : decode cX6_pass 126 = .ok (.aload_n 0, 1) := by decide +kernel
theorem dX6_pass_127 : decode cX6_pass 127 = .ok (.getfield 20, 3) := by decide +kernel
theorem dX6_pass_130 : decode cX6_pass 130 = .ok (.iload_n 3, 1) := by decide +kernel
theorem dX6_pass_131 : decode cX6_pass 131 = .ok (.iaload, 1) := by decide +kernel
theorem dX6_pass_132 : decode cX6_pass 132 = .ok (.iastore, 1) := by decide +kernel
theorem dX6_pass_133 : decode cX6_pass 133 = .ok (.aload_n 0, 1) := by decide +kernel
theorem dX6_pass_134 : decode cX6_pass 134 = .ok (.dup, 1) := by decide +kernel
theorem dX6_pass_135 : decode cX6_pass 135 = .ok (.getfield 77, 3) := by decide +kernel
theorem dX6_pass_138 : decode cX6_pass 138 = .ok (.iconst 1, 1) := by decide +kernel
theorem dX6_pass_139 : decode cX6_pass 139 = .ok (.iadd, 1) := by decide +kernel
theorem dX6_pass_140 : decode cX6_pass 140 = .ok (.putfield 77, 3) := by decide +kernel
theorem dX6_pass_143 : decode cX6_pass 143 = .ok (.iinc 3 1, 3) := by decide +kernel
theorem dX6_pass_146 : decode cX6_pass 146 = .ok (.goto (-51), 3) := by decide +kernel
theorem dX6_pass_149 : decode cX6_pass 149 = .ok (.iinc 2 1, 3) := by decide +kernel
theorem dX6_pass_152 : decode cX6_pass 152 = .ok (.goto (-70), 3) := by decide +kernel
theorem dX6_pass_155 : decode cX6_pass 155 = .ok (.iconst 0, 1) := by decide +kernel
theorem dX6_pass_156 : decode cX6_pass 156 = .ok (.istore_n 2, 1) := by decide +kernel
theorem dX6_pass_157 : decode cX6_pass 157 = .ok (.iload_n 2, 1) := by decide +kernel
theorem dX6_pass_158 : decode cX6_pass 158 = .ok (.aload_n 0, 1) := by decide +kernel
theorem dX6_pass_159 : decode cX6_pass 159 = .ok (.getfield 77, 3) := by decide +kernel
theorem dX6_pass_162 : decode cX6_pass 162 = .ok (.if_icmp .ge 21, 3) := by decide +kernel
theorem dX6_pass_165 : decode cX6_pass 165 = .ok (.aload_n 0, 1) := by decide +kernel
theorem dX6_pass_166 : decode cX6_pass 166 = .ok (.getfield 20, 3) := by decide +kernel
theorem dX6_pass_169 : decode cX6_pass 169 = .ok (.iload_n 2, 1) := by decide +kernel
theorem dX6_pass_170 : decode cX6_pass 170 = .ok (.aload_n 0, 1) := by decide +kernel
theorem dX6_pass_171 : decode cX6_pass 171 = .ok (.getfield 23, 3) := by decide +kernel
theorem dX6_pass_174 : decode cX6_pass 174 = .ok (.iload_n 2, 1) := by decide +kernel
theorem dX6_pass_175 : decode cX6_pass 175 = .ok (.iaload, 1) := by decide +kernel
theorem dX6_pass_176 : decode cX6_pass 176 = .ok (.iastore, 1) := by decide +kernel
theorem dX6_pass_177 : decode cX6_pass 177 = .ok (.iinc 2 1, 3) := by decide +kernel
theorem dX6_pass_180 : decode cX6_pass 180 = .ok (.goto (-23), 3) := by decide +kernel
theorem dX6_pass_183 : decode cX6_pass 183 = .ok (.aload_n 0, 1) := by decide +kernel
theorem dX6_pass_184 : decode cX6_pass 184 = .ok (.aload_n 0, 1) := by decide +kernel
theorem dX6_pass_185 : decode cX6_pass 185 = .ok (.getfield 77, 3) := by decide +kernel
theorem dX6_pass_188 : decode cX6_pass 188 = .ok (.putfield 70, 3) := by decide +kernel
theorem dX6_pass_191 : decode cX6_pass 191 = .ok (.return_, 1) := by decide +kernel
set_option maxRecDepth 20000 in
theorem ggX6_goRun_X6_pass : GoodIn wsX6_goRun wsX6_pass := goodIn_r _ [8, 9, 2, 3, 10, 11, 12, 1, 13, 14, 15, 16, 7, 17, 18, 19, 20, 21, 22, 23, 24, 25, 26, 27, 28, 29, 30, 31, 32, 33, 34, 35, 36, 37] (by decide +kernel) (by decide +kernel)
set_option maxRecDepth 20000 in
theorem gX6_goRun_X6_pass : GoodIn wsX6_goRun (wsV RX6 80 RX6 yX6_pass wsX6_pass) := goodIn_app (goodIn_of _ (by decide +kernel)) ggX6_goRun_X6_pass
theorem dX6_goRun_0 : decode cX6_goRun 0 = .ok (.aload_n 0, 1) := by decide +kernel
theorem dX6_goRun_1 : decode cX6_goRun 1 = .ok (.aload_n 0, 1) := by decide +kernel
theorem dX6_goRun_2 : decode cX6_goRun 2 = .ok (.getfield 7, 3) := by decide +kernel
theorem dX6_goRun_5 : decode cX6_goRun 5 = .ok (.bipush 25, 2) := by decide +kernel
theorem dX6_goRun_7 : decode cX6_goRun 7 = .ok (.iaload, 1) := by decide +kernel
theorem dX6_goRun_8 : decode cX6_goRun 8 = .ok (.putfield 70, 3) := by decide +kernel
theorem dX6_goRun_11 : decode cX6_goRun 11 = .ok (.iconst 0, 1) := by decide +kernel
theorem dX6_goRun_12 : decode cX6_goRun 12 = .ok (.istore_n 2, 1) := by decide +kernel
theorem dX6_goRun_13 : decode cX6_goRun 13 = .ok (.iload_n 2, 1) := by decide +kernel
theorem dX6_goRun_14 : decode cX6_goRun 14 = .ok (.aload_n 0, 1) := by decide +kernel
theorem dX6_goRun_15 : decode cX6_goRun 15 = .ok (.getfield 70, 3) := by decide +kernel
theorem dX6_goRun_18 : decode cX6_goRun 18 = .ok (.if_icmp .ge 16, 3) := by decide +kernel
theorem dX6_goRun_21 : decode cX6_goRun 21 = .ok (.aload_n 0, 1) := by decide +kernel
theorem dX6_goRun_22 : decode cX6_goRun 22 = .ok (.getfield 20, 3) := by decide +kernel
theorem dX6_goRun_25 : decode cX6_goRun 25 = .ok (.iload_n 2, 1) := by decide +kernel
theorem dX6_goRun_26 : decode cX6_goRun 26 = .ok (.iload_n 2, 1) := by decide +kernel
theorem dX6_goRun_27 : decode cX6_goRun 27 = .ok (.iastore, 1) := by decide +kernel
theorem dX6_goRun_28 : decode cX6_goRun 28 = .ok (.iinc 2 1, 3) := by decide +kernel
theorem dX6_goRun_31 : decode cX6_goRun 31 = .ok (.goto (-18), 3) := by decide +kernel
theorem dX6_goRun_34 : decode cX6_goRun 34 = .ok (.iconst 1, 1) := by decide +kernel
theorem dX6_goRun_35 : decode cX6_goRun 35 = .ok (.istore_n 2, 1) := by decide +kernel
theorem dX6_goRun_36 : decode cX6_goRun 36 = .ok (.iload_n 2, 1) := by decide +kernel
theorem dX6_goRun_37 : decode cX6_goRun 37 = .ok (.iload_n 1, 1) := by decide +kernel
theorem dX6_goRun_38 : decode cX6_goRun 38 = .ok (.if_icmp .gt 14, 3) := by decide +kernel
theorem dX6_goRun_41 : decode cX6_goRun 41 = .ok (.aload_n 0, 1) := by decide +kernel
theorem dX6_goRun_42 : decode cX6_goRun 42 = .ok (.iload_n 2, 1) := by decide +kernel
theorem dX6_goRun_43 : decode cX6_goRun 43 = .ok (.invokevirtual 80, 3) := by decide +kernel
theorem dX6_goRun_46 : decode cX6_goRun 46 = .ok (.iinc 2 1, 3) := by decide +kernel
theorem dX6_goRun_49 : decode cX6_goRun 49 = .ok (.goto (-13), 3) := by decide +kernel
theorem dX6_goRun_52 : decode cX6_goRun 52 = .ok (.return_, 1) := by decide +kernel
set_option maxRecDepth 20000 in
theorem ggX6_wrong_X6_placeOf : GoodIn wsX6_wrong wsX6_placeOf := goodIn_r _ [8, 2, 9, 10, 11, 12, 13, 14, 15, 16, 17, 18, 19, 20, 21, 22, 23, 24] (by decide +kernel) (by decide +kernel)
set_option maxRecDepth 20000 in
theorem gX6_wrong_X6_placeOf : GoodIn wsX6_wrong (wsV RX6 56 RX6 yX6_placeOf wsX6_placeOf) := goodIn_app (goodIn_of _ (by decide +kernel)) ggX6_wrong_X6_placeOf
theorem dX6_wrong_0 : decode cX6_wrong 0 = .ok (.iconst 0, 1) := by decide +kernel
theorem dX6_wrong_1 : decode cX6_wrong 1 = .ok (.istore_n 1, 1) := by decide +kernel
theorem dX6_wrong_2 : decode cX6_wrong 2 = .ok (.iconst 0, 1) := by decide +kernel
theorem dX6_wrong_3 : decode cX6_wrong 3 = .ok (.istore_n 2, 1) := by decide +kernel
theorem dX6_wrong_4 : decode cX6_wrong 4 = .ok (.iload_n 2, 1) := by decide +kernel
theorem dX6_wrong_5 : decode cX6_wrong 5 = .ok (.aload_n 0, 1) := by decide +kernel
theorem dX6_wrong_6 : decode cX6_wrong 6 = .ok (.getfield 70, 3) := by decide +kernel
theorem dX6_wrong_9 : decode cX6_wrong 9 = .ok (.if_icmp .ge 74, 3) := by decide +kernel
theorem dX6_wrong_12 : decode cX6_wrong 12 = .ok (.iload_n 2, 1) := by decide +kernel
theorem dX6_wrong_13 : decode cX6_wrong 13 = .ok (.iconst 1, 1) := by decide +kernel
theorem dX6_wrong_14 : decode cX6_wrong 14 = .ok (.iadd, 1) := by decide +kernel
theorem dX6_wrong_15 : decode cX6_wrong 15 = .ok (.istore_n 3, 1) := by decide +kernel
theorem dX6_wrong_16 : decode cX6_wrong 16 = .ok (.iload_n 3, 1) := by decide +kernel
theorem dX6_wrong_17 : decode cX6_wrong 17 = .ok (.aload_n 0, 1) := by decide +kernel
theorem dX6_wrong_18 : decode cX6_wrong 18 = .ok (.getfield 70, 3) := by decide +kernel
theorem dX6_wrong_21 : decode cX6_wrong 21 = .ok (.if_icmp .ge 56, 3) := by decide +kernel
theorem dX6_wrong_24 : decode cX6_wrong 24 = .ok (.iload_n 1, 1) := by decide +kernel
theorem dX6_wrong_25 : decode cX6_wrong 25 = .ok (.aload_n 0, 1) := by decide +kernel
theorem dX6_wrong_26 : decode cX6_wrong 26 = .ok (.aload_n 0, 1) := by decide +kernel
theorem dX6_wrong_27 : decode cX6_wrong 27 = .ok (.getfield 7, 3) := by decide +kernel
theorem dX6_wrong_30 : decode cX6_wrong 30 = .ok (.bipush 26, 2) := by decide +kernel
theorem dX6_wrong_32 : decode cX6_wrong 32 = .ok (.aload_n 0, 1) := by decide +kernel
theorem dX6_wrong_33 : decode cX6_wrong 33 = .ok (.getfield 20, 3) := by decide +kernel
theorem dX6_wrong_36 : decode cX6_wrong 36 = .ok (.iload_n 3, 1) := by decide +kernel
theorem dX6_wrong_37 : decode cX6_wrong 37 = .ok (.iaload, 1) := by decide +kernel
theorem dX6_wrong_38 : decode cX6_wrong 38 = .ok (.iadd, 1) := by decide +kernel
theorem dX6_wrong_39 : decode cX6_wrong 39 = .ok (.iaload, 1) := by decide +kernel
theorem dX6_wrong_40 : decode cX6_wrong 40 = .ok (.invokevirtual 56, 3) := by decide +kernel
theorem dX6_wrong_43 : decode cX6_wrong 43 = .ok (.aload_n 0, 1) := by decide +kernel
theorem dX6_wrong_44 : decode cX6_wrong 44 = .ok (.aload_n 0, 1) := by decide +kernel
theorem dX6_wrong_45 : decode cX6_wrong 45 = .ok (.getfield 7, 3) := by decide +kernel
theorem dX6_wrong_48 : decode cX6_wrong 48 = .ok (.bipush 26, 2) := by decide +kernel
theorem dX6_wrong_50 : decode cX6_wrong 50 = .ok (.aload_n 0, 1) := by decide +kernel
theorem dX6_wrong_51 : decode cX6_wrong 51 = .ok (.getfield 20, 3) := by decide +kernel
theorem dX6_wrong_54 : decode cX6_wrong 54 = .ok (.iload_n 2, 1) := by decide +kernel
theorem dX6_wrong_55 : decode cX6_wrong 55 = .ok (.iaload, 1) := by decide +kernel
theorem dX6_wrong_56 : decode cX6_wrong 56 = .ok (.iadd, 1) := by decide +kernel
theorem dX6_wrong_57 : decode cX6_wrong 57 = .ok (.iaload, 1) := by decide +kernel
theorem dX6_wrong_58 : decode cX6_wrong 58 = .ok (.invokevirtual 56, 3) := by decide +kernel
theorem dX6_wrong_61 : decode cX6_wrong 61 = .ok (.if_icmp .ge 7, 3) := by decide +kernel
theorem dX6_wrong_64 : decode cX6_wrong 64 = .ok (.iconst 1, 1) := by decide +kernel
theorem dX6_wrong_65 : decode cX6_wrong 65 = .ok (.goto 4, 3) := by decide +kernel
theorem dX6_wrong_68 : decode cX6_wrong 68 = .ok (.iconst 0, 1) := by decide +kernel
theorem dX6_wrong_69 : decode cX6_wrong 69 = .ok (.iadd, 1) := by decide +kernel
theorem dX6_wrong_70 : decode cX6_wrong 70 = .ok (.istore_n 1, 1) := by decide +kernel
theorem dX6_wrong_71 : decode cX6_wrong 71 = .ok (.iinc 3 1, 3) := by decide +kernel
theorem dX6_wrong_74 : decode cX6_wrong 74 = .ok (.goto (-58), 3) := by decide +kernel
theorem dX6_wrong_77 : decode cX6_wrong 77 = .ok (.iinc 2 1, 3) := by decide +kernel
theorem dX6_wrong_80 : decode cX6_wrong 80 = .ok (.goto (-76), 3) := by decide +kernel
theorem dX6_wrong_83 : decode cX6_wrong 83 = .ok (.iload_n 1, 1) := by decide +kernel
theorem dX6_wrong_84 : decode cX6_wrong 84 = .ok (.ireturn, 1) := by decide +kernel
theorem dX6_spilledIn_0 : decode cX6_spilledIn 0 = .ok (.iconst 0, 1) := by decide +kernel
theorem dX6_spilledIn_1 : decode cX6_spilledIn 1 = .ok (.istore_n 2, 1) := by decide +kernel
theorem dX6_spilledIn_2 : decode cX6_spilledIn 2 = .ok (.iconst 0, 1) := by decide +kernel
theorem dX6_spilledIn_3 : decode cX6_spilledIn 3 = .ok (.istore_n 3, 1) := by decide +kernel
theorem dX6_spilledIn_4 : decode cX6_spilledIn 4 = .ok (.iload_n 3, 1) := by decide +kernel
theorem dX6_spilledIn_5 : decode cX6_spilledIn 5 = .ok (.aload_n 0, 1) := by decide +kernel
theorem dX6_spilledIn_6 : decode cX6_spilledIn 6 = .ok (.getfield 7, 3) := by decide +kernel
theorem dX6_spilledIn_9 : decode cX6_spilledIn 9 = .ok (.bipush 25, 2) := by decide +kernel
theorem dX6_spilledIn_11 : decode cX6_spilledIn 11 = .ok (.iaload, 1) := by decide +kernel
theorem dX6_spilledIn_12 : decode cX6_spilledIn 12 = .ok (.if_icmp .ge 27, 3) := by decide +kernel
theorem dX6_spilledIn_15 : decode cX6_spilledIn 15 = .ok (.iload_n 2, 1) := by decide +kernel
theorem dX6_spilledIn_16 : decode cX6_spilledIn 16 = .ok (.aload_n 0, 1) := by decide +kernel
theorem dX6_spilledIn_17 : decode cX6_spilledIn 17 = .ok (.getfield 29, 3) := by decide +kernel
theorem dX6_spilledIn_20 : decode cX6_spilledIn 20 = .ok (.iload_n 3, 1) := by decide +kernel
theorem dX6_spilledIn_21 : decode cX6_spilledIn 21 = .ok (.iaload, 1) := by decide +kernel
theorem dX6_spilledIn_22 : decode cX6_spilledIn 22 = .ok (.iload_n 1, 1) := by decide +kernel
theorem dX6_spilledIn_23 : decode cX6_spilledIn 23 = .ok (.if_icmp .ne 7, 3) := by decide +kernel
theorem dX6_spilledIn_26 : decode cX6_spilledIn 26 = .ok (.iconst 1, 1) := by decide +kernel
theorem dX6_spilledIn_27 : decode cX6_spilledIn 27 = .ok (.goto 4, 3) := by decide +kernel
theorem dX6_spilledIn_30 : decode cX6_spilledIn 30 = .ok (.iconst 0, 1) := by decide +kernel
theorem dX6_spilledIn_31 : decode cX6_spilledIn 31 = .ok (.iadd, 1) := by decide +kernel
theorem dX6_spilledIn_32 : decode cX6_spilledIn 32 = .ok (.istore_n 2, 1) := by decide +kernel
theorem dX6_spilledIn_33 : decode cX6_spilledIn 33 = .ok (.iinc 3 1, 3) := by decide +kernel
theorem dX6_spilledIn_36 : decode cX6_spilledIn 36 = .ok (.goto (-32), 3) := by decide +kernel
theorem dX6_spilledIn_39 : decode cX6_spilledIn 39 = .ok (.iload_n 2, 1) := by decide +kernel
theorem dX6_spilledIn_40 : decode cX6_spilledIn 40 = .ok (.ireturn, 1) := by decide +kernel
set_option maxRecDepth 20000 in
theorem ggX6_run_X6_isRun : GoodIn wsX6_run wsX6_isRun := goodIn_r _ [6, 7, 8, 5, 9] (by decide +kernel) (by decide +kernel)
set_option maxRecDepth 20000 in
theorem gX6_run_X6_isRun : GoodIn wsX6_run (va_wsS RX6 84 yX6_isRun wsX6_isRun) := goodIn_app (goodIn_of _ (by decide +kernel)) ggX6_run_X6_isRun
set_option maxRecDepth 20000 in
theorem ggX6_run_X6_in : GoodIn wsX6_run wsX6_in := goodIn_r _ [9] (by decide +kernel) (by decide +kernel)
set_option maxRecDepth 20000 in
theorem gX6_run_X6_in : GoodIn wsX6_run (va_wsS RX6 41 yX6_in wsX6_in) := goodIn_app (goodIn_of _ (by decide +kernel)) ggX6_run_X6_in
set_option maxRecDepth 20000 in
theorem ggX6_run_X6_goRun : GoodIn wsX6_run wsX6_goRun := goodIn_r _ [13, 2, 1, 14, 15, 16, 17, 5, 18, 19, 20, 21, 22, 23, 24, 25, 26, 27, 28, 29, 30, 31, 44, 45, 46, 47, 48, 49, 50, 51, 52, 53, 54, 55, 56, 57, 58, 59] (by decide +kernel) (by decide +kernel)
set_option maxRecDepth 20000 in
theorem gX6_run_X6_goRun : GoodIn wsX6_run (wsV RX6 87 RX6 yX6_goRun wsX6_goRun) := goodIn_app (goodIn_of _ (by decide +kernel)) ggX6_run_X6_goRun
set_option maxRecDepth 20000 in
theorem ggX6_run_X6_wrong : GoodIn wsX6_run wsX6_wrong := goodIn_r _ [35, 1, 2, 14, 36, 37, 38, 5, 39, 44, 45, 46, 47, 48, 49, 50, 51, 52, 53, 54, 55, 56, 57, 58, 59] (by decide +kernel) (by decide +kernel)
set_option maxRecDepth 20000 in
theorem gX6_run_X6_wrong : GoodIn wsX6_run (wsV RX6 90 RX6 yX6_wrong wsX6_wrong) := goodIn_app (goodIn_of _ (by decide +kernel)) ggX6_run_X6_wrong
set_option maxRecDepth 20000 in
theorem ggX6_run_X6_spilledIn : GoodIn wsX6_run wsX6_spilledIn := goodIn_r _ [43, 2, 21, 44, 45, 46, 47, 48, 49, 50, 51, 52, 53, 54, 55, 56, 57, 58, 59] (by decide +kernel) (by decide +kernel)
set_option maxRecDepth 20000 in
theorem gX6_run_X6_spilledIn : GoodIn wsX6_run (wsV RX6 93 RX6 yX6_spilledIn wsX6_spilledIn) := goodIn_app (goodIn_of _ (by decide +kernel)) ggX6_run_X6_spilledIn
theorem dX6_run_0 : decode cX6_run 0 = .ok (.iload_n 1, 1) := by decide +kernel
theorem dX6_run_1 : decode cX6_run 1 = .ok (.invokestatic 84, 3) := by decide +kernel
theorem dX6_run_4 : decode cX6_run 4 = .ok (.ifCond .eq 12, 3) := by decide +kernel
theorem dX6_run_7 : decode cX6_run 7 = .ok (.iload_n 2, 1) := by decide +kernel
theorem dX6_run_8 : decode cX6_run 8 = .ok (.iconst 0, 1) := by decide +kernel
theorem dX6_run_9 : decode cX6_run 9 = .ok (.iconst 3, 1) := by decide +kernel
theorem dX6_run_10 : decode cX6_run 10 = .ok (.invokestatic 41, 3) := by decide +kernel
theorem dX6_run_13 : decode cX6_run 13 = .ok (.ifCond .ne 6, 3) := by decide +kernel
theorem dX6_run_16 : decode cX6_run 16 = .ok (.bipush (-2), 2) := by decide +kernel
theorem dX6_run_18 : decode cX6_run 18 = .ok (.ireturn, 1) := by decide +kernel
theorem dX6_run_19 : decode cX6_run 19 = .ok (.aload_n 0, 1) := by decide +kernel
theorem dX6_run_20 : decode cX6_run 20 = .ok (.iload_n 1, 1) := by decide +kernel
theorem dX6_run_21 : decode cX6_run 21 = .ok (.invokevirtual 87, 3) := by decide +kernel
theorem dX6_run_24 : decode cX6_run 24 = .ok (.iload_n 2, 1) := by decide +kernel
theorem dX6_run_25 : decode cX6_run 25 = .ok (.ifCond .ne 10, 3) := by decide +kernel
theorem dX6_run_28 : decode cX6_run 28 = .ok (.aload_n 0, 1) := by decide +kernel
theorem dX6_run_29 : decode cX6_run 29 = .ok (.getfield 70, 3) := by decide +kernel
theorem dX6_run_32 : decode cX6_run 32 = .ok (.goto 40, 3) := by decide +kernel
theorem dX6_run_35 : decode cX6_run 35 = .ok (.iload_n 2, 1) := by decide +kernel
theorem dX6_run_36 : decode cX6_run 36 = .ok (.iconst 1, 1) := by decide +kernel
theorem dX6_run_37 : decode cX6_run 37 = .ok (.if_icmp .ne 18, 3) := by decide +kernel
theorem dX6_run_40 : decode cX6_run 40 = .ok (.aload_n 0, 1) := by decide +kernel
theorem dX6_run_41 : decode cX6_run 41 = .ok (.getfield 7, 3) := by decide +kernel
theorem dX6_run_44 : decode cX6_run 44 = .ok (.bipush 25, 2) := by decide +kernel
theorem dX6_run_46 : decode cX6_run 46 = .ok (.iaload, 1) := by decide +kernel
theorem dX6_run_47 : decode cX6_run 47 = .ok (.aload_n 0, 1) := by decide +kernel
theorem dX6_run_48 : decode cX6_run 48 = .ok (.getfield 70, 3) := by decide +kernel
theorem dX6_run_51 : decode cX6_run 51 = .ok (.isub, 1) := by decide +kernel
theorem dX6_run_52 : decode cX6_run 52 = .ok (.goto 20, 3) := by decide +kernel
theorem dX6_run_55 : decode cX6_run 55 = .ok (.iload_n 2, 1) := by decide +kernel
theorem dX6_run_56 : decode cX6_run 56 = .ok (.iconst 2, 1) := by decide +kernel
theorem dX6_run_57 : decode cX6_run 57 = .ok (.if_icmp .ne 10, 3) := by decide +kernel
theorem dX6_run_60 : decode cX6_run 60 = .ok (.aload_n 0, 1) := by decide +kernel
theorem dX6_run_61 : decode cX6_run 61 = .ok (.invokevirtual 90, 3) := by decide +kernel
theorem dX6_run_64 : decode cX6_run 64 = .ok (.goto 8, 3) := by decide +kernel
theorem dX6_run_67 : decode cX6_run 67 = .ok (.aload_n 0, 1) := by decide +kernel
theorem dX6_run_68 : decode cX6_run 68 = .ok (.iload_n 1, 1) := by decide +kernel
theorem dX6_run_69 : decode cX6_run 69 = .ok (.invokevirtual 93, 3) := by decide +kernel
theorem dX6_run_72 : decode cX6_run 72 = .ok (.ireturn, 1) := by decide +kernel
set_option maxRecDepth 20000 in
theorem ggX6_out_X6_isRun : GoodIn wsX6_out wsX6_isRun := goodIn_r _ [6, 7, 8, 5, 9] (by decide +kernel) (by decide +kernel)
set_option maxRecDepth 20000 in
theorem gX6_out_X6_isRun : GoodIn wsX6_out (va_wsS RX6 84 yX6_isRun wsX6_isRun) := goodIn_app (goodIn_of _ (by decide +kernel)) ggX6_out_X6_isRun
set_option maxRecDepth 20000 in
theorem ggX6_out_X6_goRun : GoodIn wsX6_out wsX6_goRun := goodIn_r _ [13, 14, 1, 2, 15, 16, 17, 5, 18, 19, 20, 21, 22, 23, 24, 25, 26, 27, 28, 29, 30, 31, 32, 33, 34, 35, 36, 37, 38, 39, 40, 41, 42, 43, 44, 45, 46, 47] (by decide +kernel) (by decide +kernel)
set_option maxRecDepth 20000 in
theorem gX6_out_X6_goRun : GoodIn wsX6_out (wsV RX6 87 RX6 yX6_goRun wsX6_goRun) := goodIn_app (goodIn_of _ (by decide +kernel)) ggX6_out_X6_goRun
set_option maxRecDepth 20000 in
theorem ggX6_out_X6_in : GoodIn wsX6_out wsX6_in := goodIn_r _ [9] (by decide +kernel) (by decide +kernel)
set_option maxRecDepth 20000 in
theorem gX6_out_X6_in : GoodIn wsX6_out (va_wsS RX6 41 yX6_in wsX6_in) := goodIn_app (goodIn_of _ (by decide +kernel)) ggX6_out_X6_in
theorem dX6_out_0 : decode cX6_out 0 = .ok (.iload_n 1, 1) := by decide +kernel
theorem dX6_out_1 : decode cX6_out 1 = .ok (.invokestatic 84, 3) := by decide +kernel
theorem dX6_out_4 : decode cX6_out 4 = .ok (.ifCond .ne 6, 3) := by decide +kernel
theorem dX6_out_7 : decode cX6_out 7 = .ok (.bipush (-2), 2) := by decide +kernel
theorem dX6_out_9 : decode cX6_out 9 = .ok (.ireturn, 1) := by decide +kernel
theorem dX6_out_10 : decode cX6_out 10 = .ok (.aload_n 0, 1) := by decide +kernel
theorem dX6_out_11 : decode cX6_out 11 = .ok (.iload_n 1, 1) := by decide +kernel
theorem dX6_out_12 : decode cX6_out 12 = .ok (.invokevirtual 87, 3) := by decide +kernel
theorem dX6_out_15 : decode cX6_out 15 = .ok (.iload_n 2, 1) := by decide +kernel
theorem dX6_out_16 : decode cX6_out 16 = .ok (.iconst 0, 1) := by decide +kernel
theorem dX6_out_17 : decode cX6_out 17 = .ok (.aload_n 0, 1) := by decide +kernel
theorem dX6_out_18 : decode cX6_out 18 = .ok (.getfield 70, 3) := by decide +kernel
theorem dX6_out_21 : decode cX6_out 21 = .ok (.iconst 1, 1) := by decide +kernel
theorem dX6_out_22 : decode cX6_out 22 = .ok (.isub, 1) := by decide +kernel
theorem dX6_out_23 : decode cX6_out 23 = .ok (.invokestatic 41, 3) := by decide +kernel
theorem dX6_out_26 : decode cX6_out 26 = .ok (.ifCond .eq 12, 3) := by decide +kernel
theorem dX6_out_29 : decode cX6_out 29 = .ok (.aload_n 0, 1) := by decide +kernel
theorem dX6_out_30 : decode cX6_out 30 = .ok (.getfield 20, 3) := by decide +kernel
theorem dX6_out_33 : decode cX6_out 33 = .ok (.iload_n 2, 1) := by decide +kernel
theorem dX6_out_34 : decode cX6_out 34 = .ok (.iaload, 1) := by decide +kernel
theorem dX6_out_35 : decode cX6_out 35 = .ok (.goto 5, 3) := by decide +kernel
theorem dX6_out_38 : decode cX6_out 38 = .ok (.bipush (-6), 2) := by decide +kernel
theorem dX6_out_40 : decode cX6_out 40 = .ok (.ireturn, 1) := by decide +kernel
set_option maxRecDepth 20000 in
theorem ggX6_spilled_X6_isRun : GoodIn wsX6_spilled wsX6_isRun := goodIn_r _ [5, 6, 7, 4, 8] (by decide +kernel) (by decide +kernel)
set_option maxRecDepth 20000 in
theorem gX6_spilled_X6_isRun : GoodIn wsX6_spilled (va_wsS RX6 84 yX6_isRun wsX6_isRun) := goodIn_app (goodIn_of _ (by decide +kernel)) ggX6_spilled_X6_isRun
set_option maxRecDepth 20000 in
theorem ggX6_spilled_X6_isLetter : GoodIn wsX6_spilled wsX6_isLetter := goodIn_r _ [12, 13, 6, 7, 4, 8, 36, 37, 38, 39, 40, 41, 42, 43, 44, 45, 46, 47, 48, 49, 50, 51] (by decide +kernel) (by decide +kernel)
set_option maxRecDepth 20000 in
theorem gX6_spilled_X6_isLetter : GoodIn wsX6_spilled (wsV RX6 49 RX6 yX6_isLetter wsX6_isLetter) := goodIn_app (goodIn_of _ (by decide +kernel)) ggX6_spilled_X6_isLetter
set_option maxRecDepth 20000 in
theorem ggX6_spilled_X6_goRun : GoodIn wsX6_spilled wsX6_goRun := goodIn_r _ [17, 13, 18, 19, 20, 21, 22, 4, 23, 24, 25, 1, 26, 27, 28, 29, 30, 31, 32, 33, 34, 35, 36, 37, 38, 39, 40, 41, 42, 43, 44, 45, 46, 47, 48, 49, 50, 51] (by decide +kernel) (by decide +kernel)
set_option maxRecDepth 20000 in
theorem gX6_spilled_X6_goRun : GoodIn wsX6_spilled (wsV RX6 87 RX6 yX6_goRun wsX6_goRun) := goodIn_app (goodIn_of _ (by decide +kernel)) ggX6_spilled_X6_goRun
theorem dX6_spilled_0 : decode cX6_spilled 0 = .ok (.iload_n 1, 1) := by decide +kernel
theorem dX6_spilled_1 : decode cX6_spilled 1 = .ok (.invokestatic 84, 3) := by decide +kernel
theorem dX6_spilled_4 : decode cX6_spilled 4 = .ok (.ifCond .ne 6, 3) := by decide +kernel
theorem dX6_spilled_7 : decode cX6_spilled 7 = .ok (.bipush (-2), 2) := by decide +kernel
theorem dX6_spilled_9 : decode cX6_spilled 9 = .ok (.ireturn, 1) := by decide +kernel
theorem dX6_spilled_10 : decode cX6_spilled 10 = .ok (.aload_n 0, 1) := by decide +kernel
theorem dX6_spilled_11 : decode cX6_spilled 11 = .ok (.iload_n 2, 1) := by decide +kernel
theorem dX6_spilled_12 : decode cX6_spilled 12 = .ok (.invokevirtual 49, 3) := by decide +kernel
theorem dX6_spilled_15 : decode cX6_spilled 15 = .ok (.ifCond .ne 5, 3) := by decide +kernel
theorem dX6_spilled_18 : decode cX6_spilled 18 = .ok (.iconst (-1), 1) := by decide +kernel
theorem dX6_spilled_19 : decode cX6_spilled 19 = .ok (.ireturn, 1) := by decide +kernel
theorem dX6_spilled_20 : decode cX6_spilled 20 = .ok (.aload_n 0, 1) := by decide +kernel
theorem dX6_spilled_21 : decode cX6_spilled 21 = .ok (.iload_n 1, 1) := by decide +kernel
theorem dX6_spilled_22 : decode cX6_spilled 22 = .ok (.invokevirtual 87, 3) := by decide +kernel
theorem dX6_spilled_25 : decode cX6_spilled 25 = .ok (.aload_n 0, 1) := by decide +kernel
theorem dX6_spilled_26 : decode cX6_spilled 26 = .ok (.getfield 29, 3) := by decide +kernel
theorem dX6_spilled_29 : decode cX6_spilled 29 = .ok (.iload_n 2, 1) := by decide +kernel
theorem dX6_spilled_30 : decode cX6_spilled 30 = .ok (.iaload, 1) := by decide +kernel
theorem dX6_spilled_31 : decode cX6_spilled 31 = .ok (.ireturn, 1) := by decide +kernel
set_option maxRecDepth 20000 in
theorem ggX6_load_X6_isRun : GoodIn wsX6_load wsX6_isRun := goodIn_r _ [5, 6, 7, 4, 8] (by decide +kernel) (by decide +kernel)
set_option maxRecDepth 20000 in
theorem gX6_load_X6_isRun : GoodIn wsX6_load (va_wsS RX6 84 yX6_isRun wsX6_isRun) := goodIn_app (goodIn_of _ (by decide +kernel)) ggX6_load_X6_isRun
set_option maxRecDepth 20000 in
theorem ggX6_load_X6_isStacker : GoodIn wsX6_load wsX6_isStacker := goodIn_r _ [12, 13, 6, 7, 4, 8, 36, 37, 38, 39, 40, 41, 42, 43, 44, 45, 46, 47, 48, 49, 50, 51] (by decide +kernel) (by decide +kernel)
set_option maxRecDepth 20000 in
theorem gX6_load_X6_isStacker : GoodIn wsX6_load (wsV RX6 60 RX6 yX6_isStacker wsX6_isStacker) := goodIn_app (goodIn_of _ (by decide +kernel)) ggX6_load_X6_isStacker
set_option maxRecDepth 20000 in
theorem ggX6_load_X6_goRun : GoodIn wsX6_load wsX6_goRun := goodIn_r _ [17, 13, 18, 19, 20, 21, 22, 4, 23, 1, 24, 25, 26, 27, 28, 29, 30, 31, 32, 33, 34, 35, 36, 37, 38, 39, 40, 41, 42, 43, 44, 45, 46, 47, 48, 49, 50, 51] (by decide +kernel) (by decide +kernel)
set_option maxRecDepth 20000 in
theorem gX6_load_X6_goRun : GoodIn wsX6_load (wsV RX6 87 RX6 yX6_goRun wsX6_goRun) := goodIn_app (goodIn_of _ (by decide +kernel)) ggX6_load_X6_goRun
theorem dX6_load_0 : decode cX6_load 0 = .ok (.iload_n 1, 1) := by decide +kernel
theorem dX6_load_1 : decode cX6_load 1 = .ok (.invokestatic 84, 3) := by decide +kernel
theorem dX6_load_4 : decode cX6_load 4 = .ok (.ifCond .ne 6, 3) := by decide +kernel
theorem dX6_load_7 : decode cX6_load 7 = .ok (.bipush (-2), 2) := by decide +kernel
theorem dX6_load_9 : decode cX6_load 9 = .ok (.ireturn, 1) := by decide +kernel
theorem dX6_load_10 : decode cX6_load 10 = .ok (.aload_n 0, 1) := by decide +kernel
theorem dX6_load_11 : decode cX6_load 11 = .ok (.iload_n 2, 1) := by decide +kernel
theorem dX6_load_12 : decode cX6_load 12 = .ok (.invokevirtual 60, 3) := by decide +kernel
theorem dX6_load_15 : decode cX6_load 15 = .ok (.ifCond .ne 5, 3) := by decide +kernel
theorem dX6_load_18 : decode cX6_load 18 = .ok (.iconst (-1), 1) := by decide +kernel
theorem dX6_load_19 : decode cX6_load 19 = .ok (.ireturn, 1) := by decide +kernel
theorem dX6_load_20 : decode cX6_load 20 = .ok (.aload_n 0, 1) := by decide +kernel
theorem dX6_load_21 : decode cX6_load 21 = .ok (.iload_n 1, 1) := by decide +kernel
theorem dX6_load_22 : decode cX6_load 22 = .ok (.invokevirtual 87, 3) := by decide +kernel
theorem dX6_load_25 : decode cX6_load 25 = .ok (.aload_n 0, 1) := by decide +kernel
theorem dX6_load_26 : decode cX6_load 26 = .ok (.getfield 32, 3) := by decide +kernel
theorem dX6_load_29 : decode cX6_load 29 = .ok (.iload_n 2, 1) := by decide +kernel
theorem dX6_load_30 : decode cX6_load 30 = .ok (.iaload, 1) := by decide +kernel
theorem dX6_load_31 : decode cX6_load 31 = .ok (.ireturn, 1) := by decide +kernel
set_option maxRecDepth 20000 in
theorem ggX6_rise_X6_isUsed : GoodIn wsX6_rise wsX6_isUsed := goodIn_r _ [6, 1, 7, 8, 9, 10, 11, 12, 13, 14, 15, 16, 17, 18, 19, 20, 21, 22] (by decide +kernel) (by decide +kernel)
set_option maxRecDepth 20000 in
theorem gX6_rise_X6_isUsed : GoodIn wsX6_rise (wsV RX6 63 RX6 yX6_isUsed wsX6_isUsed) := goodIn_app (goodIn_of _ (by decide +kernel)) ggX6_rise_X6_isUsed
theorem dX6_rise_0 : decode cX6_rise 0 = .ok (.iconst (-1), 1) := by decide +kernel
theorem dX6_rise_1 : decode cX6_rise 1 = .ok (.istore_n 1, 1) := by decide +kernel
theorem dX6_rise_2 : decode cX6_rise 2 = .ok (.iconst 0, 1) := by decide +kernel
theorem dX6_rise_3 : decode cX6_rise 3 = .ok (.istore_n 2, 1) := by decide +kernel
theorem dX6_rise_4 : decode cX6_rise 4 = .ok (.iload_n 2, 1) := by decide +kernel
theorem dX6_rise_5 : decode cX6_rise 5 = .ok (.bipush 10, 2) := by decide +kernel
theorem dX6_rise_7 : decode cX6_rise 7 = .ok (.if_icmp .ge 51, 3) := by decide +kernel
theorem dX6_rise_10 : decode cX6_rise 10 = .ok (.aload_n 0, 1) := by decide +kernel
theorem dX6_rise_11 : decode cX6_rise 11 = .ok (.getfield 7, 3) := by decide +kernel
theorem dX6_rise_14 : decode cX6_rise 14 = .ok (.iconst 0, 1) := by decide +kernel
theorem dX6_rise_15 : decode cX6_rise 15 = .ok (.iload_n 2, 1) := by decide +kernel
theorem dX6_rise_16 : decode cX6_rise 16 = .ok (.iadd, 1) := by decide +kernel
theorem dX6_rise_17 : decode cX6_rise 17 = .ok (.iaload, 1) := by decide +kernel
theorem dX6_rise_18 : decode cX6_rise 18 = .ok (.istore_n 3, 1) := by decide +kernel
theorem dX6_rise_19 : decode cX6_rise 19 = .ok (.aload_n 0, 1) := by decide +kernel
theorem dX6_rise_20 : decode cX6_rise 20 = .ok (.iload_n 3, 1) := by decide +kernel
theorem dX6_rise_21 : decode cX6_rise 21 = .ok (.invokevirtual 63, 3) := by decide +kernel
theorem dX6_rise_24 : decode cX6_rise 24 = .ok (.ifCond .eq 28, 3) := by decide +kernel
theorem dX6_rise_27 : decode cX6_rise 27 = .ok (.aload_n 0, 1) := by decide +kernel
theorem dX6_rise_28 : decode cX6_rise 28 = .ok (.getfield 7, 3) := by decide +kernel
theorem dX6_rise_31 : decode cX6_rise 31 = .ok (.bipush 10, 2) := by decide +kernel
theorem dX6_rise_33 : decode cX6_rise 33 = .ok (.iload_n 3, 1) := by decide +kernel
theorem dX6_rise_34 : decode cX6_rise 34 = .ok (.iadd, 1) := by decide +kernel
theorem dX6_rise_35 : decode cX6_rise 35 = .ok (.iaload, 1) := by decide +kernel
theorem dX6_rise_36 : decode cX6_rise 36 = .ok (.iload_n 1, 1) := by decide +kernel
theorem dX6_rise_37 : decode cX6_rise 37 = .ok (.if_icmp .gt 5, 3) := by decide +kernel
theorem dX6_rise_40 : decode cX6_rise 40 = .ok (.iconst 0, 1) := by decide +kernel
theorem dX6_rise_41 : decode cX6_rise 41 = .ok (.ireturn, 1) := by decide +kernel
theorem dX6_rise_42 : decode cX6_rise 42 = .ok (.aload_n 0, 1) := by decide +kernel
theorem dX6_rise_43 : decode cX6_rise 43 = .ok (.getfield 7, 3) := by decide +kernel
theorem dX6_rise_46 : decode cX6_rise 46 = .ok (.bipush 10, 2) := by decide +kernel
theorem dX6_rise_48 : decode cX6_rise 48 = .ok (.iload_n 3, 1) := by decide +kernel
theorem dX6_rise_49 : decode cX6_rise 49 = .ok (.iadd, 1) := by decide +kernel
theorem dX6_rise_50 : decode cX6_rise 50 = .ok (.iaload, 1) := by decide +kernel
theorem dX6_rise_51 : decode cX6_rise 51 = .ok (.istore_n 1, 1) := by decide +kernel
theorem dX6_rise_52 : decode cX6_rise 52 = .ok (.iinc 2 1, 3) := by decide +kernel
theorem dX6_rise_55 : decode cX6_rise 55 = .ok (.goto (-51), 3) := by decide +kernel
theorem dX6_rise_58 : decode cX6_rise 58 = .ok (.iconst 1, 1) := by decide +kernel
theorem dX6_rise_59 : decode cX6_rise 59 = .ok (.ireturn, 1) := by decide +kernel
theorem dX6_power_0 : decode cX6_power 0 = .ok (.iconst 1, 1) := by decide +kernel
theorem dX6_power_1 : decode cX6_power 1 = .ok (.istore_n 2, 1) := by decide +kernel
theorem dX6_power_2 : decode cX6_power 2 = .ok (.iconst 0, 1) := by decide +kernel
theorem dX6_power_3 : decode cX6_power 3 = .ok (.istore_n 3, 1) := by decide +kernel
theorem dX6_power_4 : decode cX6_power 4 = .ok (.iload_n 3, 1) := by decide +kernel
theorem dX6_power_5 : decode cX6_power 5 = .ok (.iload_n 1, 1) := by decide +kernel
theorem dX6_power_6 : decode cX6_power 6 = .ok (.if_icmp .ge 19, 3) := by decide +kernel
theorem dX6_power_9 : decode cX6_power 9 = .ok (.iload_n 2, 1) := by decide +kernel
theorem dX6_power_10 : decode cX6_power 10 = .ok (.aload_n 0, 1) := by decide +kernel
theorem dX6_power_11 : decode cX6_power 11 = .ok (.getfield 7, 3) := by decide +kernel
theorem dX6_power_14 : decode cX6_power 14 = .ok (.bipush 24, 2) := by decide +kernel
theorem dX6_power_16 : decode cX6_power 16 = .ok (.iaload, 1) := by decide +kernel
theorem dX6_power_17 : decode cX6_power 17 = .ok (.imul, 1) := by decide +kernel
theorem dX6_power_18 : decode cX6_power 18 = .ok (.istore_n 2, 1) := by decide +kernel
theorem dX6_power_19 : decode cX6_power 19 = .ok (.iinc 3 1, 3) := by decide +kernel
theorem dX6_power_22 : decode cX6_power 22 = .ok (.goto (-18), 3) := by decide +kernel
theorem dX6_power_25 : decode cX6_power 25 = .ok (.iload_n 2, 1) := by decide +kernel
theorem dX6_power_26 : decode cX6_power 26 = .ok (.ireturn, 1) := by decide +kernel
theorem dX6_size_0 : decode cX6_size 0 = .ok (.iconst 0, 1) := by decide +kernel
theorem dX6_size_1 : decode cX6_size 1 = .ok (.istore_n 1, 1) := by decide +kernel
theorem dX6_size_2 : decode cX6_size 2 = .ok (.iconst 0, 1) := by decide +kernel
theorem dX6_size_3 : decode cX6_size 3 = .ok (.istore_n 2, 1) := by decide +kernel
theorem dX6_size_4 : decode cX6_size 4 = .ok (.iload_n 2, 1) := by decide +kernel
theorem dX6_size_5 : decode cX6_size 5 = .ok (.bipush 16, 2) := by decide +kernel
theorem dX6_size_7 : decode cX6_size 7 = .ok (.if_icmp .ge 17, 3) := by decide +kernel
theorem dX6_size_10 : decode cX6_size 10 = .ok (.iload_n 1, 1) := by decide +kernel
theorem dX6_size_11 : decode cX6_size 11 = .ok (.iload_n 0, 1) := by decide +kernel
theorem dX6_size_12 : decode cX6_size 12 = .ok (.iload_n 2, 1) := by decide +kernel
theorem dX6_size_13 : decode cX6_size 13 = .ok (.ishr, 1) := by decide +kernel
theorem dX6_size_14 : decode cX6_size 14 = .ok (.iconst 1, 1) := by decide +kernel
theorem dX6_size_15 : decode cX6_size 15 = .ok (.iand, 1) := by decide +kernel
theorem dX6_size_16 : decode cX6_size 16 = .ok (.iadd, 1) := by decide +kernel
theorem dX6_size_17 : decode cX6_size 17 = .ok (.istore_n 1, 1) := by decide +kernel
theorem dX6_size_18 : decode cX6_size 18 = .ok (.iinc 2 1, 3) := by decide +kernel
theorem dX6_size_21 : decode cX6_size 21 = .ok (.goto (-17), 3) := by decide +kernel
theorem dX6_size_24 : decode cX6_size 24 = .ok (.iload_n 1, 1) := by decide +kernel
theorem dX6_size_25 : decode cX6_size 25 = .ok (.ireturn, 1) := by decide +kernel
set_option maxRecDepth 20000 in
theorem ggX6_usedMany_X6_isUsed : GoodIn wsX6_usedMany wsX6_isUsed := goodIn_r _ [5, 6, 7, 8, 9, 10, 11, 12, 13, 14, 15, 16, 17, 18, 19, 20, 21, 22] (by decide +kernel) (by decide +kernel)
set_option maxRecDepth 20000 in
theorem gX6_usedMany_X6_isUsed : GoodIn wsX6_usedMany (wsV RX6 63 RX6 yX6_isUsed wsX6_isUsed) := goodIn_app (goodIn_of _ (by decide +kernel)) ggX6_usedMany_X6_isUsed
theorem dX6_usedMany_0 : decode cX6_usedMany 0 = .ok (.iconst 0, 1) := by decide +kernel
theorem dX6_usedMany_1 : decode cX6_usedMany 1 = .ok (.istore_n 1, 1) := by decide +kernel
theorem dX6_usedMany_2 : decode cX6_usedMany 2 = .ok (.iconst 0, 1) := by decide +kernel
theorem dX6_usedMany_3 : decode cX6_usedMany 3 = .ok (.istore_n 2, 1) := by decide +kernel
theorem dX6_usedMany_4 : decode cX6_usedMany 4 = .ok (.iload_n 2, 1) := by decide +kernel
theorem dX6_usedMany_5 : decode cX6_usedMany 5 = .ok (.bipush 10, 2) := by decide +kernel
theorem dX6_usedMany_7 : decode cX6_usedMany 7 = .ok (.if_icmp .ge 25, 3) := by decide +kernel
theorem dX6_usedMany_10 : decode cX6_usedMany 10 = .ok (.iload_n 1, 1) := by decide +kernel
theorem dX6_usedMany_11 : decode cX6_usedMany 11 = .ok (.aload_n 0, 1) := by decide +kernel
theorem dX6_usedMany_12 : decode cX6_usedMany 12 = .ok (.iload_n 2, 1) := by decide +kernel
theorem dX6_usedMany_13 : decode cX6_usedMany 13 = .ok (.invokevirtual 63, 3) := by decide +kernel
theorem dX6_usedMany_16 : decode cX6_usedMany 16 = .ok (.ifCond .eq 7, 3) := by decide +kernel
theorem dX6_usedMany_19 : decode cX6_usedMany 19 = .ok (.iconst 1, 1) := by decide +kernel
theorem dX6_usedMany_20 : decode cX6_usedMany 20 = .ok (.goto 4, 3) := by decide +kernel
theorem dX6_usedMany_23 : decode cX6_usedMany 23 = .ok (.iconst 0, 1) := by decide +kernel
theorem dX6_usedMany_24 : decode cX6_usedMany 24 = .ok (.iadd, 1) := by decide +kernel
theorem dX6_usedMany_25 : decode cX6_usedMany 25 = .ok (.istore_n 1, 1) := by decide +kernel
theorem dX6_usedMany_26 : decode cX6_usedMany 26 = .ok (.iinc 2 1, 3) := by decide +kernel
theorem dX6_usedMany_29 : decode cX6_usedMany 29 = .ok (.goto (-25), 3) := by decide +kernel
theorem dX6_usedMany_32 : decode cX6_usedMany 32 = .ok (.iload_n 1, 1) := by decide +kernel
theorem dX6_usedMany_33 : decode cX6_usedMany 33 = .ok (.ireturn, 1) := by decide +kernel
set_option maxRecDepth 20000 in
theorem ggX6_takeCodes_X6_isUsed : GoodIn wsX6_takeCodes wsX6_isUsed := goodIn_r _ [6, 1, 7, 8, 9, 10, 11, 12, 13, 14, 15, 16, 17, 18, 19, 20, 21, 22] (by decide +kernel) (by decide +kernel)
set_option maxRecDepth 20000 in
theorem gX6_takeCodes_X6_isUsed : GoodIn wsX6_takeCodes (wsV RX6 63 RX6 yX6_isUsed wsX6_isUsed) := goodIn_app (goodIn_of _ (by decide +kernel)) ggX6_takeCodes_X6_isUsed
theorem dX6_takeCodes_0 : decode cX6_takeCodes 0 = .ok (.iconst 0, 1) := by decide +kernel
theorem dX6_takeCodes_1 : decode cX6_takeCodes 1 = .ok (.istore_n 2, 1) := by decide +kernel
theorem dX6_takeCodes_2 : decode cX6_takeCodes 2 = .ok (.iconst 0, 1) := by decide +kernel
theorem dX6_takeCodes_3 : decode cX6_takeCodes 3 = .ok (.istore_n 3, 1) := by decide +kernel
theorem dX6_takeCodes_4 : decode cX6_takeCodes 4 = .ok (.iload_n 3, 1) := by decide +kernel
theorem dX6_takeCodes_5 : decode cX6_takeCodes 5 = .ok (.bipush 10, 2) := by decide +kernel
theorem dX6_takeCodes_7 : decode cX6_takeCodes 7 = .ok (.if_icmp .ge 58, 3) := by decide +kernel
theorem dX6_takeCodes_10 : decode cX6_takeCodes 10 = .ok (.aload_n 0, 1) := by decide +kernel
theorem dX6_takeCodes_11 : decode cX6_takeCodes 11 = .ok (.aload_n 0, 1) := by decide +kernel
theorem dX6_takeCodes_12 : decode cX6_takeCodes 12 = .ok (.getfield 7, 3) := by decide +kernel
theorem dX6_takeCodes_15 : decode cX6_takeCodes 15 = .ok (.iconst 0, 1) := by decide +kernel
theorem dX6_takeCodes_16 : decode cX6_takeCodes 16 = .ok (.iload_n 3, 1) := by decide +kernel
theorem dX6_takeCodes_17 : decode cX6_takeCodes 17 = .ok (.iadd, 1) := by decide +kernel
theorem dX6_takeCodes_18 : decode cX6_takeCodes 18 = .ok (.iaload, 1) := by decide +kernel
theorem dX6_takeCodes_19 : decode cX6_takeCodes 19 = .ok (.invokevirtual 63, 3) := by decide +kernel
theorem dX6_takeCodes_22 : decode cX6_takeCodes 22 = .ok (.ifCond .eq 37, 3) := by decide +kernel
theorem dX6_takeCodes_25 : decode cX6_takeCodes 25 = .ok (.iload_n 1, 1) := by decide +kernel
theorem dX6_takeCodes_26 : decode cX6_takeCodes 26 = .ok (.iload_n 2, 1) := by decide +kernel
theorem dX6_takeCodes_27 : decode cX6_takeCodes 27 = .ok (.ishr, 1) := by decide +kernel
theorem dX6_takeCodes_28 : decode cX6_takeCodes 28 = .ok (.iconst 1, 1) := by decide +kernel
theorem dX6_takeCodes_29 : decode cX6_takeCodes 29 = .ok (.iand, 1) := by decide +kernel
theorem dX6_takeCodes_30 : decode cX6_takeCodes 30 = .ok (.ifCond .ne 9, 3) := by decide +kernel
theorem dX6_takeCodes_33 : decode cX6_takeCodes 33 = .ok (.iinc 2 1, 3) := by decide +kernel
theorem dX6_takeCodes_36 : decode cX6_takeCodes 36 = .ok (.goto (-11), 3) := by decide +kernel
theorem dX6_takeCodes_39 : decode cX6_takeCodes 39 = .ok (.aload_n 0, 1) := by decide +kernel
theorem dX6_takeCodes_40 : decode cX6_takeCodes 40 = .ok (.getfield 7, 3) := by decide +kernel
theorem dX6_takeCodes_43 : decode cX6_takeCodes 43 = .ok (.bipush 10, 2) := by decide +kernel
theorem dX6_takeCodes_45 : decode cX6_takeCodes 45 = .ok (.aload_n 0, 1) := by decide +kernel
theorem dX6_takeCodes_46 : decode cX6_takeCodes 46 = .ok (.getfield 7, 3) := by decide +kernel
theorem dX6_takeCodes_49 : decode cX6_takeCodes 49 = .ok (.iconst 0, 1) := by decide +kernel
theorem dX6_takeCodes_50 : decode cX6_takeCodes 50 = .ok (.iload_n 3, 1) := by decide +kernel
theorem dX6_takeCodes_51 : decode cX6_takeCodes 51 = .ok (.iadd, 1) := by decide +kernel
theorem dX6_takeCodes_52 : decode cX6_takeCodes 52 = .ok (.iaload, 1) := by decide +kernel
theorem dX6_takeCodes_53 : decode cX6_takeCodes 53 = .ok (.iadd, 1) := by decide +kernel
theorem dX6_takeCodes_54 : decode cX6_takeCodes 54 = .ok (.iload_n 2, 1) := by decide +kernel
theorem dX6_takeCodes_55 : decode cX6_takeCodes 55 = .ok (.iastore, 1) := by decide +kernel
theorem dX6_takeCodes_56 : decode cX6_takeCodes 56 = .ok (.iinc 2 1, 3) := by decide +kernel
theorem dX6_takeCodes_59 : decode cX6_takeCodes 59 = .ok (.iinc 3 1, 3) := by decide +kernel
theorem dX6_takeCodes_62 : decode cX6_takeCodes 62 = .ok (.goto (-58), 3) := by decide +kernel
theorem dX6_takeCodes_65 : decode cX6_takeCodes 65 = .ok (.return_, 1) := by decide +kernel
theorem dX6_saveCodes_0 : decode cX6_saveCodes 0 = .ok (.iconst 0, 1) := by decide +kernel
theorem dX6_saveCodes_1 : decode cX6_saveCodes 1 = .ok (.istore_n 1, 1) := by decide +kernel
theorem dX6_saveCodes_2 : decode cX6_saveCodes 2 = .ok (.iload_n 1, 1) := by decide +kernel
theorem dX6_saveCodes_3 : decode cX6_saveCodes 3 = .ok (.bipush 10, 2) := by decide +kernel
theorem dX6_saveCodes_5 : decode cX6_saveCodes 5 = .ok (.if_icmp .ge 24, 3) := by decide +kernel
theorem dX6_saveCodes_8 : decode cX6_saveCodes 8 = .ok (.aload_n 0, 1) := by decide +kernel
theorem dX6_saveCodes_9 : decode cX6_saveCodes 9 = .ok (.getfield 35, 3) := by decide +kernel
theorem dX6_saveCodes_12 : decode cX6_saveCodes 12 = .ok (.iload_n 1, 1) := by decide +kernel
theorem dX6_saveCodes_13 : decode cX6_saveCodes 13 = .ok (.aload_n 0, 1) := by decide +kernel
theorem dX6_saveCodes_14 : decode cX6_saveCodes 14 = .ok (.getfield 7, 3) := by decide +kernel
theorem dX6_saveCodes_17 : decode cX6_saveCodes 17 = .ok (.bipush 10, 2) := by decide +kernel
theorem dX6_saveCodes_19 : decode cX6_saveCodes 19 = .ok (.iload_n 1, 1) := by decide +kernel
theorem dX6_saveCodes_20 : decode cX6_saveCodes 20 = .ok (.iadd, 1) := by decide +kernel
theorem dX6_saveCodes_21 : decode cX6_saveCodes 21 = .ok (.iaload, 1) := by decide +kernel
theorem dX6_saveCodes_22 : decode cX6_saveCodes 22 = .ok (.iastore, 1) := by decide +kernel
theorem dX6_saveCodes_23 : decode cX6_saveCodes 23 = .ok (.iinc 1 1, 3) := by decide +kernel
theorem dX6_saveCodes_26 : decode cX6_saveCodes 26 = .ok (.goto (-24), 3) := by decide +kernel
theorem dX6_saveCodes_29 : decode cX6_saveCodes 29 = .ok (.return_, 1) := by decide +kernel
theorem dX6_loadCodes_0 : decode cX6_loadCodes 0 = .ok (.iconst 0, 1) := by decide +kernel
theorem dX6_loadCodes_1 : decode cX6_loadCodes 1 = .ok (.istore_n 1, 1) := by decide +kernel
theorem dX6_loadCodes_2 : decode cX6_loadCodes 2 = .ok (.iload_n 1, 1) := by decide +kernel
theorem dX6_loadCodes_3 : decode cX6_loadCodes 3 = .ok (.bipush 10, 2) := by decide +kernel
theorem dX6_loadCodes_5 : decode cX6_loadCodes 5 = .ok (.if_icmp .ge 24, 3) := by decide +kernel
theorem dX6_loadCodes_8 : decode cX6_loadCodes 8 = .ok (.aload_n 0, 1) := by decide +kernel
theorem dX6_loadCodes_9 : decode cX6_loadCodes 9 = .ok (.getfield 7, 3) := by decide +kernel
theorem dX6_loadCodes_12 : decode cX6_loadCodes 12 = .ok (.bipush 10, 2) := by decide +kernel
theorem dX6_loadCodes_14 : decode cX6_loadCodes 14 = .ok (.iload_n 1, 1) := by decide +kernel
theorem dX6_loadCodes_15 : decode cX6_loadCodes 15 = .ok (.iadd, 1) := by decide +kernel
theorem dX6_loadCodes_16 : decode cX6_loadCodes 16 = .ok (.aload_n 0, 1) := by decide +kernel
theorem dX6_loadCodes_17 : decode cX6_loadCodes 17 = .ok (.getfield 35, 3) := by decide +kernel
theorem dX6_loadCodes_20 : decode cX6_loadCodes 20 = .ok (.iload_n 1, 1) := by decide +kernel
theorem dX6_loadCodes_21 : decode cX6_loadCodes 21 = .ok (.iaload, 1) := by decide +kernel
theorem dX6_loadCodes_22 : decode cX6_loadCodes 22 = .ok (.iastore, 1) := by decide +kernel
theorem dX6_loadCodes_23 : decode cX6_loadCodes 23 = .ok (.iinc 1 1, 3) := by decide +kernel
theorem dX6_loadCodes_26 : decode cX6_loadCodes 26 = .ok (.goto (-24), 3) := by decide +kernel
theorem dX6_loadCodes_29 : decode cX6_loadCodes 29 = .ok (.return_, 1) := by decide +kernel
theorem dX6_isAhead_0 : decode cX6_isAhead 0 = .ok (.iload_n 0, 1) := by decide +kernel
theorem dX6_isAhead_1 : decode cX6_isAhead 1 = .ok (.iload_n 1, 1) := by decide +kernel
theorem dX6_isAhead_2 : decode cX6_isAhead 2 = .ok (.ixor, 1) := by decide +kernel
theorem dX6_isAhead_3 : decode cX6_isAhead 3 = .ok (.istore_n 2, 1) := by decide +kernel
theorem dX6_isAhead_4 : decode cX6_isAhead 4 = .ok (.iload_n 0, 1) := by decide +kernel
theorem dX6_isAhead_5 : decode cX6_isAhead 5 = .ok (.iload_n 2, 1) := by decide +kernel
theorem dX6_isAhead_6 : decode cX6_isAhead 6 = .ok (.iand, 1) := by decide +kernel
theorem dX6_isAhead_7 : decode cX6_isAhead 7 = .ok (.iload_n 2, 1) := by decide +kernel
theorem dX6_isAhead_8 : decode cX6_isAhead 8 = .ok (.ineg, 1) := by decide +kernel
theorem dX6_isAhead_9 : decode cX6_isAhead 9 = .ok (.iand, 1) := by decide +kernel
theorem dX6_isAhead_10 : decode cX6_isAhead 10 = .ok (.ifCond .eq 7, 3) := by decide +kernel
theorem dX6_isAhead_13 : decode cX6_isAhead 13 = .ok (.iconst 1, 1) := by decide +kernel
theorem dX6_isAhead_14 : decode cX6_isAhead 14 = .ok (.goto 4, 3) := by decide +kernel
theorem dX6_isAhead_17 : decode cX6_isAhead 17 = .ok (.iconst 0, 1) := by decide +kernel
theorem dX6_isAhead_18 : decode cX6_isAhead 18 = .ok (.ireturn, 1) := by decide +kernel
set_option maxRecDepth 20000 in
theorem ggX6_tryPlan_X6_takeCodes : GoodIn wsX6_tryPlan wsX6_takeCodes := goodIn_r _ [11, 1, 12, 13, 14, 10, 15, 41, 42, 43, 44, 45, 46, 47, 48, 49, 50, 51, 52, 53, 54, 55, 56] (by decide +kernel) (by decide +kernel)
set_option maxRecDepth 20000 in
theorem gX6_tryPlan_X6_takeCodes : GoodIn wsX6_tryPlan (wsV RX6 96 RX6 yX6_takeCodes wsX6_takeCodes) := goodIn_app (goodIn_of _ (by decide +kernel)) ggX6_tryPlan_X6_takeCodes
set_option maxRecDepth 20000 in
theorem ggX6_tryPlan_X6_goRun : GoodIn wsX6_tryPlan wsX6_goRun := goodIn_r _ [19, 1, 2, 20, 21, 22, 23, 10, 24, 25, 26, 27, 28, 29, 30, 31, 32, 33, 34, 35, 36, 37, 41, 42, 43, 44, 45, 46, 47, 48, 49, 50, 51, 52, 53, 54, 55, 56] (by decide +kernel) (by decide +kernel)
set_option maxRecDepth 20000 in
theorem gX6_tryPlan_X6_goRun : GoodIn wsX6_tryPlan (wsV RX6 87 RX6 yX6_goRun wsX6_goRun) := goodIn_app (goodIn_of _ (by decide +kernel)) ggX6_tryPlan_X6_goRun
set_option maxRecDepth 20000 in
theorem ggX6_tryPlan_X6_isAhead : GoodIn wsX6_tryPlan wsX6_isAhead := goodIn_r _ [40] (by decide +kernel) (by decide +kernel)
set_option maxRecDepth 20000 in
theorem gX6_tryPlan_X6_isAhead : GoodIn wsX6_tryPlan (va_wsS RX6 111 yX6_isAhead wsX6_isAhead) := goodIn_app (goodIn_of _ (by decide +kernel)) ggX6_tryPlan_X6_isAhead
theorem dX6_tryPlan_0 : decode cX6_tryPlan 0 = .ok (.aload_n 0, 1) := by decide +kernel
theorem dX6_tryPlan_1 : decode cX6_tryPlan 1 = .ok (.iload_n 1, 1) := by decide +kernel
theorem dX6_tryPlan_2 : decode cX6_tryPlan 2 = .ok (.invokevirtual 96, 3) := by decide +kernel
theorem dX6_tryPlan_5 : decode cX6_tryPlan 5 = .ok (.aload_n 0, 1) := by decide +kernel
theorem dX6_tryPlan_6 : decode cX6_tryPlan 6 = .ok (.iload_n 2, 1) := by decide +kernel
theorem dX6_tryPlan_7 : decode cX6_tryPlan 7 = .ok (.invokevirtual 87, 3) := by decide +kernel
theorem dX6_tryPlan_10 : decode cX6_tryPlan 10 = .ok (.aload_n 0, 1) := by decide +kernel
theorem dX6_tryPlan_11 : decode cX6_tryPlan 11 = .ok (.getfield 7, 3) := by decide +kernel
theorem dX6_tryPlan_14 : decode cX6_tryPlan 14 = .ok (.bipush 25, 2) := by decide +kernel
theorem dX6_tryPlan_16 : decode cX6_tryPlan 16 = .ok (.iaload, 1) := by decide +kernel
theorem dX6_tryPlan_17 : decode cX6_tryPlan 17 = .ok (.aload_n 0, 1) := by decide +kernel
theorem dX6_tryPlan_18 : decode cX6_tryPlan 18 = .ok (.getfield 70, 3) := by decide +kernel
theorem dX6_tryPlan_21 : decode cX6_tryPlan 21 = .ok (.isub, 1) := by decide +kernel
theorem dX6_tryPlan_22 : decode cX6_tryPlan 22 = .ok (.istore_n 3, 1) := by decide +kernel
theorem dX6_tryPlan_23 : decode cX6_tryPlan 23 = .ok (.aload_n 0, 1) := by decide +kernel
theorem dX6_tryPlan_24 : decode cX6_tryPlan 24 = .ok (.dup, 1) := by decide +kernel
theorem dX6_tryPlan_25 : decode cX6_tryPlan 25 = .ok (.getfield 99, 3) := by decide +kernel
theorem dX6_tryPlan_28 : decode cX6_tryPlan 28 = .ok (.iconst 1, 1) := by decide +kernel
theorem dX6_tryPlan_29 : decode cX6_tryPlan 29 = .ok (.iadd, 1) := by decide +kernel
theorem dX6_tryPlan_30 : decode cX6_tryPlan 30 = .ok (.putfield 99, 3) := by decide +kernel
theorem dX6_tryPlan_33 : decode cX6_tryPlan 33 = .ok (.aload_n 0, 1) := by decide +kernel
theorem dX6_tryPlan_34 : decode cX6_tryPlan 34 = .ok (.getfield 102, 3) := by decide +kernel
theorem dX6_tryPlan_37 : decode cX6_tryPlan 37 = .ok (.ifCond .lt 11, 3) := by decide +kernel
theorem dX6_tryPlan_40 : decode cX6_tryPlan 40 = .ok (.iload_n 3, 1) := by decide +kernel
theorem dX6_tryPlan_41 : decode cX6_tryPlan 41 = .ok (.aload_n 0, 1) := by decide +kernel
theorem dX6_tryPlan_42 : decode cX6_tryPlan 42 = .ok (.getfield 105, 3) := by decide +kernel
theorem dX6_tryPlan_45 : decode cX6_tryPlan 45 = .ok (.if_icmp .ge 18, 3) := by decide +kernel
theorem dX6_tryPlan_48 : decode cX6_tryPlan 48 = .ok (.aload_n 0, 1) := by decide +kernel
theorem dX6_tryPlan_49 : decode cX6_tryPlan 49 = .ok (.iload_n 3, 1) := by decide +kernel
theorem dX6_tryPlan_50 : decode cX6_tryPlan 50 = .ok (.putfield 105, 3) := by decide +kernel
theorem dX6_tryPlan_53 : decode cX6_tryPlan 53 = .ok (.aload_n 0, 1) := by decide +kernel
theorem dX6_tryPlan_54 : decode cX6_tryPlan 54 = .ok (.iconst 0, 1) := by decide +kernel
theorem dX6_tryPlan_55 : decode cX6_tryPlan 55 = .ok (.putfield 108, 3) := by decide +kernel
theorem dX6_tryPlan_58 : decode cX6_tryPlan 58 = .ok (.aload_n 0, 1) := by decide +kernel
theorem dX6_tryPlan_59 : decode cX6_tryPlan 59 = .ok (.iload_n 1, 1) := by decide +kernel
theorem dX6_tryPlan_60 : decode cX6_tryPlan 60 = .ok (.putfield 102, 3) := by decide +kernel
theorem dX6_tryPlan_63 : decode cX6_tryPlan 63 = .ok (.iload_n 3, 1) := by decide +kernel
theorem dX6_tryPlan_64 : decode cX6_tryPlan 64 = .ok (.aload_n 0, 1) := by decide +kernel
theorem dX6_tryPlan_65 : decode cX6_tryPlan 65 = .ok (.getfield 105, 3) := by decide +kernel
theorem dX6_tryPlan_68 : decode cX6_tryPlan 68 = .ok (.if_icmp .ne 36, 3) := by decide +kernel
theorem dX6_tryPlan_71 : decode cX6_tryPlan 71 = .ok (.aload_n 0, 1) := by decide +kernel
theorem dX6_tryPlan_72 : decode cX6_tryPlan 72 = .ok (.dup, 1) := by decide +kernel
theorem dX6_tryPlan_73 : decode cX6_tryPlan 73 = .ok (.getfield 108, 3) := by decide +kernel
theorem dX6_tryPlan_76 : decode cX6_tryPlan 76 = .ok (.iconst 1, 1) := by decide +kernel
theorem dX6_tryPlan_77 : decode cX6_tryPlan 77 = .ok (.iadd, 1) := by decide +kernel
theorem dX6_tryPlan_78 : decode cX6_tryPlan 78 = .ok (.putfield 108, 3) := by decide +kernel
theorem dX6_tryPlan_81 : decode cX6_tryPlan 81 = .ok (.aload_n 0, 1) := by decide +kernel
theorem dX6_tryPlan_82 : decode cX6_tryPlan 82 = .ok (.iload_n 1, 1) := by decide +kernel
theorem dX6_tryPlan_83 : decode cX6_tryPlan 83 = .ok (.aload_n 0, 1) := by decide +kernel
theorem dX6_tryPlan_84 : decode cX6_tryPlan 84 = .ok (.getfield 102, 3) := by decide +kernel
theorem dX6_tryPlan_87 : decode cX6_tryPlan 87 = .ok (.invokestatic 111, 3) := by decide +kernel
theorem dX6_tryPlan_90 : decode cX6_tryPlan 90 = .ok (.ifCond .eq 7, 3) := by decide +kernel
theorem dX6_tryPlan_93 : decode cX6_tryPlan 93 = .ok (.iload_n 1, 1) := by decide +kernel
theorem dX6_tryPlan_94 : decode cX6_tryPlan 94 = .ok (.goto 7, 3) := by decide +kernel
theorem dX6_tryPlan_97 : decode cX6_tryPlan 97 = .ok (.aload_n 0, 1) := by decide +kernel
theorem dX6_tryPlan_98 : decode cX6_tryPlan 98 = .ok (.getfield 102, 3) := by decide +kernel
theorem dX6_tryPlan_101 : decode cX6_tryPlan 101 = .ok (.putfield 102, 3) := by decide +kernel
theorem dX6_tryPlan_104 : decode cX6_tryPlan 104 = .ok (.return_, 1) := by decide +kernel
set_option maxRecDepth 20000 in
theorem ggX6_layBest_X6_usedMany : GoodIn wsX6_layBest wsX6_usedMany := goodIn_r _ [9, 10, 11, 12, 8, 13, 14, 65, 66, 67, 68, 69, 70, 71, 72, 73, 74, 75, 76, 77, 78, 79, 80] (by decide +kernel) (by decide +kernel)
set_option maxRecDepth 20000 in
theorem gX6_layBest_X6_usedMany : GoodIn wsX6_layBest (wsV RX6 115 RX6 yX6_usedMany wsX6_usedMany) := goodIn_app (goodIn_of _ (by decide +kernel)) ggX6_layBest_X6_usedMany
set_option maxRecDepth 20000 in
theorem ggX6_layBest_X6_saveCodes : GoodIn wsX6_layBest wsX6_saveCodes := goodIn_r _ [18, 19, 14, 65, 66, 67, 68, 69, 70, 71, 72, 73, 74, 75, 76, 77, 78, 79, 80] (by decide +kernel) (by decide +kernel)
set_option maxRecDepth 20000 in
theorem gX6_layBest_X6_saveCodes : GoodIn wsX6_layBest (wsV RX6 118 RX6 yX6_saveCodes wsX6_saveCodes) := goodIn_app (goodIn_of _ (by decide +kernel)) ggX6_layBest_X6_saveCodes
set_option maxRecDepth 20000 in
theorem ggX6_layBest_X6_power : GoodIn wsX6_layBest wsX6_power := goodIn_r _ [23, 14, 65, 66, 67, 68, 69, 70, 71, 72, 73, 74, 75, 76, 77, 78, 79, 80] (by decide +kernel) (by decide +kernel)
set_option maxRecDepth 20000 in
theorem gX6_layBest_X6_power : GoodIn wsX6_layBest (wsV RX6 121 RX6 yX6_power wsX6_power) := goodIn_app (goodIn_of _ (by decide +kernel)) ggX6_layBest_X6_power
set_option maxRecDepth 20000 in
theorem ggX6_layBest_X6_size : GoodIn wsX6_layBest wsX6_size := goodIn_r _ [26] (by decide +kernel) (by decide +kernel)
set_option maxRecDepth 20000 in
theorem gX6_layBest_X6_size : GoodIn wsX6_layBest (va_wsS RX6 124 yX6_size wsX6_size) := goodIn_app (goodIn_of _ (by decide +kernel)) ggX6_layBest_X6_size
set_option maxRecDepth 20000 in
theorem ggX6_layBest_X6_tryPlan : GoodIn wsX6_layBest wsX6_tryPlan := goodIn_r _ [30, 14, 31, 1, 3, 4, 2, 32, 33, 34, 8, 35, 10, 11, 12, 13, 36, 37, 38, 39, 40, 41, 42, 43, 44, 45, 46, 47, 48, 49, 50, 51, 52, 53, 54, 55, 56, 57, 58, 59, 60, 65, 66, 67, 68, 69, 70, 71, 72, 73, 74, 75, 76, 77, 78, 79, 80] (by decide +kernel) (by decide +kernel)
set_option maxRecDepth 20000 in
theorem gX6_layBest_X6_tryPlan : GoodIn wsX6_layBest (wsV RX6 127 RX6 yX6_tryPlan wsX6_tryPlan) := goodIn_app (goodIn_of _ (by decide +kernel)) ggX6_layBest_X6_tryPlan
set_option maxRecDepth 20000 in
theorem ggX6_layBest_X6_loadCodes : GoodIn wsX6_layBest wsX6_loadCodes := goodIn_r _ [64, 14, 19, 65, 66, 67, 68, 69, 70, 71, 72, 73, 74, 75, 76, 77, 78, 79, 80] (by decide +kernel) (by decide +kernel)
set_option maxRecDepth 20000 in
theorem gX6_layBest_X6_loadCodes : GoodIn wsX6_layBest (wsV RX6 131 RX6 yX6_loadCodes wsX6_loadCodes) := goodIn_app (goodIn_of _ (by decide +kernel)) ggX6_layBest_X6_loadCodes
theorem dX6_layBest_0 : decode cX6_layBest 0 = .ok (.aload_n 0, 1) := by decide +kernel
theorem dX6_layBest_1 : decode cX6_layBest 1 = .ok (.iconst 0, 1) := by decide +kernel
theorem dX6_layBest_2 : decode cX6_layBest 2 = .ok (.putfield 99, 3) := by decide +kernel
theorem dX6_layBest_5 : decode cX6_layBest 5 = .ok (.aload_n 0, 1) := by decide +kernel
theorem dX6_layBest_6 : decode cX6_layBest 6 = .ok (.iconst 0, 1) := by decide +kernel
theorem dX6_layBest_7 : decode cX6_layBest 7 = .ok (.putfield 108, 3) := by decide +kernel
theorem dX6_layBest_10 : decode cX6_layBest 10 = .ok (.aload_n 0, 1) := by decide +kernel
theorem dX6_layBest_11 : decode cX6_layBest 11 = .ok (.bipush (-6), 2) := by decide +kernel
theorem dX6_layBest_13 : decode cX6_layBest 13 = .ok (.putfield 102, 3) := by decide +kernel
theorem dX6_layBest_16 : decode cX6_layBest 16 = .ok (.aload_n 0, 1) := by decide +kernel
theorem dX6_layBest_17 : decode cX6_layBest 17 = .ok (.bipush (-6), 2) := by decide +kernel
theorem dX6_layBest_19 : decode cX6_layBest 19 = .ok (.putfield 105, 3) := by decide +kernel
theorem dX6_layBest_22 : decode cX6_layBest 22 = .ok (.aload_n 0, 1) := by decide +kernel
theorem dX6_layBest_23 : decode cX6_layBest 23 = .ok (.invokevirtual 115, 3) := by decide +kernel
theorem dX6_layBest_26 : decode cX6_layBest 26 = .ok (.istore_n 2, 1) := by decide +kernel
theorem dX6_layBest_27 : decode cX6_layBest 27 = .ok (.aload_n 0, 1) := by decide +kernel
theorem dX6_layBest_28 : decode cX6_layBest 28 = .ok (.invokevirtual 118, 3) := by decide +kernel
theorem dX6_layBest_31 : decode cX6_layBest 31 = .ok (.iconst 0, 1) := by decide +kernel
theorem dX6_layBest_32 : decode cX6_layBest 32 = .ok (.istore_n 3, 1) := by decide +kernel
theorem dX6_layBest_33 : decode cX6_layBest 33 = .ok (.iload_n 3, 1) := by decide +kernel
theorem dX6_layBest_34 : decode cX6_layBest 34 = .ok (.iconst 1, 1) := by decide +kernel
theorem dX6_layBest_35 : decode cX6_layBest 35 = .ok (.aload_n 0, 1) := by decide +kernel
theorem dX6_layBest_36 : decode cX6_layBest 36 = .ok (.iload_n 1, 1) := by decide +kernel
theorem dX6_layBest_37 : decode cX6_layBest 37 = .ok (.invokevirtual 121, 3) := by decide +kernel
theorem dX6_layBest_40 : decode cX6_layBest 40 = .ok (.ishl, 1) := by decide +kernel
theorem dX6_layBest_41 : decode cX6_layBest 41 = .ok (.if_icmp .ge 23, 3) := by decide +kernel
theorem dX6_layBest_44 : decode cX6_layBest 44 = .ok (.iload_n 3, 1) := by decide +kernel
theorem dX6_layBest_45 : decode cX6_layBest 45 = .ok (.invokestatic 124, 3) := by decide +kernel
theorem dX6_layBest_48 : decode cX6_layBest 48 = .ok (.iload_n 2, 1) := by decide +kernel
theorem dX6_layBest_49 : decode cX6_layBest 49 = .ok (.if_icmp .ne 9, 3) := by decide +kernel
theorem dX6_layBest_52 : decode cX6_layBest 52 = .ok (.aload_n 0, 1) := by decide +kernel
theorem dX6_layBest_53 : decode cX6_layBest 53 = .ok (.iload_n 3, 1) := by decide +kernel
theorem dX6_layBest_54 : decode cX6_layBest 54 = .ok (.iload_n 1, 1) := by decide +kernel
theorem dX6_layBest_55 : decode cX6_layBest 55 = .ok (.invokevirtual 127, 3) := by decide +kernel
theorem dX6_layBest_58 : decode cX6_layBest 58 = .ok (.iinc 3 1, 3) := by decide +kernel
theorem dX6_layBest_61 : decode cX6_layBest 61 = .ok (.goto (-28), 3) := by decide +kernel
theorem dX6_layBest_64 : decode cX6_layBest 64 = .ok (.aload_n 0, 1) := by decide +kernel
theorem dX6_layBest_65 : decode cX6_layBest 65 = .ok (.invokevirtual 131, 3) := by decide +kernel
theorem dX6_layBest_68 : decode cX6_layBest 68 = .ok (.return_, 1) := by decide +kernel
set_option maxRecDepth 20000 in
theorem ggX6_codeOf_X6_isUsed : GoodIn wsX6_codeOf wsX6_isUsed := goodIn_r _ [7, 2, 21, 22, 23, 24, 25, 26, 27, 28, 29, 30, 31, 32, 33, 34, 35, 36] (by decide +kernel) (by decide +kernel)
set_option maxRecDepth 20000 in
theorem gX6_codeOf_X6_isUsed : GoodIn wsX6_codeOf (wsV RX6 63 RX6 yX6_isUsed wsX6_isUsed) := goodIn_app (goodIn_of _ (by decide +kernel)) ggX6_codeOf_X6_isUsed
set_option maxRecDepth 20000 in
theorem ggX6_codeOf_X6_saveCodes : GoodIn wsX6_codeOf wsX6_saveCodes := goodIn_r _ [11, 12, 2, 21, 22, 23, 24, 25, 26, 27, 28, 29, 30, 31, 32, 33, 34, 35, 36] (by decide +kernel) (by decide +kernel)
set_option maxRecDepth 20000 in
theorem gX6_codeOf_X6_saveCodes : GoodIn wsX6_codeOf (wsV RX6 118 RX6 yX6_saveCodes wsX6_saveCodes) := goodIn_app (goodIn_of _ (by decide +kernel)) ggX6_codeOf_X6_saveCodes
set_option maxRecDepth 20000 in
theorem ggX6_codeOf_X6_takeCodes : GoodIn wsX6_codeOf wsX6_takeCodes := goodIn_r _ [16, 2, 3, 4, 5, 6, 7, 21, 22, 23, 24, 25, 26, 27, 28, 29, 30, 31, 32, 33, 34, 35, 36] (by decide +kernel) (by decide +kernel)
set_option maxRecDepth 20000 in
theorem gX6_codeOf_X6_takeCodes : GoodIn wsX6_codeOf (wsV RX6 96 RX6 yX6_takeCodes wsX6_takeCodes) := goodIn_app (goodIn_of _ (by decide +kernel)) ggX6_codeOf_X6_takeCodes
set_option maxRecDepth 20000 in
theorem ggX6_codeOf_X6_loadCodes : GoodIn wsX6_codeOf wsX6_loadCodes := goodIn_r _ [20, 2, 12, 21, 22, 23, 24, 25, 26, 27, 28, 29, 30, 31, 32, 33, 34, 35, 36] (by decide +kernel) (by decide +kernel)
set_option maxRecDepth 20000 in
theorem gX6_codeOf_X6_loadCodes : GoodIn wsX6_codeOf (wsV RX6 131 RX6 yX6_loadCodes wsX6_loadCodes) := goodIn_app (goodIn_of _ (by decide +kernel)) ggX6_codeOf_X6_loadCodes
theorem dX6_codeOf_0 : decode cX6_codeOf 0 = .ok (.aload_n 0, 1) := by decide +kernel
theorem dX6_codeOf_1 : decode cX6_codeOf 1 = .ok (.iload_n 1, 1) := by decide +kernel
theorem dX6_codeOf_2 : decode cX6_codeOf 2 = .ok (.invokevirtual 63, 3) := by decide +kernel
theorem dX6_codeOf_5 : decode cX6_codeOf 5 = .ok (.ifCond .ne 6, 3) := by decide +kernel
theorem dX6_codeOf_8 : decode cX6_codeOf 8 = .ok (.bipush (-6), 2) := by decide +kernel
theorem dX6_codeOf_10 : decode cX6_codeOf 10 = .ok (.ireturn, 1) := by decide +kernel
theorem dX6_codeOf_11 : decode cX6_codeOf 11 = .ok (.aload_n 0, 1) := by decide +kernel
theorem dX6_codeOf_12 : decode cX6_codeOf 12 = .ok (.invokevirtual 118, 3) := by decide +kernel
theorem dX6_codeOf_15 : decode cX6_codeOf 15 = .ok (.aload_n 0, 1) := by decide +kernel
theorem dX6_codeOf_16 : decode cX6_codeOf 16 = .ok (.aload_n 0, 1) := by decide +kernel
theorem dX6_codeOf_17 : decode cX6_codeOf 17 = .ok (.getfield 102, 3) := by decide +kernel
theorem dX6_codeOf_20 : decode cX6_codeOf 20 = .ok (.invokevirtual 96, 3) := by decide +kernel
theorem dX6_codeOf_23 : decode cX6_codeOf 23 = .ok (.aload_n 0, 1) := by decide +kernel
theorem dX6_codeOf_24 : decode cX6_codeOf 24 = .ok (.getfield 7, 3) := by decide +kernel
theorem dX6_codeOf_27 : decode cX6_codeOf 27 = .ok (.bipush 10, 2) := by decide +kernel
theorem dX6_codeOf_29 : decode cX6_codeOf 29 = .ok (.iload_n 1, 1) := by decide +kernel
theorem dX6_codeOf_30 : decode cX6_codeOf 30 = .ok (.iadd, 1) := by decide +kernel
theorem dX6_codeOf_31 : decode cX6_codeOf 31 = .ok (.iaload, 1) := by decide +kernel
theorem dX6_codeOf_32 : decode cX6_codeOf 32 = .ok (.istore_n 2, 1) := by decide +kernel
theorem dX6_codeOf_33 : decode cX6_codeOf 33 = .ok (.aload_n 0, 1) := by decide +kernel
theorem dX6_codeOf_34 : decode cX6_codeOf 34 = .ok (.invokevirtual 131, 3) := by decide +kernel
theorem dX6_codeOf_37 : decode cX6_codeOf 37 = .ok (.iload_n 2, 1) := by decide +kernel
theorem dX6_codeOf_38 : decode cX6_codeOf 38 = .ok (.ireturn, 1) := by decide +kernel
set_option maxRecDepth 20000 in
theorem ggX6_best_X6_isRun : GoodIn wsX6_best wsX6_isRun := goodIn_r _ [7, 8, 9, 6, 10] (by decide +kernel) (by decide +kernel)
set_option maxRecDepth 20000 in
theorem gX6_best_X6_isRun : GoodIn wsX6_best (va_wsS RX6 84 yX6_isRun wsX6_isRun) := goodIn_app (goodIn_of _ (by decide +kernel)) ggX6_best_X6_isRun
set_option maxRecDepth 20000 in
theorem ggX6_best_X6_in : GoodIn wsX6_best wsX6_in := goodIn_r _ [10] (by decide +kernel) (by decide +kernel)
set_option maxRecDepth 20000 in
theorem gX6_best_X6_in : GoodIn wsX6_best (va_wsS RX6 41 yX6_in wsX6_in) := goodIn_app (goodIn_of _ (by decide +kernel)) ggX6_best_X6_in
set_option maxRecDepth 20000 in
theorem ggX6_best_X6_power : GoodIn wsX6_best wsX6_power := goodIn_r _ [14, 15, 79, 80, 81, 82, 83, 84, 85, 86, 87, 88, 89, 90, 91, 92, 93, 94] (by decide +kernel) (by decide +kernel)
set_option maxRecDepth 20000 in
theorem gX6_best_X6_power : GoodIn wsX6_best (wsV RX6 121 RX6 yX6_power wsX6_power) := goodIn_app (goodIn_of _ (by decide +kernel)) ggX6_best_X6_power
set_option maxRecDepth 20000 in
theorem ggX6_best_X6_layBest : GoodIn wsX6_best wsX6_layBest := goodIn_r _ [19, 1, 3, 20, 2, 21, 22, 23, 6, 24, 25, 26, 27, 28, 15, 29, 30, 31, 32, 33, 11, 12, 13, 14, 34, 35, 36, 37, 38, 39, 40, 41, 42, 43, 44, 45, 46, 47, 48, 49, 50, 51, 52, 53, 54, 55, 56, 57, 58, 59, 60, 61, 62, 63, 64, 65, 66, 67, 68, 69, 70, 71, 72, 73, 74, 79, 80, 81, 82, 83, 84, 85, 86, 87, 88, 89, 90, 91, 92, 93, 94] (by decide +kernel) (by decide +kernel)
set_option maxRecDepth 20000 in
theorem gX6_best_X6_layBest : GoodIn wsX6_best (wsV RX6 134 RX6 yX6_layBest wsX6_layBest) := goodIn_app (goodIn_of _ (by decide +kernel)) ggX6_best_X6_layBest
set_option maxRecDepth 20000 in
theorem ggX6_best_X6_codeOf : GoodIn wsX6_best wsX6_codeOf := goodIn_r _ [78, 20, 15, 25, 26, 27, 6, 28, 29, 30, 31, 32, 33, 42, 43, 44, 45, 71, 72, 73, 74, 79, 80, 81, 82, 83, 84, 85, 86, 87, 88, 89, 90, 91, 92, 93, 94] (by decide +kernel) (by decide +kernel)
set_option maxRecDepth 20000 in
theorem gX6_best_X6_codeOf : GoodIn wsX6_best (wsV RX6 137 RX6 yX6_codeOf wsX6_codeOf) := goodIn_app (goodIn_of _ (by decide +kernel)) ggX6_best_X6_codeOf
theorem dX6_best_0 : decode cX6_best 0 = .ok (.iload_n 1, 1) := by decide +kernel
theorem dX6_best_1 : decode cX6_best 1 = .ok (.invokestatic 84, 3) := by decide +kernel
theorem dX6_best_4 : decode cX6_best 4 = .ok (.ifCond .eq 23, 3) := by decide +kernel
theorem dX6_best_7 : decode cX6_best 7 = .ok (.iload_n 2, 1) := by decide +kernel
theorem dX6_best_8 : decode cX6_best 8 = .ok (.iconst 0, 1) := by decide +kernel
theorem dX6_best_9 : decode cX6_best 9 = .ok (.iconst 2, 1) := by decide +kernel
theorem dX6_best_10 : decode cX6_best 10 = .ok (.invokestatic 41, 3) := by decide +kernel
theorem dX6_best_13 : decode cX6_best 13 = .ok (.ifCond .ne 17, 3) := by decide +kernel
theorem dX6_best_16 : decode cX6_best 16 = .ok (.iload_n 2, 1) := by decide +kernel
theorem dX6_best_17 : decode cX6_best 17 = .ok (.bipush 10, 2) := by decide +kernel
theorem dX6_best_19 : decode cX6_best 19 = .ok (.bipush 19, 2) := by decide +kernel
theorem dX6_best_21 : decode cX6_best 21 = .ok (.invokestatic 41, 3) := by decide +kernel
theorem dX6_best_24 : decode cX6_best 24 = .ok (.ifCond .ne 6, 3) := by decide +kernel
theorem dX6_best_27 : decode cX6_best 27 = .ok (.bipush (-2), 2) := by decide +kernel
theorem dX6_best_29 : decode cX6_best 29 = .ok (.ireturn, 1) := by decide +kernel
theorem dX6_best_30 : decode cX6_best 30 = .ok (.aload_n 0, 1) := by decide +kernel
theorem dX6_best_31 : decode cX6_best 31 = .ok (.iload_n 1, 1) := by decide +kernel
theorem dX6_best_32 : decode cX6_best 32 = .ok (.invokevirtual 121, 3) := by decide +kernel
theorem dX6_best_35 : decode cX6_best 35 = .ok (.bipush 16, 2) := by decide +kernel
theorem dX6_best_37 : decode cX6_best 37 = .ok (.if_icmp .le 6, 3) := by decide +kernel
theorem dX6_best_40 : decode cX6_best 40 = .ok (.bipush (-5), 2) := by decide +kernel
theorem dX6_best_42 : decode cX6_best 42 = .ok (.ireturn, 1) := by decide +kernel
theorem dX6_best_43 : decode cX6_best 43 = .ok (.aload_n 0, 1) := by decide +kernel
theorem dX6_best_44 : decode cX6_best 44 = .ok (.iload_n 1, 1) := by decide +kernel
theorem dX6_best_45 : decode cX6_best 45 = .ok (.invokevirtual 134, 3) := by decide +kernel
theorem dX6_best_48 : decode cX6_best 48 = .ok (.iload_n 2, 1) := by decide +kernel
theorem dX6_best_49 : decode cX6_best 49 = .ok (.iconst 2, 1) := by decide +kernel
theorem dX6_best_50 : decode cX6_best 50 = .ok (.if_icmp .ne 8, 3) := by decide +kernel
theorem dX6_best_53 : decode cX6_best 53 = .ok (.aload_n 0, 1) := by decide +kernel
theorem dX6_best_54 : decode cX6_best 54 = .ok (.getfield 99, 3) := by decide +kernel
theorem dX6_best_57 : decode cX6_best 57 = .ok (.ireturn, 1) := by decide +kernel
theorem dX6_best_58 : decode cX6_best 58 = .ok (.aload_n 0, 1) := by decide +kernel
theorem dX6_best_59 : decode cX6_best 59 = .ok (.getfield 99, 3) := by decide +kernel
theorem dX6_best_62 : decode cX6_best 62 = .ok (.ifCond .ne 6, 3) := by decide +kernel
theorem dX6_best_65 : decode cX6_best 65 = .ok (.bipush (-6), 2) := by decide +kernel
theorem dX6_best_67 : decode cX6_best 67 = .ok (.ireturn, 1) := by decide +kernel
theorem dX6_best_68 : decode cX6_best 68 = .ok (.iload_n 2, 1) := by decide +kernel
theorem dX6_best_69 : decode cX6_best 69 = .ok (.ifCond .ne 10, 3) := by decide +kernel
theorem dX6_best_72 : decode cX6_best 72 = .ok (.aload_n 0, 1) := by decide +kernel
theorem dX6_best_73 : decode cX6_best 73 = .ok (.getfield 105, 3) := by decide +kernel
theorem dX6_best_76 : decode cX6_best 76 = .ok (.goto 23, 3) := by decide +kernel
theorem dX6_best_79 : decode cX6_best 79 = .ok (.iload_n 2, 1) := by decide +kernel
theorem dX6_best_80 : decode cX6_best 80 = .ok (.iconst 1, 1) := by decide +kernel
theorem dX6_best_81 : decode cX6_best 81 = .ok (.if_icmp .ne 10, 3) := by decide +kernel
theorem dX6_best_84 : decode cX6_best 84 = .ok (.aload_n 0, 1) := by decide +kernel
theorem dX6_best_85 : decode cX6_best 85 = .ok (.getfield 108, 3) := by decide +kernel
theorem dX6_best_88 : decode cX6_best 88 = .ok (.goto 11, 3) := by decide +kernel
theorem dX6_best_91 : decode cX6_best 91 = .ok (.aload_n 0, 1) := by decide +kernel
theorem dX6_best_92 : decode cX6_best 92 = .ok (.iload_n 2, 1) := by decide +kernel
theorem dX6_best_93 : decode cX6_best 93 = .ok (.bipush 10, 2) := by decide +kernel
theorem dX6_best_95 : decode cX6_best 95 = .ok (.isub, 1) := by decide +kernel
theorem dX6_best_96 : decode cX6_best 96 = .ok (.invokevirtual 137, 3) := by decide +kernel
theorem dX6_best_99 : decode cX6_best 99 = .ok (.ireturn, 1) := by decide +kernel
set_option maxRecDepth 20000 in
theorem ggX6_take_X6_isRun : GoodIn wsX6_take wsX6_isRun := goodIn_r _ [7, 8, 9, 6, 10] (by decide +kernel) (by decide +kernel)
set_option maxRecDepth 20000 in
theorem gX6_take_X6_isRun : GoodIn wsX6_take (va_wsS RX6 84 yX6_isRun wsX6_isRun) := goodIn_app (goodIn_of _ (by decide +kernel)) ggX6_take_X6_isRun
set_option maxRecDepth 20000 in
theorem ggX6_take_X6_power : GoodIn wsX6_take wsX6_power := goodIn_r _ [14, 15, 75, 76, 77, 78, 79, 80, 81, 82, 83, 84, 85, 86, 87, 88, 89, 90] (by decide +kernel) (by decide +kernel)
set_option maxRecDepth 20000 in
theorem gX6_take_X6_power : GoodIn wsX6_take (wsV RX6 121 RX6 yX6_power wsX6_power) := goodIn_app (goodIn_of _ (by decide +kernel)) ggX6_take_X6_power
set_option maxRecDepth 20000 in
theorem ggX6_take_X6_layBest : GoodIn wsX6_take wsX6_layBest := goodIn_r _ [19, 1, 20, 2, 3, 21, 22, 23, 6, 24, 25, 26, 27, 28, 15, 29, 30, 31, 32, 33, 11, 12, 13, 14, 34, 35, 36, 37, 38, 39, 40, 41, 42, 43, 44, 45, 46, 47, 48, 49, 50, 51, 52, 53, 54, 55, 56, 57, 58, 59, 60, 61, 62, 63, 64, 65, 66, 67, 68, 69, 70, 71, 72, 73, 74, 75, 76, 77, 78, 79, 80, 81, 82, 83, 84, 85, 86, 87, 88, 89, 90] (by decide +kernel) (by decide +kernel)
set_option maxRecDepth 20000 in
theorem gX6_take_X6_layBest : GoodIn wsX6_take (wsV RX6 134 RX6 yX6_layBest wsX6_layBest) := goodIn_app (goodIn_of _ (by decide +kernel)) ggX6_take_X6_layBest
set_option maxRecDepth 20000 in
theorem ggX6_take_X6_takeCodes : GoodIn wsX6_take wsX6_takeCodes := goodIn_r _ [45, 15, 25, 26, 27, 6, 28, 75, 76, 77, 78, 79, 80, 81, 82, 83, 84, 85, 86, 87, 88, 89, 90] (by decide +kernel) (by decide +kernel)
set_option maxRecDepth 20000 in
theorem gX6_take_X6_takeCodes : GoodIn wsX6_take (wsV RX6 96 RX6 yX6_takeCodes wsX6_takeCodes) := goodIn_app (goodIn_of _ (by decide +kernel)) ggX6_take_X6_takeCodes
theorem dX6_take_0 : decode cX6_take 0 = .ok (.iload_n 1, 1) := by decide +kernel
theorem dX6_take_1 : decode cX6_take 1 = .ok (.invokestatic 84, 3) := by decide +kernel
theorem dX6_take_4 : decode cX6_take 4 = .ok (.ifCond .ne 6, 3) := by decide +kernel
theorem dX6_take_7 : decode cX6_take 7 = .ok (.bipush (-2), 2) := by decide +kernel
theorem dX6_take_9 : decode cX6_take 9 = .ok (.ireturn, 1) := by decide +kernel
theorem dX6_take_10 : decode cX6_take 10 = .ok (.aload_n 0, 1) := by decide +kernel
theorem dX6_take_11 : decode cX6_take 11 = .ok (.iload_n 1, 1) := by decide +kernel
theorem dX6_take_12 : decode cX6_take 12 = .ok (.invokevirtual 121, 3) := by decide +kernel
theorem dX6_take_15 : decode cX6_take 15 = .ok (.bipush 16, 2) := by decide +kernel
theorem dX6_take_17 : decode cX6_take 17 = .ok (.if_icmp .le 6, 3) := by decide +kernel
theorem dX6_take_20 : decode cX6_take 20 = .ok (.bipush (-5), 2) := by decide +kernel
theorem dX6_take_22 : decode cX6_take 22 = .ok (.ireturn, 1) := by decide +kernel
theorem dX6_take_23 : decode cX6_take 23 = .ok (.aload_n 0, 1) := by decide +kernel
theorem dX6_take_24 : decode cX6_take 24 = .ok (.iload_n 1, 1) := by decide +kernel
theorem dX6_take_25 : decode cX6_take 25 = .ok (.invokevirtual 134, 3) := by decide +kernel
theorem dX6_take_28 : decode cX6_take 28 = .ok (.aload_n 0, 1) := by decide +kernel
theorem dX6_take_29 : decode cX6_take 29 = .ok (.getfield 99, 3) := by decide +kernel
theorem dX6_take_32 : decode cX6_take 32 = .ok (.ifCond .ne 6, 3) := by decide +kernel
theorem dX6_take_35 : decode cX6_take 35 = .ok (.bipush (-5), 2) := by decide +kernel
theorem dX6_take_37 : decode cX6_take 37 = .ok (.ireturn, 1) := by decide +kernel
theorem dX6_take_38 : decode cX6_take 38 = .ok (.aload_n 0, 1) := by decide +kernel
theorem dX6_take_39 : decode cX6_take 39 = .ok (.aload_n 0, 1) := by decide +kernel
theorem dX6_take_40 : decode cX6_take 40 = .ok (.getfield 102, 3) := by decide +kernel
theorem dX6_take_43 : decode cX6_take 43 = .ok (.invokevirtual 96, 3) := by decide +kernel
theorem dX6_take_46 : decode cX6_take 46 = .ok (.aload_n 0, 1) := by decide +kernel
theorem dX6_take_47 : decode cX6_take 47 = .ok (.getfield 105, 3) := by decide +kernel
theorem dX6_take_50 : decode cX6_take 50 = .ok (.ireturn, 1) := by decide +kernel
set_option maxRecDepth 20000 in
theorem ggX6_isClean_X6_layBest : GoodIn wsX6_isClean wsX6_layBest := goodIn_r _ [7, 1, 8, 9, 2, 10, 11, 12, 6, 13, 14, 15, 16, 17, 18, 19, 20, 21, 22, 23, 24, 25, 26, 27, 28, 29, 30, 31, 32, 33, 34, 35, 36, 37, 38, 39, 40, 41, 42, 43, 44, 45, 46, 47, 48, 49, 50, 51, 52, 53, 54, 55, 56, 57, 58, 59, 60, 61, 62, 63, 64, 65, 66, 67, 68, 73, 74, 75, 76, 77, 78, 79, 80, 81, 82, 83, 84, 85, 86, 87, 88] (by decide +kernel) (by decide +kernel)
set_option maxRecDepth 20000 in
theorem gX6_isClean_X6_layBest : GoodIn wsX6_isClean (wsV RX6 134 RX6 yX6_layBest wsX6_layBest) := goodIn_app (goodIn_of _ (by decide +kernel)) ggX6_isClean_X6_layBest
set_option maxRecDepth 20000 in
theorem ggX6_isClean_X6_misreads : GoodIn wsX6_isClean wsX6_misreads := goodIn_r _ [72, 18, 73, 74, 75, 76, 77, 78, 79, 80, 81, 82, 83, 84, 85, 86, 87, 88] (by decide +kernel) (by decide +kernel)
set_option maxRecDepth 20000 in
theorem gX6_isClean_X6_misreads : GoodIn wsX6_isClean (wsV RX6 52 RX6 yX6_misreads wsX6_misreads) := goodIn_app (goodIn_of _ (by decide +kernel)) ggX6_isClean_X6_misreads
theorem dX6_isClean_0 : decode cX6_isClean 0 = .ok (.aload_n 0, 1) := by decide +kernel
theorem dX6_isClean_1 : decode cX6_isClean 1 = .ok (.iload_n 1, 1) := by decide +kernel
theorem dX6_isClean_2 : decode cX6_isClean 2 = .ok (.invokevirtual 134, 3) := by decide +kernel
theorem dX6_isClean_5 : decode cX6_isClean 5 = .ok (.aload_n 0, 1) := by decide +kernel
theorem dX6_isClean_6 : decode cX6_isClean 6 = .ok (.getfield 99, 3) := by decide +kernel
theorem dX6_isClean_9 : decode cX6_isClean 9 = .ok (.ifCond .le 18, 3) := by decide +kernel
theorem dX6_isClean_12 : decode cX6_isClean 12 = .ok (.aload_n 0, 1) := by decide +kernel
theorem dX6_isClean_13 : decode cX6_isClean 13 = .ok (.getfield 105, 3) := by decide +kernel
theorem dX6_isClean_16 : decode cX6_isClean 16 = .ok (.aload_n 0, 1) := by decide +kernel
theorem dX6_isClean_17 : decode cX6_isClean 17 = .ok (.invokevirtual 52, 3) := by decide +kernel
theorem dX6_isClean_20 : decode cX6_isClean 20 = .ok (.if_icmp .ne 7, 3) := by decide +kernel
theorem dX6_isClean_23 : decode cX6_isClean 23 = .ok (.iconst 1, 1) := by decide +kernel
theorem dX6_isClean_24 : decode cX6_isClean 24 = .ok (.goto 4, 3) := by decide +kernel
theorem dX6_isClean_27 : decode cX6_isClean 27 = .ok (.iconst 0, 1) := by decide +kernel
theorem dX6_isClean_28 : decode cX6_isClean 28 = .ok (.ireturn, 1) := by decide +kernel
set_option maxRecDepth 20000 in
theorem ggX6_fewest_X6_power : GoodIn wsX6_fewest wsX6_power := goodIn_r _ [5, 6, 77, 78, 79, 80, 81, 82, 83, 84, 85, 86, 87, 88, 89, 90, 91, 92] (by decide +kernel) (by decide +kernel)
set_option maxRecDepth 20000 in
theorem gX6_fewest_X6_power : GoodIn wsX6_fewest (wsV RX6 121 RX6 yX6_power wsX6_power) := goodIn_app (goodIn_of _ (by decide +kernel)) ggX6_fewest_X6_power
set_option maxRecDepth 20000 in
theorem ggX6_fewest_X6_isClean : GoodIn wsX6_fewest wsX6_isClean := goodIn_r _ [10, 11, 12, 13, 14, 15, 4, 16, 17, 18, 19, 20, 21, 22, 23, 24, 25, 26, 6, 27, 28, 29, 30, 31, 1, 2, 3, 5, 32, 33, 34, 35, 36, 37, 38, 39, 40, 41, 42, 43, 44, 45, 46, 47, 48, 49, 50, 51, 52, 53, 54, 55, 56, 57, 58, 59, 60, 61, 62, 63, 64, 65, 66, 67, 68, 69, 70, 71, 72, 73, 74, 75, 76, 77, 78, 79, 80, 81, 82, 83, 84, 85, 86, 87, 88, 89, 90, 91, 92] (by decide +kernel) (by decide +kernel)
set_option maxRecDepth 20000 in
theorem gX6_fewest_X6_isClean : GoodIn wsX6_fewest (wsV RX6 140 RX6 yX6_isClean wsX6_isClean) := goodIn_app (goodIn_of _ (by decide +kernel)) ggX6_fewest_X6_isClean
theorem dX6_fewest_0 : decode cX6_fewest 0 = .ok (.iconst 1, 1) := by decide +kernel
theorem dX6_fewest_1 : decode cX6_fewest 1 = .ok (.istore_n 1, 1) := by decide +kernel
theorem dX6_fewest_2 : decode cX6_fewest 2 = .ok (.iload_n 1, 1) := by decide +kernel
theorem dX6_fewest_3 : decode cX6_fewest 3 = .ok (.iconst 3, 1) := by decide +kernel
theorem dX6_fewest_4 : decode cX6_fewest 4 = .ok (.if_icmp .gt 29, 3) := by decide +kernel
theorem dX6_fewest_7 : decode cX6_fewest 7 = .ok (.aload_n 0, 1) := by decide +kernel
theorem dX6_fewest_8 : decode cX6_fewest 8 = .ok (.iload_n 1, 1) := by decide +kernel
theorem dX6_fewest_9 : decode cX6_fewest 9 = .ok (.invokevirtual 121, 3) := by decide +kernel
theorem dX6_fewest_12 : decode cX6_fewest 12 = .ok (.bipush 16, 2) := by decide +kernel
theorem dX6_fewest_14 : decode cX6_fewest 14 = .ok (.if_icmp .gt 13, 3) := by decide +kernel
theorem dX6_fewest_17 : decode cX6_fewest 17 = .ok (.aload_n 0, 1) := by decide +kernel
theorem dX6_fewest_18 : decode cX6_fewest 18 = .ok (.iload_n 1, 1) := by decide +kernel
theorem dX6_fewest_19 : decode cX6_fewest 19 = .ok (.invokevirtual 140, 3) := by decide +kernel
theorem dX6_fewest_22 : decode cX6_fewest 22 = .ok (.ifCond .eq 5, 3) := by decide +kernel
theorem dX6_fewest_25 : decode cX6_fewest 25 = .ok (.iload_n 1, 1) := by decide +kernel
theorem dX6_fewest_26 : decode cX6_fewest 26 = .ok (.ireturn, 1) := by decide +kernel
theorem dX6_fewest_27 : decode cX6_fewest 27 = .ok (.iinc 1 1, 3) := by decide +kernel
theorem dX6_fewest_30 : decode cX6_fewest 30 = .ok (.goto (-28), 3) := by decide +kernel
theorem dX6_fewest_33 : decode cX6_fewest 33 = .ok (.bipush (-6), 2) := by decide +kernel
theorem dX6_fewest_35 : decode cX6_fewest 35 = .ok (.ireturn, 1) := by decide +kernel
theorem dX6_setRooms_0 : decode cX6_setRooms 0 = .ok (.iconst 0, 1) := by decide +kernel
theorem dX6_setRooms_1 : decode cX6_setRooms 1 = .ok (.istore_n 2, 1) := by decide +kernel
theorem dX6_setRooms_2 : decode cX6_setRooms 2 = .ok (.iload_n 2, 1) := by decide +kernel
theorem dX6_setRooms_3 : decode cX6_setRooms 3 = .ok (.iconst 4, 1) := by decide +kernel
theorem dX6_setRooms_4 : decode cX6_setRooms 4 = .ok (.if_icmp .ge 19, 3) := by decide +kernel
theorem dX6_setRooms_7 : decode cX6_setRooms 7 = .ok (.aload_n 0, 1) := by decide +kernel
theorem dX6_setRooms_8 : decode cX6_setRooms 8 = .ok (.getfield 7, 3) := by decide +kernel
theorem dX6_setRooms_11 : decode cX6_setRooms 11 = .ok (.bipush 20, 2) := by decide +kernel
theorem dX6_setRooms_13 : decode cX6_setRooms 13 = .ok (.iload_n 2, 1) := by decide +kernel
theorem dX6_setRooms_14 : decode cX6_setRooms 14 = .ok (.iadd, 1) := by decide +kernel
theorem dX6_setRooms_15 : decode cX6_setRooms 15 = .ok (.iload_n 1, 1) := by decide +kernel
theorem dX6_setRooms_16 : decode cX6_setRooms 16 = .ok (.iastore, 1) := by decide +kernel
theorem dX6_setRooms_17 : decode cX6_setRooms 17 = .ok (.iinc 2 1, 3) := by decide +kernel
theorem dX6_setRooms_20 : decode cX6_setRooms 20 = .ok (.goto (-18), 3) := by decide +kernel
theorem dX6_setRooms_23 : decode cX6_setRooms 23 = .ok (.return_, 1) := by decide +kernel
set_option maxRecDepth 20000 in
theorem ggX6_needs_X6_isRun : GoodIn wsX6_needs wsX6_isRun := goodIn_r _ [6, 7, 8, 5, 9] (by decide +kernel) (by decide +kernel)
set_option maxRecDepth 20000 in
theorem gX6_needs_X6_isRun : GoodIn wsX6_needs (va_wsS RX6 84 yX6_isRun wsX6_isRun) := goodIn_app (goodIn_of _ (by decide +kernel)) ggX6_needs_X6_isRun
set_option maxRecDepth 20000 in
theorem ggX6_needs_X6_power : GoodIn wsX6_needs wsX6_power := goodIn_r _ [13, 2, 88, 89, 90, 91, 92, 93, 94, 95, 96, 97, 98, 99, 100, 101, 102, 103] (by decide +kernel) (by decide +kernel)
set_option maxRecDepth 20000 in
theorem gX6_needs_X6_power : GoodIn wsX6_needs (wsV RX6 121 RX6 yX6_power wsX6_power) := goodIn_app (goodIn_of _ (by decide +kernel)) ggX6_needs_X6_power
set_option maxRecDepth 20000 in
theorem ggX6_needs_X6_setRooms : GoodIn wsX6_needs wsX6_setRooms := goodIn_r _ [17, 2, 88, 89, 90, 91, 92, 93, 94, 95, 96, 97, 98, 99, 100, 101, 102, 103] (by decide +kernel) (by decide +kernel)
set_option maxRecDepth 20000 in
theorem gX6_needs_X6_setRooms : GoodIn wsX6_needs (wsV RX6 143 RX6 yX6_setRooms wsX6_setRooms) := goodIn_app (goodIn_of _ (by decide +kernel)) ggX6_needs_X6_setRooms
set_option maxRecDepth 20000 in
theorem ggX6_needs_X6_isClean : GoodIn wsX6_needs wsX6_isClean := goodIn_r _ [21, 22, 23, 24, 25, 26, 5, 27, 28, 29, 30, 31, 32, 33, 34, 35, 36, 37, 2, 38, 39, 40, 41, 42, 10, 11, 12, 13, 43, 44, 45, 46, 47, 48, 49, 50, 51, 52, 53, 54, 55, 56, 57, 58, 59, 60, 61, 62, 63, 64, 65, 66, 67, 68, 69, 70, 71, 72, 73, 74, 75, 76, 77, 78, 79, 80, 81, 82, 83, 84, 85, 86, 87, 88, 89, 90, 91, 92, 93, 94, 95, 96, 97, 98, 99, 100, 101, 102, 103] (by decide +kernel) (by decide +kernel)
set_option maxRecDepth 20000 in
theorem gX6_needs_X6_isClean : GoodIn wsX6_needs (wsV RX6 140 RX6 yX6_isClean wsX6_isClean) := goodIn_app (goodIn_of _ (by decide +kernel)) ggX6_needs_X6_isClean
theorem dX6_needs_0 : decode cX6_needs 0 = .ok (.iload_n 1, 1) := by decide +kernel
theorem dX6_needs_1 : decode cX6_needs 1 = .ok (.invokestatic 84, 3) := by decide +kernel
theorem dX6_needs_4 : decode cX6_needs 4 = .ok (.ifCond .ne 6, 3) := by decide +kernel
theorem dX6_needs_7 : decode cX6_needs 7 = .ok (.bipush (-2), 2) := by decide +kernel
theorem dX6_needs_9 : decode cX6_needs 9 = .ok (.ireturn, 1) := by decide +kernel
theorem dX6_needs_10 : decode cX6_needs 10 = .ok (.aload_n 0, 1) := by decide +kernel
theorem dX6_needs_11 : decode cX6_needs 11 = .ok (.iload_n 1, 1) := by decide +kernel
theorem dX6_needs_12 : decode cX6_needs 12 = .ok (.invokevirtual 121, 3) := by decide +kernel
theorem dX6_needs_15 : decode cX6_needs 15 = .ok (.bipush 16, 2) := by decide +kernel
theorem dX6_needs_17 : decode cX6_needs 17 = .ok (.if_icmp .le 6, 3) := by decide +kernel
theorem dX6_needs_20 : decode cX6_needs 20 = .ok (.bipush (-5), 2) := by decide +kernel
theorem dX6_needs_22 : decode cX6_needs 22 = .ok (.ireturn, 1) := by decide +kernel
theorem dX6_needs_23 : decode cX6_needs 23 = .ok (.iconst 0, 1) := by decide +kernel
theorem dX6_needs_24 : decode cX6_needs 24 = .ok (.istore_n 2, 1) := by decide +kernel
theorem dX6_needs_25 : decode cX6_needs 25 = .ok (.iload_n 2, 1) := by decide +kernel
theorem dX6_needs_26 : decode cX6_needs 26 = .ok (.iconst 4, 1) := by decide +kernel
theorem dX6_needs_27 : decode cX6_needs 27 = .ok (.if_icmp .ge 24, 3) := by decide +kernel
theorem dX6_needs_30 : decode cX6_needs 30 = .ok (.aload_n 0, 1) := by decide +kernel
theorem dX6_needs_31 : decode cX6_needs 31 = .ok (.getfield 38, 3) := by decide +kernel
theorem dX6_needs_34 : decode cX6_needs 34 = .ok (.iload_n 2, 1) := by decide +kernel
theorem dX6_needs_35 : decode cX6_needs 35 = .ok (.aload_n 0, 1) := by decide +kernel
theorem dX6_needs_36 : decode cX6_needs 36 = .ok (.getfield 7, 3) := by decide +kernel
theorem dX6_needs_39 : decode cX6_needs 39 = .ok (.bipush 20, 2) := by decide +kernel
theorem dX6_needs_41 : decode cX6_needs 41 = .ok (.iload_n 2, 1) := by decide +kernel
theorem dX6_needs_42 : decode cX6_needs 42 = .ok (.iadd, 1) := by decide +kernel
theorem dX6_needs_43 : decode cX6_needs 43 = .ok (.iaload, 1) := by decide +kernel
theorem dX6_needs_44 : decode cX6_needs 44 = .ok (.iastore, 1) := by decide +kernel
theorem dX6_needs_45 : decode cX6_needs 45 = .ok (.iinc 2 1, 3) := by decide +kernel
theorem dX6_needs_48 : decode cX6_needs 48 = .ok (.goto (-23), 3) := by decide +kernel
theorem dX6_needs_51 : decode cX6_needs 51 = .ok (.iconst 0, 1) := by decide +kernel
theorem dX6_needs_52 : decode cX6_needs 52 = .ok (.istore_n 2, 1) := by decide +kernel
theorem dX6_needs_53 : decode cX6_needs 53 = .ok (.bipush 100, 2) := by decide +kernel
theorem dX6_needs_55 : decode cX6_needs 55 = .ok (.istore_n 3, 1) := by decide +kernel
theorem dX6_needs_56 : decode cX6_needs 56 = .ok (.iload_n 3, 1) := by decide +kernel
theorem dX6_needs_57 : decode cX6_needs 57 = .ok (.iload_n 2, 1) := by decide +kernel
theorem dX6_needs_58 : decode cX6_needs 58 = .ok (.isub, 1) := by decide +kernel
theorem dX6_needs_59 : decode cX6_needs 59 = .ok (.iconst 1, 1) := by decide +kernel
theorem dX6_needs_60 : decode cX6_needs 60 = .ok (.if_icmp .le 36, 3) := by decide +kernel
theorem dX6_needs_63 : decode cX6_needs 63 = .ok (.iload_n 3, 1) := by decide +kernel
theorem dX6_needs_64 : decode cX6_needs 64 = .ok (.iload_n 2, 1) := by decide +kernel
theorem dX6_needs_65 : decode cX6_needs 65 = .ok (.iadd, 1) := by decide +kernel
theorem dX6_needs_66 : decode cX6_needs 66 = .ok (.iconst 2, 1) := by decide +kernel
theorem dX6_needs_67 : decode cX6_needs 67 = .ok (.idiv, 1) := by decide +kernel
theorem dX6_needs_68 : decode cX6_needs 68 = .ok (.istore 4, 2) := by decide +kernel
theorem dX6_needs_70 : decode cX6_needs 70 = .ok (.aload_n 0, 1) := by decide +kernel
theorem dX6_needs_71 : decode cX6_needs 71 = .ok (.iload 4, 2) := by decide +kernel
theorem dX6_needs_73 : decode cX6_needs 73 = .ok (.invokevirtual 143, 3) := by decide +kernel
theorem dX6_needs_76 : decode cX6_needs 76 = .ok (.aload_n 0, 1) := by decide +kernel
theorem dX6_needs_77 : decode cX6_needs 77 = .ok (.iload_n 1, 1) := by decide +kernel
theorem dX6_needs_78 : decode cX6_needs 78 = .ok (.invokevirtual 140, 3) := by decide +kernel
theorem dX6_needs_81 : decode cX6_needs 81 = .ok (.ifCond .eq 9, 3) := by decide +kernel
theorem dX6_needs_84 : decode cX6_needs 84 = .ok (.iload 4, 2) := by decide +kernel
theorem dX6_needs_86 : decode cX6_needs 86 = .ok (.istore_n 3, 1) := by decide +kernel
theorem dX6_needs_87 : decode cX6_needs 87 = .ok (.goto 6, 3) := by decide +kernel
theorem dX6_needs_90 : decode cX6_needs 90 = .ok (.iload 4, 2) := by decide +kernel
theorem dX6_needs_92 : decode cX6_needs 92 = .ok (.istore_n 2, 1) := by decide +kernel
theorem dX6_needs_93 : decode cX6_needs 93 = .ok (.goto (-37), 3) := by decide +kernel
theorem dX6_needs_96 : decode cX6_needs 96 = .ok (.iconst 0, 1) := by decide +kernel
theorem dX6_needs_97 : decode cX6_needs 97 = .ok (.istore 4, 2) := by decide +kernel
theorem dX6_needs_99 : decode cX6_needs 99 = .ok (.iload 4, 2) := by decide +kernel
theorem dX6_needs_101 : decode cX6_needs 101 = .ok (.iconst 4, 1) := by decide +kernel
theorem dX6_needs_102 : decode cX6_needs 102 = .ok (.if_icmp .ge 26, 3) := by decide +kernel
theorem dX6_needs_105 : decode cX6_needs 105 = .ok (.aload_n 0, 1) := by decide +kernel
theorem dX6_needs_106 : decode cX6_needs 106 = .ok (.getfield 7, 3) := by decide +kernel
theorem dX6_needs_109 : decode cX6_needs 109 = .ok (.bipush 20, 2) := by decide +kernel
theorem dX6_needs_111 : decode cX6_needs 111 = .ok (.iload 4, 2) := by decide +kernel
theorem dX6_needs_113 : decode cX6_needs 113 = .ok (.iadd, 1) := by decide +kernel
theorem dX6_needs_114 : decode cX6_needs 114 = .ok (.aload_n 0, 1) := by decide +kernel
theorem dX6_needs_115 : decode cX6_needs 115 = .ok (.getfield 38, 3) := by decide +kernel
theorem dX6_needs_118 : decode cX6_needs 118 = .ok (.iload 4, 2) := by decide +kernel
theorem dX6_needs_120 : decode cX6_needs 120 = .ok (.iaload, 1) := by decide +kernel
theorem dX6_needs_121 : decode cX6_needs 121 = .ok (.iastore, 1) := by decide +kernel
theorem dX6_needs_122 : decode cX6_needs 122 = .ok (.iinc 4 1, 3) := by decide +kernel
theorem dX6_needs_125 : decode cX6_needs 125 = .ok (.goto (-26), 3) := by decide +kernel
theorem dX6_needs_128 : decode cX6_needs 128 = .ok (.iload_n 3, 1) := by decide +kernel
theorem dX6_needs_129 : decode cX6_needs 129 = .ok (.bipush 100, 2) := by decide +kernel
theorem dX6_needs_131 : decode cX6_needs 131 = .ok (.if_icmp .ge 7, 3) := by decide +kernel
theorem dX6_needs_134 : decode cX6_needs 134 = .ok (.iload_n 3, 1) := by decide +kernel
theorem dX6_needs_135 : decode cX6_needs 135 = .ok (.goto 5, 3) := by decide +kernel
theorem dX6_needs_138 : decode cX6_needs 138 = .ok (.bipush (-6), 2) := by decide +kernel
theorem dX6_needs_140 : decode cX6_needs 140 = .ok (.ireturn, 1) := by decide +kernel
set_option maxRecDepth 20000 in
theorem ggX6_image_X6_in : GoodIn wsX6_image wsX6_in := goodIn_r _ [7] (by decide +kernel) (by decide +kernel)
set_option maxRecDepth 20000 in
theorem gX6_image_X6_in : GoodIn wsX6_image (va_wsS RX6 41 yX6_in wsX6_in) := goodIn_app (goodIn_of _ (by decide +kernel)) ggX6_image_X6_in
theorem dX6_image_0 : decode cX6_image 0 = .ok (.iload_n 1, 1) := by decide +kernel
theorem dX6_image_1 : decode cX6_image 1 = .ok (.iconst 0, 1) := by decide +kernel
theorem dX6_image_2 : decode cX6_image 2 = .ok (.iconst 1, 1) := by decide +kernel
theorem dX6_image_3 : decode cX6_image 3 = .ok (.invokestatic 41, 3) := by decide +kernel
theorem dX6_image_6 : decode cX6_image 6 = .ok (.ifCond .ne 6, 3) := by decide +kernel
theorem dX6_image_9 : decode cX6_image 9 = .ok (.bipush (-2), 2) := by decide +kernel
theorem dX6_image_11 : decode cX6_image 11 = .ok (.ireturn, 1) := by decide +kernel
theorem dX6_image_12 : decode cX6_image 12 = .ok (.iconst 0, 1) := by decide +kernel
theorem dX6_image_13 : decode cX6_image 13 = .ok (.istore_n 2, 1) := by decide +kernel
theorem dX6_image_14 : decode cX6_image 14 = .ok (.iload_n 2, 1) := by decide +kernel
theorem dX6_image_15 : decode cX6_image 15 = .ok (.bipush 98, 2) := by decide +kernel
theorem dX6_image_17 : decode cX6_image 17 = .ok (.if_icmp .ge 26, 3) := by decide +kernel
theorem dX6_image_20 : decode cX6_image 20 = .ok (.aload_n 0, 1) := by decide +kernel
theorem dX6_image_21 : decode cX6_image 21 = .ok (.getfield 13, 3) := by decide +kernel
theorem dX6_image_24 : decode cX6_image 24 = .ok (.bipush 98, 2) := by decide +kernel
theorem dX6_image_26 : decode cX6_image 26 = .ok (.iload_n 1, 1) := by decide +kernel
theorem dX6_image_27 : decode cX6_image 27 = .ok (.imul, 1) := by decide +kernel
theorem dX6_image_28 : decode cX6_image 28 = .ok (.iload_n 2, 1) := by decide +kernel
theorem dX6_image_29 : decode cX6_image 29 = .ok (.iadd, 1) := by decide +kernel
theorem dX6_image_30 : decode cX6_image 30 = .ok (.aload_n 0, 1) := by decide +kernel
theorem dX6_image_31 : decode cX6_image 31 = .ok (.getfield 7, 3) := by decide +kernel
theorem dX6_image_34 : decode cX6_image 34 = .ok (.iload_n 2, 1) := by decide +kernel
theorem dX6_image_35 : decode cX6_image 35 = .ok (.iaload, 1) := by decide +kernel
theorem dX6_image_36 : decode cX6_image 36 = .ok (.iastore, 1) := by decide +kernel
theorem dX6_image_37 : decode cX6_image 37 = .ok (.iinc 2 1, 3) := by decide +kernel
theorem dX6_image_40 : decode cX6_image 40 = .ok (.goto (-26), 3) := by decide +kernel
theorem dX6_image_43 : decode cX6_image 43 = .ok (.aload_n 0, 1) := by decide +kernel
theorem dX6_image_44 : decode cX6_image 44 = .ok (.getfield 16, 3) := by decide +kernel
theorem dX6_image_47 : decode cX6_image 47 = .ok (.iload_n 1, 1) := by decide +kernel
theorem dX6_image_48 : decode cX6_image 48 = .ok (.iconst 1, 1) := by decide +kernel
theorem dX6_image_49 : decode cX6_image 49 = .ok (.bastore, 1) := by decide +kernel
theorem dX6_image_50 : decode cX6_image 50 = .ok (.iconst 1, 1) := by decide +kernel
theorem dX6_image_51 : decode cX6_image 51 = .ok (.ireturn, 1) := by decide +kernel
set_option maxRecDepth 20000 in
theorem ggX6_restore_X6_in : GoodIn wsX6_restore wsX6_in := goodIn_r _ [7] (by decide +kernel) (by decide +kernel)
set_option maxRecDepth 20000 in
theorem gX6_restore_X6_in : GoodIn wsX6_restore (va_wsS RX6 41 yX6_in wsX6_in) := goodIn_app (goodIn_of _ (by decide +kernel)) ggX6_restore_X6_in
theorem dX6_restore_0 : decode cX6_restore 0 = .ok (.iload_n 1, 1) := by decide +kernel
theorem dX6_restore_1 : decode cX6_restore 1 = .ok (.iconst 0, 1) := by decide +kernel
theorem dX6_restore_2 : decode cX6_restore 2 = .ok (.iconst 1, 1) := by decide +kernel
theorem dX6_restore_3 : decode cX6_restore 3 = .ok (.invokestatic 41, 3) := by decide +kernel
theorem dX6_restore_6 : decode cX6_restore 6 = .ok (.ifCond .ne 6, 3) := by decide +kernel
theorem dX6_restore_9 : decode cX6_restore 9 = .ok (.bipush (-2), 2) := by decide +kernel
theorem dX6_restore_11 : decode cX6_restore 11 = .ok (.ireturn, 1) := by decide +kernel
theorem dX6_restore_12 : decode cX6_restore 12 = .ok (.aload_n 0, 1) := by decide +kernel
theorem dX6_restore_13 : decode cX6_restore 13 = .ok (.getfield 16, 3) := by decide +kernel
theorem dX6_restore_16 : decode cX6_restore 16 = .ok (.iload_n 1, 1) := by decide +kernel
theorem dX6_restore_17 : decode cX6_restore 17 = .ok (.baload, 1) := by decide +kernel
theorem dX6_restore_18 : decode cX6_restore 18 = .ok (.ifCond .ne 6, 3) := by decide +kernel
theorem dX6_restore_21 : decode cX6_restore 21 = .ok (.bipush (-3), 2) := by decide +kernel
theorem dX6_restore_23 : decode cX6_restore 23 = .ok (.ireturn, 1) := by decide +kernel
theorem dX6_restore_24 : decode cX6_restore 24 = .ok (.iconst 0, 1) := by decide +kernel
theorem dX6_restore_25 : decode cX6_restore 25 = .ok (.istore_n 2, 1) := by decide +kernel
theorem dX6_restore_26 : decode cX6_restore 26 = .ok (.iload_n 2, 1) := by decide +kernel
theorem dX6_restore_27 : decode cX6_restore 27 = .ok (.bipush 98, 2) := by decide +kernel
theorem dX6_restore_29 : decode cX6_restore 29 = .ok (.if_icmp .ge 26, 3) := by decide +kernel
theorem dX6_restore_32 : decode cX6_restore 32 = .ok (.aload_n 0, 1) := by decide +kernel
theorem dX6_restore_33 : decode cX6_restore 33 = .ok (.getfield 7, 3) := by decide +kernel
theorem dX6_restore_36 : decode cX6_restore 36 = .ok (.iload_n 2, 1) := by decide +kernel
theorem dX6_restore_37 : decode cX6_restore 37 = .ok (.aload_n 0, 1) := by decide +kernel
theorem dX6_restore_38 : decode cX6_restore 38 = .ok (.getfield 13, 3) := by decide +kernel
theorem dX6_restore_41 : decode cX6_restore 41 = .ok (.bipush 98, 2) := by decide +kernel
theorem dX6_restore_43 : decode cX6_restore 43 = .ok (.iload_n 1, 1) := by decide +kernel
theorem dX6_restore_44 : decode cX6_restore 44 = .ok (.imul, 1) := by decide +kernel
theorem dX6_restore_45 : decode cX6_restore 45 = .ok (.iload_n 2, 1) := by decide +kernel
theorem dX6_restore_46 : decode cX6_restore 46 = .ok (.iadd, 1) := by decide +kernel
theorem dX6_restore_47 : decode cX6_restore 47 = .ok (.iaload, 1) := by decide +kernel
theorem dX6_restore_48 : decode cX6_restore 48 = .ok (.iastore, 1) := by decide +kernel
theorem dX6_restore_49 : decode cX6_restore 49 = .ok (.iinc 2 1, 3) := by decide +kernel
theorem dX6_restore_52 : decode cX6_restore 52 = .ok (.goto (-26), 3) := by decide +kernel
theorem dX6_restore_55 : decode cX6_restore 55 = .ok (.iconst 1, 1) := by decide +kernel
theorem dX6_restore_56 : decode cX6_restore 56 = .ok (.ireturn, 1) := by decide +kernel
theorem dX6_sumOf_0 : decode cX6_sumOf 0 = .ok (.iconst 0, 1) := by decide +kernel
theorem dX6_sumOf_1 : decode cX6_sumOf 1 = .ok (.istore_n 3, 1) := by decide +kernel
theorem dX6_sumOf_2 : decode cX6_sumOf 2 = .ok (.iconst 0, 1) := by decide +kernel
theorem dX6_sumOf_3 : decode cX6_sumOf 3 = .ok (.istore 4, 2) := by decide +kernel
theorem dX6_sumOf_5 : decode cX6_sumOf 5 = .ok (.iload 4, 2) := by decide +kernel
theorem dX6_sumOf_7 : decode cX6_sumOf 7 = .ok (.iload_n 2, 1) := by decide +kernel
theorem dX6_sumOf_8 : decode cX6_sumOf 8 = .ok (.if_icmp .ge 21, 3) := by decide +kernel
theorem dX6_sumOf_11 : decode cX6_sumOf 11 = .ok (.iload_n 3, 1) := by decide +kernel
theorem dX6_sumOf_12 : decode cX6_sumOf 12 = .ok (.aload_n 0, 1) := by decide +kernel
theorem dX6_sumOf_13 : decode cX6_sumOf 13 = .ok (.getfield 7, 3) := by decide +kernel
theorem dX6_sumOf_16 : decode cX6_sumOf 16 = .ok (.iload_n 1, 1) := by decide +kernel
theorem dX6_sumOf_17 : decode cX6_sumOf 17 = .ok (.iload 4, 2) := by decide +kernel
theorem dX6_sumOf_19 : decode cX6_sumOf 19 = .ok (.iadd, 1) := by decide +kernel
theorem dX6_sumOf_20 : decode cX6_sumOf 20 = .ok (.iaload, 1) := by decide +kernel
theorem dX6_sumOf_21 : decode cX6_sumOf 21 = .ok (.iadd, 1) := by decide +kernel
theorem dX6_sumOf_22 : decode cX6_sumOf 22 = .ok (.istore_n 3, 1) := by decide +kernel
theorem dX6_sumOf_23 : decode cX6_sumOf 23 = .ok (.iinc 4 1, 3) := by decide +kernel
theorem dX6_sumOf_26 : decode cX6_sumOf 26 = .ok (.goto (-21), 3) := by decide +kernel
theorem dX6_sumOf_29 : decode cX6_sumOf 29 = .ok (.iload_n 3, 1) := by decide +kernel
theorem dX6_sumOf_30 : decode cX6_sumOf 30 = .ok (.ireturn, 1) := by decide +kernel
set_option maxRecDepth 20000 in
theorem ggX6_count_X6_in : GoodIn wsX6_count wsX6_in := goodIn_r _ [6] (by decide +kernel) (by decide +kernel)
set_option maxRecDepth 20000 in
theorem gX6_count_X6_in : GoodIn wsX6_count (va_wsS RX6 41 yX6_in wsX6_in) := goodIn_app (goodIn_of _ (by decide +kernel)) ggX6_count_X6_in
set_option maxRecDepth 20000 in
theorem ggX6_count_X6_misreads : GoodIn wsX6_count wsX6_misreads := goodIn_r _ [10, 1, 23, 24, 25, 26, 27, 28, 29, 30, 31, 32, 33, 34, 35, 36, 37, 38] (by decide +kernel) (by decide +kernel)
set_option maxRecDepth 20000 in
theorem gX6_count_X6_misreads : GoodIn wsX6_count (wsV RX6 52 RX6 yX6_misreads wsX6_misreads) := goodIn_app (goodIn_of _ (by decide +kernel)) ggX6_count_X6_misreads
set_option maxRecDepth 20000 in
theorem ggX6_count_X6_usedMany : GoodIn wsX6_count wsX6_usedMany := goodIn_r _ [14, 15, 16, 17, 5, 18, 1, 23, 24, 25, 26, 27, 28, 29, 30, 31, 32, 33, 34, 35, 36, 37, 38] (by decide +kernel) (by decide +kernel)
set_option maxRecDepth 20000 in
theorem gX6_count_X6_usedMany : GoodIn wsX6_count (wsV RX6 115 RX6 yX6_usedMany wsX6_usedMany) := goodIn_app (goodIn_of _ (by decide +kernel)) ggX6_count_X6_usedMany
set_option maxRecDepth 20000 in
theorem ggX6_count_X6_sumOf : GoodIn wsX6_count wsX6_sumOf := goodIn_r _ [22, 1, 23, 24, 25, 26, 27, 28, 29, 30, 31, 32, 33, 34, 35, 36, 37, 38] (by decide +kernel) (by decide +kernel)
set_option maxRecDepth 20000 in
theorem gX6_count_X6_sumOf : GoodIn wsX6_count (wsV RX6 146 RX6 yX6_sumOf wsX6_sumOf) := goodIn_app (goodIn_of _ (by decide +kernel)) ggX6_count_X6_sumOf
theorem dX6_count_0 : decode cX6_count 0 = .ok (.iload_n 1, 1) := by decide +kernel
theorem dX6_count_1 : decode cX6_count 1 = .ok (.bipush 10, 2) := by decide +kernel
theorem dX6_count_3 : decode cX6_count 3 = .ok (.bipush 19, 2) := by decide +kernel
theorem dX6_count_5 : decode cX6_count 5 = .ok (.invokestatic 41, 3) := by decide +kernel
theorem dX6_count_8 : decode cX6_count 8 = .ok (.ifCond .eq 16, 3) := by decide +kernel
theorem dX6_count_11 : decode cX6_count 11 = .ok (.aload_n 0, 1) := by decide +kernel
theorem dX6_count_12 : decode cX6_count 12 = .ok (.getfield 7, 3) := by decide +kernel
theorem dX6_count_15 : decode cX6_count 15 = .ok (.bipush 10, 2) := by decide +kernel
theorem dX6_count_17 : decode cX6_count 17 = .ok (.iload_n 1, 1) := by decide +kernel
theorem dX6_count_18 : decode cX6_count 18 = .ok (.iadd, 1) := by decide +kernel
theorem dX6_count_19 : decode cX6_count 19 = .ok (.bipush 10, 2) := by decide +kernel
theorem dX6_count_21 : decode cX6_count 21 = .ok (.isub, 1) := by decide +kernel
theorem dX6_count_22 : decode cX6_count 22 = .ok (.iaload, 1) := by decide +kernel
theorem dX6_count_23 : decode cX6_count 23 = .ok (.ireturn, 1) := by decide +kernel
theorem dX6_count_24 : decode cX6_count 24 = .ok (.iload_n 1, 1) := by decide +kernel
theorem dX6_count_25 : decode cX6_count 25 = .ok (.tableswitch 127 0 6 #[43, 51, 56, 61, 69, 83, 97], 43) := by decide +kernel
theorem dX6_count_68 : decode cX6_count 68 = .ok (.aload_n 0, 1) := by decide +kernel
theorem dX6_count_69 : decode cX6_count 69 = .ok (.getfield 7, 3) := by decide +kernel
theorem dX6_count_72 : decode cX6_count 72 = .ok (.bipush 25, 2) := by decide +kernel
theorem dX6_count_74 : decode cX6_count 74 = .ok (.iaload, 1) := by decide +kernel
theorem dX6_count_75 : decode cX6_count 75 = .ok (.ireturn, 1) := by decide +kernel
theorem dX6_count_76 : decode cX6_count 76 = .ok (.aload_n 0, 1) := by decide +kernel
theorem dX6_count_77 : decode cX6_count 77 = .ok (.invokevirtual 52, 3) := by decide +kernel
theorem dX6_count_80 : decode cX6_count 80 = .ok (.ireturn, 1) := by decide +kernel
theorem dX6_count_81 : decode cX6_count 81 = .ok (.aload_n 0, 1) := by decide +kernel
theorem dX6_count_82 : decode cX6_count 82 = .ok (.invokevirtual 115, 3) := by decide +kernel
theorem dX6_count_85 : decode cX6_count 85 = .ok (.ireturn, 1) := by decide +kernel
theorem dX6_count_86 : decode cX6_count 86 = .ok (.aload_n 0, 1) := by decide +kernel
theorem dX6_count_87 : decode cX6_count 87 = .ok (.getfield 7, 3) := by decide +kernel
theorem dX6_count_90 : decode cX6_count 90 = .ok (.bipush 24, 2) := by decide +kernel
theorem dX6_count_92 : decode cX6_count 92 = .ok (.iaload, 1) := by decide +kernel
theorem dX6_count_93 : decode cX6_count 93 = .ok (.ireturn, 1) := by decide +kernel
theorem dX6_count_94 : decode cX6_count 94 = .ok (.aload_n 0, 1) := by decide +kernel
theorem dX6_count_95 : decode cX6_count 95 = .ok (.bipush 50, 2) := by decide +kernel
theorem dX6_count_97 : decode cX6_count 97 = .ok (.aload_n 0, 1) := by decide +kernel
theorem dX6_count_98 : decode cX6_count 98 = .ok (.getfield 7, 3) := by decide +kernel
theorem dX6_count_101 : decode cX6_count 101 = .ok (.bipush 25, 2) := by decide +kernel
theorem dX6_count_103 : decode cX6_count 103 = .ok (.iaload, 1) := by decide +kernel
theorem dX6_count_104 : decode cX6_count 104 = .ok (.invokevirtual 146, 3) := by decide +kernel
theorem dX6_count_107 : decode cX6_count 107 = .ok (.ireturn, 1) := by decide +kernel
theorem dX6_count_108 : decode cX6_count 108 = .ok (.aload_n 0, 1) := by decide +kernel
theorem dX6_count_109 : decode cX6_count 109 = .ok (.bipush 20, 2) := by decide +kernel
theorem dX6_count_111 : decode cX6_count 111 = .ok (.aload_n 0, 1) := by decide +kernel
theorem dX6_count_112 : decode cX6_count 112 = .ok (.getfield 7, 3) := by decide +kernel
theorem dX6_count_115 : decode cX6_count 115 = .ok (.bipush 24, 2) := by decide +kernel
theorem dX6_count_117 : decode cX6_count 117 = .ok (.iaload, 1) := by decide +kernel
theorem dX6_count_118 : decode cX6_count 118 = .ok (.invokevirtual 146, 3) := by decide +kernel
theorem dX6_count_121 : decode cX6_count 121 = .ok (.ireturn, 1) := by decide +kernel
theorem dX6_count_122 : decode cX6_count 122 = .ok (.aload_n 0, 1) := by decide +kernel
theorem dX6_count_123 : decode cX6_count 123 = .ok (.getfield 16, 3) := by decide +kernel
theorem dX6_count_126 : decode cX6_count 126 = .ok (.iconst 0, 1) := by decide +kernel
theorem dX6_count_127 : decode cX6_count 127 = .ok (.baload, 1) := by decide +kernel
theorem dX6_count_128 : decode cX6_count 128 = .ok (.ifCond .eq 7, 3) := by decide +kernel
theorem dX6_count_131 : decode cX6_count 131 = .ok (.iconst 1, 1) := by decide +kernel
theorem dX6_count_132 : decode cX6_count 132 = .ok (.goto 4, 3) := by decide +kernel
theorem dX6_count_135 : decode cX6_count 135 = .ok (.iconst 0, 1) := by decide +kernel
theorem dX6_count_136 : decode cX6_count 136 = .ok (.aload_n 0, 1) := by decide +kernel
theorem dX6_count_137 : decode cX6_count 137 = .ok (.getfield 16, 3) := by decide +kernel
theorem dX6_count_140 : decode cX6_count 140 = .ok (.iconst 1, 1) := by decide +kernel
theorem dX6_count_141 : decode cX6_count 141 = .ok (.baload, 1) := by decide +kernel
theorem dX6_count_142 : decode cX6_count 142 = .ok (.ifCond .eq 7, 3) := by decide +kernel
theorem dX6_count_145 : decode cX6_count 145 = .ok (.iconst 2, 1) := by decide +kernel
theorem dX6_count_146 : decode cX6_count 146 = .ok (.goto 4, 3) := by decide +kernel
theorem dX6_count_149 : decode cX6_count 149 = .ok (.iconst 0, 1) := by decide +kernel
theorem dX6_count_150 : decode cX6_count 150 = .ok (.iadd, 1) := by decide +kernel
theorem dX6_count_151 : decode cX6_count 151 = .ok (.ireturn, 1) := by decide +kernel
theorem dX6_count_152 : decode cX6_count 152 = .ok (.bipush (-2), 2) := by decide +kernel
theorem dX6_count_154 : decode cX6_count 154 = .ok (.ireturn, 1) := by decide +kernel
theorem dJ9_min_7cf53_0 : decode cJ9_min_7cf53 0 = .ok (.iload_n 0, 1) := by decide +kernel
theorem dJ9_min_7cf53_1 : decode cJ9_min_7cf53 1 = .ok (.iload_n 1, 1) := by decide +kernel
theorem dJ9_min_7cf53_2 : decode cJ9_min_7cf53 2 = .ok (.if_icmp .gt 7, 3) := by decide +kernel
theorem dJ9_min_7cf53_5 : decode cJ9_min_7cf53 5 = .ok (.iload_n 0, 1) := by decide +kernel
theorem dJ9_min_7cf53_6 : decode cJ9_min_7cf53 6 = .ok (.goto 4, 3) := by decide +kernel
theorem dJ9_min_7cf53_9 : decode cJ9_min_7cf53 9 = .ok (.iload_n 1, 1) := by decide +kernel
theorem dJ9_min_7cf53_10 : decode cJ9_min_7cf53 10 = .ok (.ireturn, 1) := by decide +kernel
theorem dJ7_fill_53178_0 : decode cJ7_fill_53178 0 = .ok (.iconst 0, 1) := by decide +kernel
theorem dJ7_fill_53178_1 : decode cJ7_fill_53178 1 = .ok (.istore_n 2, 1) := by decide +kernel
theorem dJ7_fill_53178_2 : decode cJ7_fill_53178 2 = .ok (.aload_n 0, 1) := by decide +kernel
theorem dJ7_fill_53178_3 : decode cJ7_fill_53178 3 = .ok (.arraylength, 1) := by decide +kernel
theorem dJ7_fill_53178_4 : decode cJ7_fill_53178 4 = .ok (.istore_n 3, 1) := by decide +kernel
theorem dJ7_fill_53178_5 : decode cJ7_fill_53178 5 = .ok (.iload_n 2, 1) := by decide +kernel
theorem dJ7_fill_53178_6 : decode cJ7_fill_53178 6 = .ok (.iload_n 3, 1) := by decide +kernel
theorem dJ7_fill_53178_7 : decode cJ7_fill_53178 7 = .ok (.if_icmp .ge 13, 3) := by decide +kernel
theorem dJ7_fill_53178_10 : decode cJ7_fill_53178 10 = .ok (.aload_n 0, 1) := by decide +kernel
theorem dJ7_fill_53178_11 : decode cJ7_fill_53178 11 = .ok (.iload_n 2, 1) := by decide +kernel
theorem dJ7_fill_53178_12 : decode cJ7_fill_53178 12 = .ok (.iload_n 1, 1) := by decide +kernel
theorem dJ7_fill_53178_13 : decode cJ7_fill_53178 13 = .ok (.iastore, 1) := by decide +kernel
theorem dJ7_fill_53178_14 : decode cJ7_fill_53178 14 = .ok (.iinc 2 1, 3) := by decide +kernel
theorem dJ7_fill_53178_17 : decode cJ7_fill_53178 17 = .ok (.goto (-12), 3) := by decide +kernel
theorem dJ7_fill_53178_20 : decode cJ7_fill_53178 20 = .ok (.return_, 1) := by decide +kernel
end
section
/-! ===== numbers: every int of the walk is iI z, z an Int ===== -/
def iI (z : Int) : Int32 := Int32.ofInt z
abbrev inR (z : Int) : Prop := -2147483648 ≤ z ∧ z ≤ 2147483647
theorem iI_toInt {z : Int} (h : inR z) : (iI z).toInt = z := Int32.toInt_ofInt_of_le (by have := h.1; omega) (by have := h.2; omega)
theorem iI_of (x : Int32) : x = iI x.toInt := (Int32.ofInt_toInt x).symm
theorem inR_of (x : Int32) : inR x.toInt := ⟨by have := Int32.le_toInt x; omega, by have := Int32.toInt_lt x; omega⟩
theorem iI_add (a b : Int) : iI a + iI b = iI (a + b) := (Int32.ofInt_add a b).symm
theorem iI_sub (a b : Int) : iI a - iI b = iI (a - b) := (Int32.ofInt_sub a b).symm
theorem iI_mul (a b : Int) : iI a * iI b = iI (a * b) := (Int32.ofInt_mul a b).symm
theorem iI_neg (a : Int) : -iI a = iI (-a) := (Int32.ofInt_neg a).symm
theorem iI_lt {a b : Int} (ha : inR a) (hb : inR b) : iI a < iI b ↔ a < b := by rw [Int32.lt_iff_toInt_lt, iI_toInt ha, iI_toInt hb]
theorem iI_le {a b : Int} (ha : inR a) (hb : inR b) : iI a ≤ iI b ↔ a ≤ b := by rw [Int32.le_iff_toInt_le, iI_toInt ha, iI_toInt hb]
theorem iI_eq {a b : Int} (ha : inR a) (hb : inR b) : iI a = iI b ↔ a = b := by rw [← Int32.toInt_inj, iI_toInt ha, iI_toInt hb]
theorem iI_zero : (0 : Int32) = iI 0 := rfl
theorem iI_nat {a : Int} (h : inR a) : (iI a).toNatClampNeg = a.toNat := by show (iI a).toInt.toNat = a.toNat; rw [iI_toInt h]
theorem iI_in {a : Int} {n : Nat} (h0 : 0 ≤ a) (h1 : a < n) (h2 : a ≤ 2147483647) : vp_in (iI a) n := by
  have hr : inR a := ⟨by omega, h2⟩
  intro h
  rcases h with h | h
  · rw [iI_zero, iI_lt hr ⟨by omega, by omega⟩] at h
    omega
  · rw [iI_nat hr] at h
    omega
theorem iI_div {a b : Int} (h0 : 0 ≤ a) (h1 : 0 < b) (ha : a ≤ 2147483647) (hb : b ≤ 2147483647) : iI a / iI b = iI (a / b) := by
  have hra : inR a := ⟨by omega, ha⟩
  have hrb : inR b := ⟨by omega, hb⟩
  have hd : 0 ≤ a / b := Int.ediv_nonneg h0 (by omega)
  have hd2 : a / b ≤ a := Int.ediv_le_self _ h0
  apply Int32.toInt_inj.1
  rw [Int32.toInt_div_of_ne_right, iI_toInt hra, iI_toInt hrb, iI_toInt ⟨by omega, by omega⟩, Int.tdiv_eq_ediv_of_nonneg h0]
  intro h
  have h2 := congrArg Int32.toInt h
  rw [iI_toInt hrb] at h2
  have h3 : (-1 : Int32).toInt = -1 := by decide
  omega
theorem iI_mod {a b : Int} (h0 : 0 ≤ a) (h1 : 0 < b) (ha : a ≤ 2147483647) (hb : b ≤ 2147483647) : iI a % iI b = iI (a % b) := by
  have hra : inR a := ⟨by omega, ha⟩
  have hrb : inR b := ⟨by omega, hb⟩
  have hd : 0 ≤ a % b := Int.emod_nonneg _ (by omega)
  have hd2 : a % b < b := Int.emod_lt_of_pos _ h1
  apply Int32.toInt_inj.1
  rw [Int32.toInt_mod, iI_toInt hra, iI_toInt hrb, iI_toInt ⟨by omega, by omega⟩, Int.tmod_eq_emod_of_nonneg h0]
/-! rows of ints: an Int at each Int -/
def cI (F : Int → Int) : Nat → Int32 := fun j => iI (F (j : Int))
def ud (F : Int → Int) (a v : Int) : Int → Int := fun j => if j = a then v else F j
theorem ud_at (F : Int → Int) (a v : Int) : ud F a v a = v := if_pos rfl
theorem ud_ne {F : Int → Int} {a v j : Int} (h : j ≠ a) : ud F a v j = F j := if_neg h
theorem ud_b {F : Int → Int} {a v lo hi : Int} (h : ∀ j, lo ≤ F j ∧ F j ≤ hi) (h1 : lo ≤ v) (h2 : v ≤ hi) : ∀ j, lo ≤ ud F a v j ∧ ud F a v j ≤ hi := fun j => by
  by_cases e : j = a
  · subst e; rw [ud_at]; exact ⟨h1, h2⟩
  · rw [ud_ne e]; exact h j
theorem cI_at {F : Int → Int} {a : Int} (h0 : 0 ≤ a) (h : a ≤ 2147483647) : cI F (iI a).toNatClampNeg = iI (F a) := by
  show iI (F _) = _
  rw [iI_nat ⟨by omega, h⟩, Int.toNat_of_nonneg h0]
theorem cI_ud {F : Int → Int} {a v : Int} (h0 : 0 ≤ a) (h : a ≤ 2147483647) : upd (cI F) (iI a).toNatClampNeg (iI v) = cI (ud F a v) := by
  funext j
  rw [iI_nat ⟨by omega, h⟩]
  show (if j = a.toNat then iI v else iI (F j)) = iI (if (j : Int) = a then v else F j)
  by_cases e : j = a.toNat
  · rw [if_pos e, if_pos (by omega)]
  · rw [if_neg e, if_neg (by omega)]
/-- a row of ints as a cell -/
abbrev ai (cy : ClassId) (a n : Nat) (F : Int → Int) : Nat × va_E := (a, .inl (cy, n, .inl (cI F)))
/-- a row of references as a cell: r j at place j -/
abbrev aq (cy : ClassId) (a n : Nat) (r : Nat → Nat) : Nat × va_E := (a, .inl (cy, n, .inr (.inr (.inr (.inr (fun j => some (r j)))))))
/-! rows of the walk -/
section RW
variable {p : Program} {l : Launch} {e : Env} {R : Room} {s : State} {m : MethodId} {args : Array Value} {below : List Frame} {meth : Method} {c : Code} {H : Heap} {locs : List Loc} {cells slots : Nat} {Q : State → Prop}
variable {cc : ByteArray} {pc : Nat} {ls : Array Slot} {rest : List Value}
theorem r_const (hx : p.tables.exec = Jvm.exec) (hb : c.code = cc) {n : Int} (hdg : decode cc pc = .ok (.iconst n, 1)) (k : W p l e R s m args below meth c H locs cells slots Q (F0 m (pc + 1) ls (.int (iI n) :: rest))) : W p l e R s m args below meth c H locs cells slots Q (F0 m pc ls rest) := lv_iconst hx hb hdg rfl k
theorem r_bip (hx : p.tables.exec = Jvm.exec) (hb : c.code = cc) (n : Int) (hdg : decode cc pc = .ok (.bipush n, 2)) (hv : (Int8.ofInt n).toInt32 = iI n) (k : W p l e R s m args below meth c H locs cells slots Q (F0 m (pc + 2) ls (.int (iI n) :: rest))) : W p l e R s m args below meth c H locs cells slots Q (F0 m pc ls rest) := lv_bipush hx hb hdg hv k
theorem r_sip (hx : p.tables.exec = Jvm.exec) (hb : c.code = cc) (n : Int) (hdg : decode cc pc = .ok (.sipush n, 3)) (hv : (Int16.ofInt n).toInt32 = iI n) (k : W p l e R s m args below meth c H locs cells slots Q (F0 m (pc + 3) ls (.int (iI n) :: rest))) : W p l e R s m args below meth c H locs cells slots Q (F0 m pc ls rest) := lv_sipush hx hb hdg hv k
theorem r_add (hx : p.tables.exec = Jvm.exec) (hb : c.code = cc) {a b : Int} (hdg : decode cc pc = .ok (.iadd, 1)) (k : W p l e R s m args below meth c H locs cells slots Q (F0 m (pc + 1) ls (.int (iI (a + b)) :: rest))) : W p l e R s m args below meth c H locs cells slots Q (F0 m pc ls (.int (iI b) :: .int (iI a) :: rest)) := lv_iadd hx hb hdg (by rw [iI_add]; exact k)
theorem r_sub (hx : p.tables.exec = Jvm.exec) (hb : c.code = cc) {a b : Int} (hdg : decode cc pc = .ok (.isub, 1)) (k : W p l e R s m args below meth c H locs cells slots Q (F0 m (pc + 1) ls (.int (iI (a - b)) :: rest))) : W p l e R s m args below meth c H locs cells slots Q (F0 m pc ls (.int (iI b) :: .int (iI a) :: rest)) := lv_isub hx hb hdg (by rw [iI_sub]; exact k)
theorem r_mul (hx : p.tables.exec = Jvm.exec) (hb : c.code = cc) {a b : Int} (hdg : decode cc pc = .ok (.imul, 1)) (k : W p l e R s m args below meth c H locs cells slots Q (F0 m (pc + 1) ls (.int (iI (a * b)) :: rest))) : W p l e R s m args below meth c H locs cells slots Q (F0 m pc ls (.int (iI b) :: .int (iI a) :: rest)) := lv_imul hx hb hdg (by rw [iI_mul]; exact k)
theorem r_neg (hx : p.tables.exec = Jvm.exec) (hb : c.code = cc) {a : Int} (hdg : decode cc pc = .ok (.ineg, 1)) (k : W p l e R s m args below meth c H locs cells slots Q (F0 m (pc + 1) ls (.int (iI (-a)) :: rest))) : W p l e R s m args below meth c H locs cells slots Q (F0 m pc ls (.int (iI a) :: rest)) := lv_ineg hx hb hdg (by rw [iI_neg]; exact k)
theorem iI_ne0 {b : Int} (h : 0 < b) (h2 : b ≤ 2147483647) : ¬ iI b = 0 := fun q => by
  rw [iI_zero, iI_eq ⟨by omega, h2⟩ ⟨by omega, by omega⟩] at q
  omega
theorem r_div (hx : p.tables.exec = Jvm.exec) (hb : c.code = cc) {a b : Int} (hdg : decode cc pc = .ok (.idiv, 1)) (h : (0 ≤ a ∧ a ≤ 2147483647) ∧ 0 < b ∧ b ≤ 2147483647) (k : W p l e R s m args below meth c H locs cells slots Q (F0 m (pc + 1) ls (.int (iI (a / b)) :: rest))) : W p l e R s m args below meth c H locs cells slots Q (F0 m pc ls (.int (iI b) :: .int (iI a) :: rest)) := lv_idiv hx hb hdg (iI_ne0 h.2.1 h.2.2) (by rw [iI_div h.1.1 h.2.1 h.1.2 h.2.2]; exact k)
theorem r_rem (hx : p.tables.exec = Jvm.exec) (hb : c.code = cc) {a b : Int} (hdg : decode cc pc = .ok (.irem, 1)) (h : (0 ≤ a ∧ a ≤ 2147483647) ∧ 0 < b ∧ b ≤ 2147483647) (k : W p l e R s m args below meth c H locs cells slots Q (F0 m (pc + 1) ls (.int (iI (a % b)) :: rest))) : W p l e R s m args below meth c H locs cells slots Q (F0 m pc ls (.int (iI b) :: .int (iI a) :: rest)) := lv_irem hx hb hdg (iI_ne0 h.2.1 h.2.2) (by rw [iI_div h.1.1 h.2.1 h.1.2 h.2.2, iI_mul, iI_sub, show a - a / b * b = a % b by rw [Int.emod_def, Int.mul_comm]]; exact k)
/-- another way to write the top of the stack -/
theorem r_top {a : Int} (b : Int) (h : a = b) (k : W p l e R s m args below meth c H locs cells slots Q (F0 m pc ls (.int (iI b) :: rest))) : W p l e R s m args below meth c H locs cells slots Q (F0 m pc ls (.int (iI a) :: rest)) := by rw [h]; exact k
theorem r_inc (hx : p.tables.exec = Jvm.exec) (hb : c.code = cc) {i nL k : Nat} {n a : Int} {lv lv' : List (Nat × Value)} (hdg : decode cc pc = .ok (.iinc i n, 3)) (h : lv_has ls nL lv) (hk : lv[k]? = some (i, .int (iI a))) (hn : i < nL) (hl : (i, Value.int (iI (a + n))) :: lv.filter (fun q => !(q.1 == i) && !(q.1 + 1 == i && q.2.category == 2)) = lv')
    (kk : ∀ ls' : Array Slot, lv_has ls' nL lv' → W p l e R s m args below meth c H locs cells slots Q (F0 m (pc + 3) ls' rest)) : W p l e R s m args below meth c H locs cells slots Q (F0 m pc ls rest) := lv_iinc hx hb hdg h hk (iI_add a n) hn hl kk
theorem r_ge (hx : p.tables.exec = Jvm.exec) (hb : c.code = cc) {a b : Int} {off : Int} (tgt : Nat) (hdg : decode cc pc = .ok (.if_icmp .ge off, 3)) (ht : (pc : Int) + off = (tgt : Int)) (ha : inR a) (hbb : inR b) (kt : b ≤ a → W p l e R s m args below meth c H locs cells slots Q (F0 m tgt ls rest)) (kf : a < b → W p l e R s m args below meth c H locs cells slots Q (F0 m (pc + 3) ls rest)) : W p l e R s m args below meth c H locs cells slots Q (F0 m pc ls (.int (iI b) :: .int (iI a) :: rest)) := lv_icmp_ge hx hb hdg ht (fun h => kt ((iI_le hbb ha).mp h)) (fun h => kf (Int.not_le.mp fun q => h ((iI_le hbb ha).mpr q)))
theorem r_gt (hx : p.tables.exec = Jvm.exec) (hb : c.code = cc) {a b : Int} {off : Int} (tgt : Nat) (hdg : decode cc pc = .ok (.if_icmp .gt off, 3)) (ht : (pc : Int) + off = (tgt : Int)) (ha : inR a) (hbb : inR b) (kt : b < a → W p l e R s m args below meth c H locs cells slots Q (F0 m tgt ls rest)) (kf : a ≤ b → W p l e R s m args below meth c H locs cells slots Q (F0 m (pc + 3) ls rest)) : W p l e R s m args below meth c H locs cells slots Q (F0 m pc ls (.int (iI b) :: .int (iI a) :: rest)) := lv_icmp_gt hx hb hdg ht (fun h => kt ((iI_lt hbb ha).mp h)) (fun h => kf (Int.not_lt.mp fun q => h ((iI_lt hbb ha).mpr q)))
theorem r_lt (hx : p.tables.exec = Jvm.exec) (hb : c.code = cc) {a b : Int} {off : Int} (tgt : Nat) (hdg : decode cc pc = .ok (.if_icmp .lt off, 3)) (ht : (pc : Int) + off = (tgt : Int)) (ha : inR a) (hbb : inR b) (kt : a < b → W p l e R s m args below meth c H locs cells slots Q (F0 m tgt ls rest)) (kf : b ≤ a → W p l e R s m args below meth c H locs cells slots Q (F0 m (pc + 3) ls rest)) : W p l e R s m args below meth c H locs cells slots Q (F0 m pc ls (.int (iI b) :: .int (iI a) :: rest)) := lv_icmp_lt hx hb hdg ht (fun h => kt ((iI_lt ha hbb).mp h)) (fun h => kf (Int.not_lt.mp fun q => h ((iI_lt ha hbb).mpr q)))
theorem r_le (hx : p.tables.exec = Jvm.exec) (hb : c.code = cc) {a b : Int} {off : Int} (tgt : Nat) (hdg : decode cc pc = .ok (.if_icmp .le off, 3)) (ht : (pc : Int) + off = (tgt : Int)) (ha : inR a) (hbb : inR b) (kt : a ≤ b → W p l e R s m args below meth c H locs cells slots Q (F0 m tgt ls rest)) (kf : b < a → W p l e R s m args below meth c H locs cells slots Q (F0 m (pc + 3) ls rest)) : W p l e R s m args below meth c H locs cells slots Q (F0 m pc ls (.int (iI b) :: .int (iI a) :: rest)) := lv_icmp_le hx hb hdg ht (fun h => kt ((iI_le ha hbb).mp h)) (fun h => kf (Int.not_le.mp fun q => h ((iI_le ha hbb).mpr q)))
theorem r_eq (hx : p.tables.exec = Jvm.exec) (hb : c.code = cc) {a b : Int} {off : Int} (tgt : Nat) (hdg : decode cc pc = .ok (.if_icmp .eq off, 3)) (ht : (pc : Int) + off = (tgt : Int)) (ha : inR a) (hbb : inR b) (kt : a = b → W p l e R s m args below meth c H locs cells slots Q (F0 m tgt ls rest)) (kf : a ≠ b → W p l e R s m args below meth c H locs cells slots Q (F0 m (pc + 3) ls rest)) : W p l e R s m args below meth c H locs cells slots Q (F0 m pc ls (.int (iI b) :: .int (iI a) :: rest)) := lv_icmp_eq hx hb hdg ht (fun h => kt ((iI_eq ha hbb).mp h)) (fun h => kf (fun q => h ((iI_eq ha hbb).mpr q)))
theorem r_ne (hx : p.tables.exec = Jvm.exec) (hb : c.code = cc) {a b : Int} {off : Int} (tgt : Nat) (hdg : decode cc pc = .ok (.if_icmp .ne off, 3)) (ht : (pc : Int) + off = (tgt : Int)) (ha : inR a) (hbb : inR b) (kt : a ≠ b → W p l e R s m args below meth c H locs cells slots Q (F0 m tgt ls rest)) (kf : a = b → W p l e R s m args below meth c H locs cells slots Q (F0 m (pc + 3) ls rest)) : W p l e R s m args below meth c H locs cells slots Q (F0 m pc ls (.int (iI b) :: .int (iI a) :: rest)) := lv_icmp_ne hx hb hdg ht (fun h => kt (fun q => h ((iI_eq ha hbb).mpr q))) (fun h => kf ((iI_eq ha hbb).mp (by first | exact Classical.not_not.mp h | exact h)))
theorem r_eq0 (hx : p.tables.exec = Jvm.exec) (hb : c.code = cc) {a : Int} {off : Int} (tgt : Nat) (hdg : decode cc pc = .ok (.ifCond .eq off, 3)) (ht : (pc : Int) + off = (tgt : Int)) (ha : inR a) (kt : a = 0 → W p l e R s m args below meth c H locs cells slots Q (F0 m tgt ls rest)) (kf : a ≠ 0 → W p l e R s m args below meth c H locs cells slots Q (F0 m (pc + 3) ls rest)) : W p l e R s m args below meth c H locs cells slots Q (F0 m pc ls (.int (iI a) :: rest)) := lv_if_eq hx hb hdg ht (fun h => kt ((iI_eq ha ⟨by omega, by omega⟩).mp h)) (fun h => kf (fun q => h ((iI_eq ha ⟨by omega, by omega⟩).mpr q)))
theorem r_ne0 (hx : p.tables.exec = Jvm.exec) (hb : c.code = cc) {a : Int} {off : Int} (tgt : Nat) (hdg : decode cc pc = .ok (.ifCond .ne off, 3)) (ht : (pc : Int) + off = (tgt : Int)) (ha : inR a) (kt : a ≠ 0 → W p l e R s m args below meth c H locs cells slots Q (F0 m tgt ls rest)) (kf : a = 0 → W p l e R s m args below meth c H locs cells slots Q (F0 m (pc + 3) ls rest)) : W p l e R s m args below meth c H locs cells slots Q (F0 m pc ls (.int (iI a) :: rest)) := lv_if_ne hx hb hdg ht (fun h => kt (fun q => h ((iI_eq ha ⟨by omega, by omega⟩).mpr q))) (fun h => kf ((iI_eq ha ⟨by omega, by omega⟩).mp (by first | exact Classical.not_not.mp h | exact h)))
theorem r_lt0 (hx : p.tables.exec = Jvm.exec) (hb : c.code = cc) {a : Int} {off : Int} (tgt : Nat) (hdg : decode cc pc = .ok (.ifCond .lt off, 3)) (ht : (pc : Int) + off = (tgt : Int)) (ha : inR a) (kt : a < 0 → W p l e R s m args below meth c H locs cells slots Q (F0 m tgt ls rest)) (kf : 0 ≤ a → W p l e R s m args below meth c H locs cells slots Q (F0 m (pc + 3) ls rest)) : W p l e R s m args below meth c H locs cells slots Q (F0 m pc ls (.int (iI a) :: rest)) := lv_if_lt hx hb hdg ht (fun h => kt ((iI_lt ha ⟨by omega, by omega⟩).mp h)) (fun h => kf (Int.not_lt.mp fun q => h ((iI_lt ha ⟨by omega, by omega⟩).mpr q)))
theorem r_ge0 (hx : p.tables.exec = Jvm.exec) (hb : c.code = cc) {a : Int} {off : Int} (tgt : Nat) (hdg : decode cc pc = .ok (.ifCond .ge off, 3)) (ht : (pc : Int) + off = (tgt : Int)) (ha : inR a) (kt : 0 ≤ a → W p l e R s m args below meth c H locs cells slots Q (F0 m tgt ls rest)) (kf : a < 0 → W p l e R s m args below meth c H locs cells slots Q (F0 m (pc + 3) ls rest)) : W p l e R s m args below meth c H locs cells slots Q (F0 m pc ls (.int (iI a) :: rest)) := lv_if_ge hx hb hdg ht (fun h => kt ((iI_le ⟨by omega, by omega⟩ ha).mp h)) (fun h => kf (Int.not_le.mp fun q => h ((iI_le ⟨by omega, by omega⟩ ha).mpr q)))
theorem r_le0 (hx : p.tables.exec = Jvm.exec) (hb : c.code = cc) {a : Int} {off : Int} (tgt : Nat) (hdg : decode cc pc = .ok (.ifCond .le off, 3)) (ht : (pc : Int) + off = (tgt : Int)) (ha : inR a) (kt : a ≤ 0 → W p l e R s m args below meth c H locs cells slots Q (F0 m tgt ls rest)) (kf : 0 < a → W p l e R s m args below meth c H locs cells slots Q (F0 m (pc + 3) ls rest)) : W p l e R s m args below meth c H locs cells slots Q (F0 m pc ls (.int (iI a) :: rest)) := lv_if_le hx hb hdg ht (fun h => kt ((iI_le ha ⟨by omega, by omega⟩).mp h)) (fun h => kf (Int.not_le.mp fun q => h ((iI_le ha ⟨by omega, by omega⟩).mpr q)))
variable {D : va_G} {cl : List vw_C} {A : Nat → Prop} {a : Nat} {tys : List (ClassId × FieldType)} {ws : va_W} {H0 : Heap}
theorem r_ald (hx : p.tables.exec = Jvm.exec) (hb : c.code = cc) (hK : va_K D cl tys s) (hP : va_P D cl ws H) (q0 : Nat) {cA : ClassId} {n : Nat} {F : Int → Int} (ha : ws[q0]? = some (ai cA a n F)) (ht : tys[0]? = some (cA, .int)) {i : Int} (hin : 0 ≤ i ∧ i < n ∧ i ≤ 2147483647) (hdg : decode cc pc = .ok (.iaload, 1))
    (kk : W p l e R s m args below meth c H locs cells slots Q (F0 m (pc + 1) ls (.int (iI (F i)) :: rest))) : W p l e R s m args below meth c H locs cells slots Q (F0 m pc ls (.int (iI i) :: .ref a :: rest)) :=
  va_iald hx hb hK hP q0 0 ha ht (iI_in hin.1 hin.2.1 hin.2.2) hdg (by rw [cI_at hin.1 hin.2.2]; exact kk)
theorem r_ast (hx : p.tables.exec = Jvm.exec) (hb : c.code = cc) (hK : va_K D cl tys s) (hP : va_P D cl ws H) (hD : va_D A ws) (hS : va_S A H0 H locs) (q0 : Nat) {cA : ClassId} {n : Nat} {F : Int → Int} (ha : ws[q0]? = some (ai cA a n F)) (ht : tys[0]? = some (cA, .int)) {i v : Int} (hin : 0 ≤ i ∧ i < n ∧ i ≤ 2147483647) (hdg : decode cc pc = .ok (.iastore, 1))
    (kk : ∀ (H1 : Heap) (locs1 : List Loc), va_P D cl (ws.set q0 (ai cA a n (ud F i v))) H1 → va_D A (ws.set q0 (ai cA a n (ud F i v))) → va_S A H0 H1 locs1 → W p l e R s m args below meth c H1 locs1 cells slots Q (F0 m (pc + 1) ls rest)) : W p l e R s m args below meth c H locs cells slots Q (F0 m pc ls (.int (iI v) :: .int (iI i) :: .ref a :: rest)) := by
  refine va_iast hx hb hK hP hD hS q0 0 ha ht (iI_in hin.1 hin.2.1 hin.2.2) hdg fun H1 locs1 h1 h2 h3 => ?_
  rw [cI_ud hin.1 hin.2.2] at h1 h2
  exact kk H1 locs1 h1 h2 h3
end RW
end
section
/-! ===== nest links: fields and methods of nest mates ===== -/
def nwF : List (String × Nat × String × String × String) := [(RX5, 49, RX1, "letters", "I"), (RX2, 40, RX1, "letters", "I"), (RX4, 64, RX1, "letters", "I"), (RX4, 70, RX1, "points", "[I"), (RX2, 77, RX1, "points", "[I"), (RX5, 103, RX1, "points", "[I"), (RX4, 73, RX1, "thicks", "[I"), (RX2, 80, RX1, "thicks", "[I"), (RX5, 106, RX1, "thicks", "[I"), (RX4, 67, RX1, "misreads", "[I"), (RX2, 64, RX1, "misreads", "[I"), (RX5, 109, RX1, "misreads", "[I"), (RX3, 34, RX1, "order", "[I"), (RX5, 79, RX1, "order", "[I"), (RX5, 75, RX1, "places", "[I"), (RX2, 92, RX1, "places", "[I"), (RX3, 18, RX1, "many", "I"), (RX4, 43, RX1, "many", "I"), (RX2, 49, RX1, "many", "I"), (RX5, 82, RX1, "many", "I"), (RX4, 38, RX1, "rooms", "[I"), (RX2, 83, RX1, "rooms", "[I"), (RX5, 91, RX1, "rooms", "[I"), (RX5, 97, RX1, "codes", "[I"), (RX0, 36, RX1, "version", "I"), (RX5, 130, RX2, "order", "[I"), (RX5, 119, RX2, "coming", "I"), (RX5, 131, RX2, "spilledAt", "[I"), (RX5, 134, RX2, "loads", "[I"), (RX4, 80, RX3, "points", "[I"), (RX4, 51, RX3, "size", "I"), (RX0, 58, RX3, "codes", "[I"), (RX4, 85, RX3, "codes", "[I"), (RX5, 151, RX0, "plans", "I"), (RX5, 154, RX0, "least", "I"), (RX5, 157, RX0, "ties", "I"), (RX5, 163, RX0, "codes", "[I")]
def nwM : List (String × Nat × MethodName) := [(RX5, 22, yX2_init), (RX5, 29, yX0_init), (RX0, 11, yX3_init), (RX0, 20, yX2_init), (RX5, 36, yX4_init), (RX4, 11, yX3_init), (RX2, 67, yX5_figure), (RX3, 24, yX5_power), (RX4, 88, yX5_figure)]
def nestOK (U : State) : Prop := (∀ q ∈ nwF, va_Nw (.fieldLinkNest q.1 q.2.1 q.2.2.1 q.2.2.2.1 q.2.2.2.2 RX5) U) ∧ ∀ q ∈ nwM, va_Nw (.methodLinkNest q.1 q.2.1 q.2.2 RX5) U
theorem nest_warm {s U : State} (hW : s.WarmedH U.vm) (h : nestOK s) : nestOK U := ⟨fun q hq => va_Nw.warmF hW (h.1 q hq), fun q hq => va_Nw.warmM hW (h.2 q hq)⟩
theorem nest_same {s U : State} (hv : s.vm = U.vm) (h : nestOK s) : nestOK U := ⟨fun q hq => va_Nw.same rfl hv (h.1 q hq), fun q hq => va_Nw.same rfl hv (h.2 q hq)⟩
theorem nfX5_49 {U : State} {args : Array Value} (h : nestOK U) : (Cond.fieldLinkNest RX5 49 RX1 "letters" "I" RX5).before args U = true := va_Nw.use rfl (h.1 (RX5, 49, RX1, "letters", "I") (List.mem_of_getElem? (i := 0) rfl))
theorem nfX2_40 {U : State} {args : Array Value} (h : nestOK U) : (Cond.fieldLinkNest RX2 40 RX1 "letters" "I" RX5).before args U = true := va_Nw.use rfl (h.1 (RX2, 40, RX1, "letters", "I") (List.mem_of_getElem? (i := 1) rfl))
theorem nfX4_64 {U : State} {args : Array Value} (h : nestOK U) : (Cond.fieldLinkNest RX4 64 RX1 "letters" "I" RX5).before args U = true := va_Nw.use rfl (h.1 (RX4, 64, RX1, "letters", "I") (List.mem_of_getElem? (i := 2) rfl))
theorem nfX4_70 {U : State} {args : Array Value} (h : nestOK U) : (Cond.fieldLinkNest RX4 70 RX1 "points" "[I" RX5).before args U = true := va_Nw.use rfl (h.1 (RX4, 70, RX1, "points", "[I") (List.mem_of_getElem? (i := 3) rfl))
theorem nfX2_77 {U : State} {args : Array Value} (h : nestOK U) : (Cond.fieldLinkNest RX2 77 RX1 "points" "[I" RX5).before args U = true := va_Nw.use rfl (h.1 (RX2, 77, RX1, "points", "[I") (List.mem_of_getElem? (i := 4) rfl))
theorem nfX5_103 {U : State} {args : Array Value} (h : nestOK U) : (Cond.fieldLinkNest RX5 103 RX1 "points" "[I" RX5).before args U = true := va_Nw.use rfl (h.1 (RX5, 103, RX1, "points", "[I") (List.mem_of_getElem? (i := 5) rfl))
theorem nfX4_73 {U : State} {args : Array Value} (h : nestOK U) : (Cond.fieldLinkNest RX4 73 RX1 "thicks" "[I" RX5).before args U = true := va_Nw.use rfl (h.1 (RX4, 73, RX1, "thicks", "[I") (List.mem_of_getElem? (i := 6) rfl))
theorem nfX2_80 {U : State} {args : Array Value} (h : nestOK U) : (Cond.fieldLinkNest RX2 80 RX1 "thicks" "[I" RX5).before args U = true := va_Nw.use rfl (h.1 (RX2, 80, RX1, "thicks", "[I") (List.mem_of_getElem? (i := 7) rfl))
theorem nfX5_106 {U : State} {args : Array Value} (h : nestOK U) : (Cond.fieldLinkNest RX5 106 RX1 "thicks" "[I" RX5).before args U = true := va_Nw.use rfl (h.1 (RX5, 106, RX1, "thicks", "[I") (List.mem_of_getElem? (i := 8) rfl))
theorem nfX4_67 {U : State} {args : Array Value} (h : nestOK U) : (Cond.fieldLinkNest RX4 67 RX1 "misreads" "[I" RX5).before args U = true := va_Nw.use rfl (h.1 (RX4, 67, RX1, "misreads", "[I") (List.mem_of_getElem? (i := 9) rfl))
theorem nfX2_64 {U : State} {args : Array Value} (h : nestOK U) : (Cond.fieldLinkNest RX2 64 RX1 "misreads" "[I" RX5).before args U = true := va_Nw.use rfl (h.1 (RX2, 64, RX1, "misreads", "[I") (List.mem_of_getElem? (i := 10) rfl))
theorem nfX5_109 {U : State} {args : Array Value} (h : nestOK U) : (Cond.fieldLinkNest RX5 109 RX1 "misreads" "[I" RX5).before args U = true := va_Nw.use rfl (h.1 (RX5, 109, RX1, "misreads", "[I") (List.mem_of_getElem? (i := 11) rfl))
theorem nfX3_34 {U : State} {args : Array Value} (h : nestOK U) : (Cond.fieldLinkNest RX3 34 RX1 "order" "[I" RX5).before args U = true := va_Nw.use rfl (h.1 (RX3, 34, RX1, "order", "[I") (List.mem_of_getElem? (i := 12) rfl))
theorem nfX5_79 {U : State} {args : Array Value} (h : nestOK U) : (Cond.fieldLinkNest RX5 79 RX1 "order" "[I" RX5).before args U = true := va_Nw.use rfl (h.1 (RX5, 79, RX1, "order", "[I") (List.mem_of_getElem? (i := 13) rfl))
theorem nfX5_75 {U : State} {args : Array Value} (h : nestOK U) : (Cond.fieldLinkNest RX5 75 RX1 "places" "[I" RX5).before args U = true := va_Nw.use rfl (h.1 (RX5, 75, RX1, "places", "[I") (List.mem_of_getElem? (i := 14) rfl))
theorem nfX2_92 {U : State} {args : Array Value} (h : nestOK U) : (Cond.fieldLinkNest RX2 92 RX1 "places" "[I" RX5).before args U = true := va_Nw.use rfl (h.1 (RX2, 92, RX1, "places", "[I") (List.mem_of_getElem? (i := 15) rfl))
theorem nfX3_18 {U : State} {args : Array Value} (h : nestOK U) : (Cond.fieldLinkNest RX3 18 RX1 "many" "I" RX5).before args U = true := va_Nw.use rfl (h.1 (RX3, 18, RX1, "many", "I") (List.mem_of_getElem? (i := 16) rfl))
theorem nfX4_43 {U : State} {args : Array Value} (h : nestOK U) : (Cond.fieldLinkNest RX4 43 RX1 "many" "I" RX5).before args U = true := va_Nw.use rfl (h.1 (RX4, 43, RX1, "many", "I") (List.mem_of_getElem? (i := 17) rfl))
theorem nfX2_49 {U : State} {args : Array Value} (h : nestOK U) : (Cond.fieldLinkNest RX2 49 RX1 "many" "I" RX5).before args U = true := va_Nw.use rfl (h.1 (RX2, 49, RX1, "many", "I") (List.mem_of_getElem? (i := 18) rfl))
theorem nfX5_82 {U : State} {args : Array Value} (h : nestOK U) : (Cond.fieldLinkNest RX5 82 RX1 "many" "I" RX5).before args U = true := va_Nw.use rfl (h.1 (RX5, 82, RX1, "many", "I") (List.mem_of_getElem? (i := 19) rfl))
theorem nfX4_38 {U : State} {args : Array Value} (h : nestOK U) : (Cond.fieldLinkNest RX4 38 RX1 "rooms" "[I" RX5).before args U = true := va_Nw.use rfl (h.1 (RX4, 38, RX1, "rooms", "[I") (List.mem_of_getElem? (i := 20) rfl))
theorem nfX2_83 {U : State} {args : Array Value} (h : nestOK U) : (Cond.fieldLinkNest RX2 83 RX1 "rooms" "[I" RX5).before args U = true := va_Nw.use rfl (h.1 (RX2, 83, RX1, "rooms", "[I") (List.mem_of_getElem? (i := 21) rfl))
theorem nfX5_91 {U : State} {args : Array Value} (h : nestOK U) : (Cond.fieldLinkNest RX5 91 RX1 "rooms" "[I" RX5).before args U = true := va_Nw.use rfl (h.1 (RX5, 91, RX1, "rooms", "[I") (List.mem_of_getElem? (i := 22) rfl))
theorem nfX5_97 {U : State} {args : Array Value} (h : nestOK U) : (Cond.fieldLinkNest RX5 97 RX1 "codes" "[I" RX5).before args U = true := va_Nw.use rfl (h.1 (RX5, 97, RX1, "codes", "[I") (List.mem_of_getElem? (i := 23) rfl))
theorem nfX0_36 {U : State} {args : Array Value} (h : nestOK U) : (Cond.fieldLinkNest RX0 36 RX1 "version" "I" RX5).before args U = true := va_Nw.use rfl (h.1 (RX0, 36, RX1, "version", "I") (List.mem_of_getElem? (i := 24) rfl))
theorem nfX5_130 {U : State} {args : Array Value} (h : nestOK U) : (Cond.fieldLinkNest RX5 130 RX2 "order" "[I" RX5).before args U = true := va_Nw.use rfl (h.1 (RX5, 130, RX2, "order", "[I") (List.mem_of_getElem? (i := 25) rfl))
theorem nfX5_119 {U : State} {args : Array Value} (h : nestOK U) : (Cond.fieldLinkNest RX5 119 RX2 "coming" "I" RX5).before args U = true := va_Nw.use rfl (h.1 (RX5, 119, RX2, "coming", "I") (List.mem_of_getElem? (i := 26) rfl))
theorem nfX5_131 {U : State} {args : Array Value} (h : nestOK U) : (Cond.fieldLinkNest RX5 131 RX2 "spilledAt" "[I" RX5).before args U = true := va_Nw.use rfl (h.1 (RX5, 131, RX2, "spilledAt", "[I") (List.mem_of_getElem? (i := 27) rfl))
theorem nfX5_134 {U : State} {args : Array Value} (h : nestOK U) : (Cond.fieldLinkNest RX5 134 RX2 "loads" "[I" RX5).before args U = true := va_Nw.use rfl (h.1 (RX5, 134, RX2, "loads", "[I") (List.mem_of_getElem? (i := 28) rfl))
theorem nfX4_80 {U : State} {args : Array Value} (h : nestOK U) : (Cond.fieldLinkNest RX4 80 RX3 "points" "[I" RX5).before args U = true := va_Nw.use rfl (h.1 (RX4, 80, RX3, "points", "[I") (List.mem_of_getElem? (i := 29) rfl))
theorem nfX4_51 {U : State} {args : Array Value} (h : nestOK U) : (Cond.fieldLinkNest RX4 51 RX3 "size" "I" RX5).before args U = true := va_Nw.use rfl (h.1 (RX4, 51, RX3, "size", "I") (List.mem_of_getElem? (i := 30) rfl))
theorem nfX0_58 {U : State} {args : Array Value} (h : nestOK U) : (Cond.fieldLinkNest RX0 58 RX3 "codes" "[I" RX5).before args U = true := va_Nw.use rfl (h.1 (RX0, 58, RX3, "codes", "[I") (List.mem_of_getElem? (i := 31) rfl))
theorem nfX4_85 {U : State} {args : Array Value} (h : nestOK U) : (Cond.fieldLinkNest RX4 85 RX3 "codes" "[I" RX5).before args U = true := va_Nw.use rfl (h.1 (RX4, 85, RX3, "codes", "[I") (List.mem_of_getElem? (i := 32) rfl))
theorem nfX5_151 {U : State} {args : Array Value} (h : nestOK U) : (Cond.fieldLinkNest RX5 151 RX0 "plans" "I" RX5).before args U = true := va_Nw.use rfl (h.1 (RX5, 151, RX0, "plans", "I") (List.mem_of_getElem? (i := 33) rfl))
theorem nfX5_154 {U : State} {args : Array Value} (h : nestOK U) : (Cond.fieldLinkNest RX5 154 RX0 "least" "I" RX5).before args U = true := va_Nw.use rfl (h.1 (RX5, 154, RX0, "least", "I") (List.mem_of_getElem? (i := 34) rfl))
theorem nfX5_157 {U : State} {args : Array Value} (h : nestOK U) : (Cond.fieldLinkNest RX5 157 RX0 "ties" "I" RX5).before args U = true := va_Nw.use rfl (h.1 (RX5, 157, RX0, "ties", "I") (List.mem_of_getElem? (i := 35) rfl))
theorem nfX5_163 {U : State} {args : Array Value} (h : nestOK U) : (Cond.fieldLinkNest RX5 163 RX0 "codes" "[I" RX5).before args U = true := va_Nw.use rfl (h.1 (RX5, 163, RX0, "codes", "[I") (List.mem_of_getElem? (i := 36) rfl))
theorem nmX5_22 {U : State} (h : nestOK U) : va_Nw (.methodLinkNest RX5 22 yX2_init RX5) U := h.2 (RX5, 22, yX2_init) (List.mem_of_getElem? (i := 0) rfl)
theorem nmX5_29 {U : State} (h : nestOK U) : va_Nw (.methodLinkNest RX5 29 yX0_init RX5) U := h.2 (RX5, 29, yX0_init) (List.mem_of_getElem? (i := 1) rfl)
theorem nmX0_11 {U : State} (h : nestOK U) : va_Nw (.methodLinkNest RX0 11 yX3_init RX5) U := h.2 (RX0, 11, yX3_init) (List.mem_of_getElem? (i := 2) rfl)
theorem nmX0_20 {U : State} (h : nestOK U) : va_Nw (.methodLinkNest RX0 20 yX2_init RX5) U := h.2 (RX0, 20, yX2_init) (List.mem_of_getElem? (i := 3) rfl)
theorem nmX5_36 {U : State} (h : nestOK U) : va_Nw (.methodLinkNest RX5 36 yX4_init RX5) U := h.2 (RX5, 36, yX4_init) (List.mem_of_getElem? (i := 4) rfl)
theorem nmX4_11 {U : State} (h : nestOK U) : va_Nw (.methodLinkNest RX4 11 yX3_init RX5) U := h.2 (RX4, 11, yX3_init) (List.mem_of_getElem? (i := 5) rfl)
theorem nmX2_67 {U : State} (h : nestOK U) : va_Nw (.methodLinkNest RX2 67 yX5_figure RX5) U := h.2 (RX2, 67, yX5_figure) (List.mem_of_getElem? (i := 6) rfl)
theorem nmX3_24 {U : State} (h : nestOK U) : va_Nw (.methodLinkNest RX3 24 yX5_power RX5) U := h.2 (RX3, 24, yX5_power) (List.mem_of_getElem? (i := 7) rfl)
theorem nmX4_88 {U : State} (h : nestOK U) : va_Nw (.methodLinkNest RX4 88 yX5_figure RX5) U := h.2 (RX4, 88, yX5_figure) (List.mem_of_getElem? (i := 8) rfl)
/-! ===== contracts over worlds ===== -/
/-- a method's start: its cells, the classes, the nest links -/
def Wd (D : va_G) (tys : List (ClassId × FieldType)) (wc : va_W) (sz : Nat) (U : State) : Prop := U.heap.size = sz ∧ va_P D vwCl wc U.heap ∧ va_K D vwCl tys U ∧ va_D (fun _ => True) wc ∧ nestOK U
/-- its end -/
def We (D : va_G) (tys : List (ClassId × FieldType)) (A : Nat → Prop) (w1 : va_W) (t : State) : Prop := va_P D vwCl w1 t.heap ∧ va_K D vwCl tys t ∧ va_D A w1
abbrev CtI {S : Type} (l : Launch) (y : MethodName) (wy : List Cond) (rm : Room) (D : va_G) (tys : List (ClassId × FieldType)) (av : List Value) (wc : va_W) (sz : Nat) (post : Int → S → Prop) (w1 : S → va_W) (mc ms : Nat) : Prop :=
  Met l y wy rm (va_Pc av (Wd D tys wc sz)) (va_Qi (fun r (u : Int × S) => r = iI u.1 ∧ post u.1 u.2) (fun u => We D tys (va_A wc sz) (w1 u.2)) (va_A wc sz)) mc ms (va_A wc sz)
abbrev CtV {S : Type} (l : Launch) (y : MethodName) (wy : List Cond) (rm : Room) (D : va_G) (tys : List (ClassId × FieldType)) (av : List Value) (wc : va_W) (sz : Nat) (post : S → Prop) (w1 : S → va_W) (mc ms : Nat) : Prop :=
  Met l y wy rm (va_Pc av (Wd D tys wc sz)) (va_Qv post (fun u => We D tys (va_A wc sz) (w1 u)) (va_A wc sz)) mc ms (va_A wc sz)
theorem Wd_blind {D : va_G} {tys : List (ClassId × FieldType)} {av : List Value} {wc : va_W} {sz : Nat} : FrameBlind (va_Pc av (Wd D tys wc sz)) := fun a U g mk q => by
  obtain ⟨q0, q1, qP, qK, qD, qN⟩ := q
  exact ⟨q0, q1, qP, va_K.moved (u := U) (U := U.calling g mk a) (Vm.Alike.refl U.vm) qK, qD, nest_same (U := U.calling g mk a) rfl qN⟩
theorem pick_at {ws w : va_W} {is : List Nat} (hs : is.map (fun i => ws[i]?) = w.map some) (k : Nat) (q : Nat × va_E) (hq : w[k]? = some q) : ∃ i, is[k]? = some i ∧ ws[i]? = some q := by
  have h1 : (is.map (fun i => ws[i]?))[k]? = some (some q) := by rw [hs, List.getElem?_map, hq]; rfl
  rw [List.getElem?_map] at h1
  cases hi : is[k]? with
  | none => rw [hi] at h1; cases h1
  | some i => rw [hi] at h1; exact ⟨i, rfl, Option.some.inj h1⟩
theorem pick_P {D : va_G} {cl : List vw_C} {ws w : va_W} {H : Heap} {is : List Nat} (hP : va_P D cl ws H) (hs : is.map (fun i => ws[i]?) = w.map some) : va_P D cl w H := fun k q hq => by
  obtain ⟨i, -, h2⟩ := pick_at hs k q hq
  exact hP i q h2
theorem pre_S {D : va_G} {tys : List (ClassId × FieldType)} {av : List Value} {ws wc : va_W} {s : State} {H : Heap} {A : Nat → Prop} (hN : nestOK s) (hK : va_K D vwCl tys s) (hP : va_P D vwCl ws H) (hD : va_D A ws) (isC : List Nat) (hC : isC.map (fun i => ws[i]?) = wc.map some) (hn : va_nd isC = true) : PreS s H (va_Pc av (Wd D tys wc H.size)) av :=
  ⟨Wd_blind, fun U hU hW => ⟨rfl, by rw [hU], by rw [hU]; exact pick_P hP hC, va_K.moved hW.alike hK, (hD.sub isC hn hC).weaken (fun _ _ _ _ => trivial), nest_warm hW hN⟩⟩
theorem pre_V {D : va_G} {tys : List (ClassId × FieldType)} {As : List Value} {ws wc : va_W} {s : State} {H : Heap} {A : Nat → Prop} {b : Nat} (hN : nestOK s) (hK : va_K D vwCl tys s) (hP : va_P D vwCl ws H) (hD : va_D A ws) (isC : List Nat) (hC : isC.map (fun i => ws[i]?) = wc.map some) (hn : va_nd isC = true) (q0 : Nat) {ci : Nat} {q : vw_C} {fs : List Value} (hc : vwCl[ci]? = some q) (he : ws[q0]? = some (b, .inr (ci, fs))) : PreV s H q.1 b (va_Pc (.ref b :: As) (Wd D tys wc H.size)) As :=
  ⟨Wd_blind, va_recv hK hP hc he, (pre_S hN hK hP hD isC hC hn).2⟩
section CW
variable {p : Program} {l : Launch} {e : Env} {R : Room} {s : State} {m : MethodId} {args : Array Value} {below : List Frame} {meth : Method} {c : Code} {H : Heap} {locs : List Loc} {cells slots : Nat} {Q : State → Prop}
variable {pc : Nat} {ls : Array Slot} {rest st0 : List Value} {a : Array Value} {A : Nat → Prop} {H0 : Heap} {mc ms : Nat} {D : va_G} {tys : List (ClassId × FieldType)} {ws wc wr : va_W}
theorem k_i {S : Type} {post : Int → S → Prop} {w1 : S → va_W} (hr : va_Run p l e R s m args below meth c H locs cells slots mc ms (F0 m pc ls st0) rest (va_Qi (fun r (u : Int × S) => r = iI u.1 ∧ post u.1 u.2) (fun u => We D tys (va_A wc H.size) (w1 u.2)) (va_A wc H.size) a) (va_A wc H.size)) (hP : va_P D vwCl ws H) (hD : va_D A ws) (hS : va_S A H0 H locs) (hA : ∀ q, H0.size ≤ q → A q) (isC isR : List Nat) (hC : isC.map (fun i => ws[i]?) = wc.map some) (hR : isR.map (fun i => ws[i]?) = wr.map some) (hn : va_nd isR = true) (hdis : ∀ i ∈ isR, i ∉ isC)
    (kk : ∀ (r : Int) (u : S) (H1 : Heap) (locs1 : List Loc), post r u → va_P D vwCl (wr ++ w1 u) H1 → va_D A (wr ++ w1 u) → va_S A H0 H1 locs1 → W p l e R s m args below meth c H1 locs1 (cells + mc) (slots + ms) Q (F0 m (pc + 3) ls (.int (iI r) :: rest))) : W p l e R s m args below meth c H locs cells slots Q (F0 m pc ls st0) := by
  have hF := va_free (wc := wc) hD hS hA isC hC
  refine va_calli hr hS (fun q _ h => hF q h) hF fun r u t H1 locs1 ht hvm hw hB hz hk hS1 => ?_
  obtain ⟨hr1, hw⟩ := hw
  obtain ⟨hP1, hK1, hD1⟩ := hB
  rw [ht] at hP1
  obtain ⟨hP2, hD2⟩ := va_join (wr := wr) (w1 := w1 u.2) hP hD isC isR hC hR hn hdis hk hF hP1 hD1
  rw [hr1]
  exact kk u.1 u.2 H1 locs1 hw hP2 hD2 hS1
theorem k_v {S : Type} {post : S → Prop} {w1 : S → va_W} (hr : va_Run p l e R s m args below meth c H locs cells slots mc ms (F0 m pc ls st0) rest (va_Qv post (fun u => We D tys (va_A wc H.size) (w1 u)) (va_A wc H.size) a) (va_A wc H.size)) (hP : va_P D vwCl ws H) (hD : va_D A ws) (hS : va_S A H0 H locs) (hA : ∀ q, H0.size ≤ q → A q) (isC isR : List Nat) (hC : isC.map (fun i => ws[i]?) = wc.map some) (hR : isR.map (fun i => ws[i]?) = wr.map some) (hn : va_nd isR = true) (hdis : ∀ i ∈ isR, i ∉ isC)
    (kk : ∀ (u : S) (H1 : Heap) (locs1 : List Loc), post u → va_P D vwCl (wr ++ w1 u) H1 → va_D A (wr ++ w1 u) → va_S A H0 H1 locs1 → W p l e R s m args below meth c H1 locs1 (cells + mc) (slots + ms) Q (F0 m (pc + 3) ls rest)) : W p l e R s m args below meth c H locs cells slots Q (F0 m pc ls st0) := by
  have hF := va_free (wc := wc) hD hS hA isC hC
  refine va_callv hr hS (fun q _ h => hF q h) hF fun u t H1 locs1 ht hvm hw hB hz hk hS1 => ?_
  obtain ⟨hP1, hK1, hD1⟩ := hB
  rw [ht] at hP1
  obtain ⟨hP2, hD2⟩ := va_join (wr := wr) (w1 := w1 u) hP hD isC isR hC hR hn hdis hk hF hP1 hD1
  exact kk u H1 locs1 hw hP2 hD2 hS1
/-- the end of a method that answers an int -/
theorem e_i {cc : ByteArray} {S : Type} {post : Int → S → Prop} {w1 : S → va_W} {A1 : Nat → Prop} (hx : p.tables.exec = Jvm.exec) (hb : c.code = cc) (hr : meth.sig.returnType = some .int) (hlk : meth.locks = false) (hK : va_K D vwCl tys s) (hP : va_P D vwCl ws H) (hD : va_D A ws) (hS : va_S A s.heap H locs) (is : List Nat) (hn : va_nd is = true) {v : Int} (u : S) (hs : is.map (fun i => ws[i]?) = (w1 u).map some) (hp : post v u) (hdg : decode cc pc = .ok (.ireturn, 1)) (hAA : A = A1) : W p l e R s m args below meth c H locs cells slots (MQ below (va_Qi (fun r (u : Int × S) => r = iI u.1 ∧ post u.1 u.2) (fun u => We D tys A1 (w1 u.2)) A1) args s cells slots A1) (F0 m pc ls [.int (iI v)]) := by
  subst hAA
  exact W.iret hx hb hr (fun t ht hW => ⟨⟨iI v, (v, u), rfl, ⟨rfl, hp⟩, by rw [ht]; exact pick_P hP hs, va_K.moved hW.alike hK, hD.sub is hn hs⟩, hS.F ht⟩) hS.2.2 hdg hlk
theorem e_z {cc : ByteArray} {S : Type} {post : Int → S → Prop} {w1 : S → va_W} {A1 : Nat → Prop} (hx : p.tables.exec = Jvm.exec) (hb : c.code = cc) (hr : meth.sig.returnType = some .boolean) (hlk : meth.locks = false) (hK : va_K D vwCl tys s) (hP : va_P D vwCl ws H) (hD : va_D A ws) (hS : va_S A s.heap H locs) (is : List Nat) (hn : va_nd is = true) {v : Int} (hv : v = 0 ∨ v = 1) (u : S) (hs : is.map (fun i => ws[i]?) = (w1 u).map some) (hp : post v u) (hdg : decode cc pc = .ok (.ireturn, 1)) (hAA : A = A1) : W p l e R s m args below meth c H locs cells slots (MQ below (va_Qi (fun r (u : Int × S) => r = iI u.1 ∧ post u.1 u.2) (fun u => We D tys A1 (w1 u.2)) A1) args s cells slots A1) (F0 m pc ls [.int (iI v)]) := by
  subst hAA
  exact W.zret hx hb hr (by rcases hv with rfl | rfl <;> decide) (fun t ht hW => ⟨⟨iI v, (v, u), rfl, ⟨rfl, hp⟩, by rw [ht]; exact pick_P hP hs, va_K.moved hW.alike hK, hD.sub is hn hs⟩, hS.F ht⟩) hS.2.2 hdg hlk
theorem e_v {cc : ByteArray} {S : Type} {post : S → Prop} {w1 : S → va_W} {A1 : Nat → Prop} (hx : p.tables.exec = Jvm.exec) (hb : c.code = cc) (hr : meth.sig.returnType = none) (hlk : meth.locks = false) (hK : va_K D vwCl tys s) (hP : va_P D vwCl ws H) (hD : va_D A ws) (hS : va_S A s.heap H locs) (is : List Nat) (hn : va_nd is = true) (u : S) (hs : is.map (fun i => ws[i]?) = (w1 u).map some) (hp : post u) (hdg : decode cc pc = .ok (.return_, 1)) (hAA : A = A1) : W p l e R s m args below meth c H locs cells slots (MQ below (va_Qv post (fun u => We D tys A1 (w1 u)) A1) args s cells slots A1) (F0 m pc ls []) := by
  subst hAA
  exact W.vret hx hb hr (fun t ht hW => ⟨⟨u, rfl, hp, by rw [ht]; exact pick_P hP hs, va_K.moved hW.alike hK, hD.sub is hn hs⟩, hS.F ht⟩) hS.2.2 hdg hlk
end CW

section CX
variable {p : Program} {l : Launch} {e : Env} {R : Room} {s : State} {m : MethodId} {args : Array Value} {below : List Frame} {meth : Method} {c : Code} {H : Heap} {locs : List Loc} {cells slots : Nat} {Q : State → Prop}
variable {pc : Nat} {ls : Array Slot} {rest st0 : List Value} {A : Nat → Prop} {H0 : Heap} {mc ms : Nat} {D : va_G} {tys : List (ClassId × FieldType)} {ws wc wr : va_W} {y : MethodName} {bytes cc : ByteArray} {maxL nL n index : Nat} {ret : Option FieldType} {wy Ts : List Cond} {rm : Room} {own host : String} {b : Nat} {As : List Value}
theorem kV_i {S : Type} {post : Int → S → Prop} {w1 : S → va_W} (Sx : CallFix p m c cc nL s args Ts own) (hM : CtI l y wy rm D tys (.ref b :: As) wc H.size post w1 mc ms) {ci : Nat} (q0 : Nat) {q : vw_C} {fs : List Value} (hc : vwCl[ci]? = some q) (he : ws[q0]? = some (b, .inr (ci, fs))) (cw : CallW R s args own q.1 index y bytes maxL ret wy rm mc ms n) (hN : nestOK s) (hK : va_K D vwCl tys s) (hP : va_P D vwCl ws H) (hD : va_D A ws) (hS : va_S A H0 H locs) (hA : ∀ q, H0.size ≤ q → A q) (isC isR : List Nat) (hC : isC.map (fun i => ws[i]?) = wc.map some) (hR : isR.map (fun i => ws[i]?) = wr.map some) (hnC : va_nd isC = true) (hn : va_nd isR = true) (hdis : ∀ i ∈ isR, i ∉ isC) (hnn : As.length = n) (hsize : ls.size = nL) (hstack : st0 = As.reverse ++ .ref b :: rest) (hW : (rest.map fun v => v.category).sum ≤ 8) (hdg : decode cc pc = .ok (.invokevirtual index, 3)) (hf : cells + mc ≤ R.cells ∧ slots + ms ≤ R.slots) (kk : ∀ (r : Int) (u : S) (H1 : Heap) (locs1 : List Loc), post r u → va_P D vwCl (wr ++ w1 u) H1 → va_D A (wr ++ w1 u) → va_S A H0 H1 locs1 → W p l e R s m args below meth c H1 locs1 (cells + mc) (slots + ms) Q (F0 m (pc + 3) ls (.int (iI r) :: rest))) : W p l e R s m args below meth c H locs cells slots Q (F0 m pc ls st0) := by
  subst hstack
  exact k_i (S := S) (post := post) (w1 := w1) (va_runV Sx hM cw (pre_V hN hK hP hD isC hC hnC q0 hc he) rfl hnn hsize rfl (lv_room hW) hdg hf) hP hD hS hA isC isR hC hR hn hdis kk
theorem kV_v {S : Type} {post : S → Prop} {w1 : S → va_W} (Sx : CallFix p m c cc nL s args Ts own) (hM : CtV l y wy rm D tys (.ref b :: As) wc H.size post w1 mc ms) {ci : Nat} (q0 : Nat) {q : vw_C} {fs : List Value} (hc : vwCl[ci]? = some q) (he : ws[q0]? = some (b, .inr (ci, fs))) (cw : CallW R s args own q.1 index y bytes maxL ret wy rm mc ms n) (hN : nestOK s) (hK : va_K D vwCl tys s) (hP : va_P D vwCl ws H) (hD : va_D A ws) (hS : va_S A H0 H locs) (hA : ∀ q, H0.size ≤ q → A q) (isC isR : List Nat) (hC : isC.map (fun i => ws[i]?) = wc.map some) (hR : isR.map (fun i => ws[i]?) = wr.map some) (hnC : va_nd isC = true) (hn : va_nd isR = true) (hdis : ∀ i ∈ isR, i ∉ isC) (hnn : As.length = n) (hsize : ls.size = nL) (hstack : st0 = As.reverse ++ .ref b :: rest) (hW : (rest.map fun v => v.category).sum ≤ 8) (hdg : decode cc pc = .ok (.invokevirtual index, 3)) (hf : cells + mc ≤ R.cells ∧ slots + ms ≤ R.slots) (kk : ∀ (u : S) (H1 : Heap) (locs1 : List Loc), post u → va_P D vwCl (wr ++ w1 u) H1 → va_D A (wr ++ w1 u) → va_S A H0 H1 locs1 → W p l e R s m args below meth c H1 locs1 (cells + mc) (slots + ms) Q (F0 m (pc + 3) ls rest)) : W p l e R s m args below meth c H locs cells slots Q (F0 m pc ls st0) := by
  subst hstack
  exact k_v (S := S) (post := post) (w1 := w1) (va_runV Sx hM cw (pre_V hN hK hP hD isC hC hnC q0 hc he) rfl hnn hsize rfl (lv_room hW) hdg hf) hP hD hS hA isC isR hC hR hn hdis kk
theorem kS_i {S : Type} {post : Int → S → Prop} {w1 : S → va_W} (Sx : CallFix p m c cc nL s args Ts own) (hM : CtI l y wy rm D tys (As) wc H.size post w1 mc ms) (cw : CallB R s args own index y bytes maxL ret wy rm mc ms n ∧ (Cond.static y).before args s = true) (hN : nestOK s) (hK : va_K D vwCl tys s) (hP : va_P D vwCl ws H) (hD : va_D A ws) (hS : va_S A H0 H locs) (hA : ∀ q, H0.size ≤ q → A q) (isC isR : List Nat) (hC : isC.map (fun i => ws[i]?) = wc.map some) (hR : isR.map (fun i => ws[i]?) = wr.map some) (hnC : va_nd isC = true) (hn : va_nd isR = true) (hdis : ∀ i ∈ isR, i ∉ isC) (hnn : As.length = n) (hsize : ls.size = nL) (hstack : st0 = As.reverse ++ rest) (hW : (rest.map fun v => v.category).sum ≤ 8) (hdg : decode cc pc = .ok (.invokestatic index, 3)) (hf : cells + mc ≤ R.cells ∧ slots + ms ≤ R.slots) (kk : ∀ (r : Int) (u : S) (H1 : Heap) (locs1 : List Loc), post r u → va_P D vwCl (wr ++ w1 u) H1 → va_D A (wr ++ w1 u) → va_S A H0 H1 locs1 → W p l e R s m args below meth c H1 locs1 (cells + mc) (slots + ms) Q (F0 m (pc + 3) ls (.int (iI r) :: rest))) : W p l e R s m args below meth c H locs cells slots Q (F0 m pc ls st0) := by
  subst hstack
  exact k_i (S := S) (post := post) (w1 := w1) (va_runS Sx hM cw (pre_S hN hK hP hD isC hC hnC) rfl hnn hsize rfl (lv_room hW) hdg hf) hP hD hS hA isC isR hC hR hn hdis kk
theorem kS_v {S : Type} {post : S → Prop} {w1 : S → va_W} (Sx : CallFix p m c cc nL s args Ts own) (hM : CtV l y wy rm D tys (As) wc H.size post w1 mc ms) (cw : CallB R s args own index y bytes maxL ret wy rm mc ms n ∧ (Cond.static y).before args s = true) (hN : nestOK s) (hK : va_K D vwCl tys s) (hP : va_P D vwCl ws H) (hD : va_D A ws) (hS : va_S A H0 H locs) (hA : ∀ q, H0.size ≤ q → A q) (isC isR : List Nat) (hC : isC.map (fun i => ws[i]?) = wc.map some) (hR : isR.map (fun i => ws[i]?) = wr.map some) (hnC : va_nd isC = true) (hn : va_nd isR = true) (hdis : ∀ i ∈ isR, i ∉ isC) (hnn : As.length = n) (hsize : ls.size = nL) (hstack : st0 = As.reverse ++ rest) (hW : (rest.map fun v => v.category).sum ≤ 8) (hdg : decode cc pc = .ok (.invokestatic index, 3)) (hf : cells + mc ≤ R.cells ∧ slots + ms ≤ R.slots) (kk : ∀ (u : S) (H1 : Heap) (locs1 : List Loc), post u → va_P D vwCl (wr ++ w1 u) H1 → va_D A (wr ++ w1 u) → va_S A H0 H1 locs1 → W p l e R s m args below meth c H1 locs1 (cells + mc) (slots + ms) Q (F0 m (pc + 3) ls rest)) : W p l e R s m args below meth c H locs cells slots Q (F0 m pc ls st0) := by
  subst hstack
  exact k_v (S := S) (post := post) (w1 := w1) (va_runS Sx hM cw (pre_S hN hK hP hD isC hC hnC) rfl hnn hsize rfl (lv_room hW) hdg hf) hP hD hS hA isC isR hC hR hn hdis kk
theorem kSN_i {S : Type} {post : Int → S → Prop} {w1 : S → va_W} (Sx : CallFix p m c cc nL s args Ts own) (hM : CtI l y wy rm D tys (As) wc H.size post w1 mc ms) (cw : va_CN R s args own index y host bytes maxL ret wy rm mc ms n ∧ (Cond.static y).before args s = true ∧ True) (hN : nestOK s) (hK : va_K D vwCl tys s) (hP : va_P D vwCl ws H) (hD : va_D A ws) (hS : va_S A H0 H locs) (hA : ∀ q, H0.size ≤ q → A q) (isC isR : List Nat) (hC : isC.map (fun i => ws[i]?) = wc.map some) (hR : isR.map (fun i => ws[i]?) = wr.map some) (hnC : va_nd isC = true) (hn : va_nd isR = true) (hdis : ∀ i ∈ isR, i ∉ isC) (hnn : As.length = n) (hsize : ls.size = nL) (hstack : st0 = As.reverse ++ rest) (hW : (rest.map fun v => v.category).sum ≤ 8) (hdg : decode cc pc = .ok (.invokestatic index, 3)) (hf : cells + mc ≤ R.cells ∧ slots + ms ≤ R.slots) (kk : ∀ (r : Int) (u : S) (H1 : Heap) (locs1 : List Loc), post r u → va_P D vwCl (wr ++ w1 u) H1 → va_D A (wr ++ w1 u) → va_S A H0 H1 locs1 → W p l e R s m args below meth c H1 locs1 (cells + mc) (slots + ms) Q (F0 m (pc + 3) ls (.int (iI r) :: rest))) : W p l e R s m args below meth c H locs cells slots Q (F0 m pc ls st0) := by
  subst hstack
  exact k_i (S := S) (post := post) (w1 := w1) (va_runSN Sx hM cw (pre_S hN hK hP hD isC hC hnC) rfl hnn hsize rfl (lv_room hW) hdg hf) hP hD hS hA isC isR hC hR hn hdis kk
theorem kSN_v {S : Type} {post : S → Prop} {w1 : S → va_W} (Sx : CallFix p m c cc nL s args Ts own) (hM : CtV l y wy rm D tys (As) wc H.size post w1 mc ms) (cw : va_CN R s args own index y host bytes maxL ret wy rm mc ms n ∧ (Cond.static y).before args s = true ∧ True) (hN : nestOK s) (hK : va_K D vwCl tys s) (hP : va_P D vwCl ws H) (hD : va_D A ws) (hS : va_S A H0 H locs) (hA : ∀ q, H0.size ≤ q → A q) (isC isR : List Nat) (hC : isC.map (fun i => ws[i]?) = wc.map some) (hR : isR.map (fun i => ws[i]?) = wr.map some) (hnC : va_nd isC = true) (hn : va_nd isR = true) (hdis : ∀ i ∈ isR, i ∉ isC) (hnn : As.length = n) (hsize : ls.size = nL) (hstack : st0 = As.reverse ++ rest) (hW : (rest.map fun v => v.category).sum ≤ 8) (hdg : decode cc pc = .ok (.invokestatic index, 3)) (hf : cells + mc ≤ R.cells ∧ slots + ms ≤ R.slots) (kk : ∀ (u : S) (H1 : Heap) (locs1 : List Loc), post u → va_P D vwCl (wr ++ w1 u) H1 → va_D A (wr ++ w1 u) → va_S A H0 H1 locs1 → W p l e R s m args below meth c H1 locs1 (cells + mc) (slots + ms) Q (F0 m (pc + 3) ls rest)) : W p l e R s m args below meth c H locs cells slots Q (F0 m pc ls st0) := by
  subst hstack
  exact k_v (S := S) (post := post) (w1 := w1) (va_runSN Sx hM cw (pre_S hN hK hP hD isC hC hnC) rfl hnn hsize rfl (lv_room hW) hdg hf) hP hD hS hA isC isR hC hR hn hdis kk
theorem kI_v {S : Type} {post : S → Prop} {w1 : S → va_W} (Sx : CallFix p m c cc nL s args Ts own) (hM : CtV l y wy rm D tys (.ref b :: As) wc H.size post w1 mc ms) (cw : CallB R s args own index y bytes maxL none wy rm mc ms n ∧ y.name = "<init>" ∧ (Cond.instanceMethod y).before args s = true) (hN : nestOK s) (hK : va_K D vwCl tys s) (hP : va_P D vwCl ws H) (hD : va_D A ws) (hS : va_S A H0 H locs) (hA : ∀ q, H0.size ≤ q → A q) (isC isR : List Nat) (hC : isC.map (fun i => ws[i]?) = wc.map some) (hR : isR.map (fun i => ws[i]?) = wr.map some) (hnC : va_nd isC = true) (hn : va_nd isR = true) (hdis : ∀ i ∈ isR, i ∉ isC) (hnn : As.length = n) (hsize : ls.size = nL) (hstack : st0 = As.reverse ++ .ref b :: rest) (hW : (rest.map fun v => v.category).sum ≤ 8) (hdg : decode cc pc = .ok (.invokespecial index, 3)) (hf : cells + mc ≤ R.cells ∧ slots + ms ≤ R.slots) (kk : ∀ (u : S) (H1 : Heap) (locs1 : List Loc), post u → va_P D vwCl (wr ++ w1 u) H1 → va_D A (wr ++ w1 u) → va_S A H0 H1 locs1 → W p l e R s m args below meth c H1 locs1 (cells + mc) (slots + ms) Q (F0 m (pc + 3) ls rest)) : W p l e R s m args below meth c H locs cells slots Q (F0 m pc ls st0) := by
  subst hstack
  exact k_v (S := S) (post := post) (w1 := w1) (va_runI Sx hM cw (pre_S (av := .ref b :: As) hN hK hP hD isC hC hnC) rfl hnn hsize rfl (lv_room hW) hdg hf) hP hD hS hA isC isR hC hR hn hdis kk
theorem kIN_v {S : Type} {post : S → Prop} {w1 : S → va_W} (Sx : CallFix p m c cc nL s args Ts own) (hM : CtV l y wy rm D tys (.ref b :: As) wc H.size post w1 mc ms) (cw : va_CN R s args own index y host bytes maxL none wy rm mc ms n ∧ y.name = "<init>" ∧ (Cond.instanceMethod y).before args s = true) (hN : nestOK s) (hK : va_K D vwCl tys s) (hP : va_P D vwCl ws H) (hD : va_D A ws) (hS : va_S A H0 H locs) (hA : ∀ q, H0.size ≤ q → A q) (isC isR : List Nat) (hC : isC.map (fun i => ws[i]?) = wc.map some) (hR : isR.map (fun i => ws[i]?) = wr.map some) (hnC : va_nd isC = true) (hn : va_nd isR = true) (hdis : ∀ i ∈ isR, i ∉ isC) (hnn : As.length = n) (hsize : ls.size = nL) (hstack : st0 = As.reverse ++ .ref b :: rest) (hW : (rest.map fun v => v.category).sum ≤ 8) (hdg : decode cc pc = .ok (.invokespecial index, 3)) (hf : cells + mc ≤ R.cells ∧ slots + ms ≤ R.slots) (kk : ∀ (u : S) (H1 : Heap) (locs1 : List Loc), post u → va_P D vwCl (wr ++ w1 u) H1 → va_D A (wr ++ w1 u) → va_S A H0 H1 locs1 → W p l e R s m args below meth c H1 locs1 (cells + mc) (slots + ms) Q (F0 m (pc + 3) ls rest)) : W p l e R s m args below meth c H locs cells slots Q (F0 m pc ls st0) := by
  subst hstack
  exact k_v (S := S) (post := post) (w1 := w1) (va_runIN Sx hM cw (pre_S (av := .ref b :: As) hN hK hP hD isC hC hnC) rfl hnn hsize rfl (lv_room hW) hdg hf) hP hD hS hA isC isR hC hR hn hdis kk
end CX
end
section
/-! ===== array classes, objects, the frame of a contract ===== -/
abbrev tyL (cy : Nat → ClassId) : List (ClassId × FieldType) := [(cy 0, .int), (cy 1, .boolean), (cy 2, .object RX1), (cy 3, .array .int)]
abbrev oD (d : Nat → Nat) (lt mn vs : Int) : Nat × va_E := (d 0, .inr (1, [.int (iI lt), .ref (d 1), .ref (d 2), .ref (d 3), .ref (d 4), .ref (d 5), .int (iI mn), .ref (d 6), .ref (d 7), .int (iI vs)]))
abbrev oP (p : Nat → Nat) (cm : Int) : Nat × va_E := (p 0, .inr (2, [.ref (p 1), .int (iI cm), .ref (p 2), .ref (p 3), .ref (p 4), .ref (p 9), .ref (p 10)]))
abbrev oF (f : Nat → Nat) (sz be : Int) : Nat × va_E := (f 0, .inr (3, [.ref (f 1), .int (iI sz), .int (iI be), .ref (f 2)]))
abbrev oB (b f p : Nat → Nat) (kp kv pn le ti : Int) : Nat × va_E := (b 0, .inr (0, [.ref (f 0), .ref (p 0), .int (iI kp), .int (iI kv), .int (iI pn), .int (iI le), .int (iI ti), .ref (b 1)]))
abbrev oW (w f : Nat → Nat) : Nat × va_E := (w 0, .inr (4, [.ref (f 0), .ref (w 1), .ref (w 2), .ref (w 6)]))
abbrev oX (x d p b w : Nat → Nat) (ki : Int) : Nat × va_E := (x 0, .inr (5, [.ref (d 0), .ref (x 1), .int (iI ki), .ref (p 0), .ref (b 0), .ref (w 0)]))
abbrev oM (m : Nat → Nat) (rn sn co bp ag pn : Int) : Nat × va_E := (m 0, .inr (6, [.ref (m 1), .ref (m 2), .ref (m 3), .ref (m 4), .int (iI rn), .ref (m 5), .int (iI sn), .ref (m 6), .ref (m 7), .ref (m 8), .ref (m 9), .int (iI co), .int (iI bp), .int (iI ag), .int (iI pn), .ref (m 10)]))
theorem ct_i {S : Type} {l : Launch} {y : MethodName} {wy ws' : List Cond} {rm : Room} {D : va_G} {tys : List (ClassId × FieldType)} {av : List Value} {wc : va_W} {sz : Nat} {post : Int → S → Prop} {w1 : S → va_W} {mc ms : Nat} {cc : ByteArray} {maxL : Nat} (hy : plainName y.cls = true) (hw : wy = Cond.code y cc maxL (some .int) :: ws') (hlen : (lg_sl av).length ≤ maxL)
    (body : ∀ (p : Program) (e : Env) (s : State) (m : MethodId) (args : Array Value) (below : List Frame) (meth : Method) (c : Code) (A : Nat → Prop) (Q : State → Prop) (H : Heap) (locs : List Loc) (ls : Array Slot), p.tables.exec = Jvm.exec → c.code = cc → c.maxLocals = maxL → s.vm.findClass y.cls = some m.cls → meth.name = y.name → (∀ w ∈ wy, w.before args s = true) → va_K D vwCl tys s → nestOK s → va_P D vwCl wc H → va_D A wc → va_S A s.heap H locs → (∀ q, s.heap.size ≤ q → A q) → lv_has ls maxL (lv_args 0 av) →
      (∀ {H : Heap} {locs : List Loc} {ws : va_W} {pc : Nat} {ls : Array Slot} {v : Int} (is : List Nat) (u : S), decode cc pc = .ok (.ireturn, 1) → va_P D vwCl ws H → va_D A ws → va_S A s.heap H locs → va_nd is = true → is.map (fun i => ws[i]?) = (w1 u).map some → post v u → W p l e rm s m args below meth c H locs mc ms Q (F0 m pc ls [.int (iI v)])) →
      W p l e rm s m args below meth c H locs 0 0 Q (F0 m 0 ls [])) : CtI l y wy rm D tys av wc sz post w1 mc ms := by
  refine Met.ofW (cc := cc) (maxL := maxL) (ret := some .int) hy hw ?_
  intro p e s m args below meth c s₁ B hml hv
  obtain ⟨rfl, hsz, hP, hK, hD0, hN⟩ := hv
  subst hsz
  rw [lg_entry_eq]
  exact body p e s m _ below meth c (va_A wc s.heap.size) _ s.heap [] _ B.exec B.bytes hml (findClass_of_methodNamed B.named) (name_of_methodNamed B.named B.method).1 (atoms_spec (ws := wy) B.pre) hK hN hP hD0.self va_S.rf (fun q h => Or.inr h) (lv_entry av hlen) (fun is u hd hP hD hS hn hs hp => e_i B.exec B.bytes B.returns B.notSynchronized hK hP hD hS is hn u hs hp hd rfl)
theorem ct_z {S : Type} {l : Launch} {y : MethodName} {wy ws' : List Cond} {rm : Room} {D : va_G} {tys : List (ClassId × FieldType)} {av : List Value} {wc : va_W} {sz : Nat} {post : Int → S → Prop} {w1 : S → va_W} {mc ms : Nat} {cc : ByteArray} {maxL : Nat} (hy : plainName y.cls = true) (hw : wy = Cond.code y cc maxL (some .boolean) :: ws') (hlen : (lg_sl av).length ≤ maxL)
    (body : ∀ (p : Program) (e : Env) (s : State) (m : MethodId) (args : Array Value) (below : List Frame) (meth : Method) (c : Code) (A : Nat → Prop) (Q : State → Prop) (H : Heap) (locs : List Loc) (ls : Array Slot), p.tables.exec = Jvm.exec → c.code = cc → c.maxLocals = maxL → s.vm.findClass y.cls = some m.cls → meth.name = y.name → (∀ w ∈ wy, w.before args s = true) → va_K D vwCl tys s → nestOK s → va_P D vwCl wc H → va_D A wc → va_S A s.heap H locs → (∀ q, s.heap.size ≤ q → A q) → lv_has ls maxL (lv_args 0 av) →
      (∀ {H : Heap} {locs : List Loc} {ws : va_W} {pc : Nat} {ls : Array Slot} {v : Int} (is : List Nat) (u : S), decode cc pc = .ok (.ireturn, 1) → va_P D vwCl ws H → va_D A ws → va_S A s.heap H locs → va_nd is = true → is.map (fun i => ws[i]?) = (w1 u).map some → (v = 0 ∨ v = 1) → post v u → W p l e rm s m args below meth c H locs mc ms Q (F0 m pc ls [.int (iI v)])) →
      W p l e rm s m args below meth c H locs 0 0 Q (F0 m 0 ls [])) : CtI l y wy rm D tys av wc sz post w1 mc ms := by
  refine Met.ofW (cc := cc) (maxL := maxL) (ret := some .boolean) hy hw ?_
  intro p e s m args below meth c s₁ B hml hv
  obtain ⟨rfl, hsz, hP, hK, hD0, hN⟩ := hv
  subst hsz
  rw [lg_entry_eq]
  exact body p e s m _ below meth c (va_A wc s.heap.size) _ s.heap [] _ B.exec B.bytes hml (findClass_of_methodNamed B.named) (name_of_methodNamed B.named B.method).1 (atoms_spec (ws := wy) B.pre) hK hN hP hD0.self va_S.rf (fun q h => Or.inr h) (lv_entry av hlen) (fun is u hd hP hD hS hn hs hv hp => e_z B.exec B.bytes B.returns B.notSynchronized hK hP hD hS is hn hv u hs hp hd rfl)
theorem ct_v {S : Type} {l : Launch} {y : MethodName} {wy ws' : List Cond} {rm : Room} {D : va_G} {tys : List (ClassId × FieldType)} {av : List Value} {wc : va_W} {sz : Nat} {post : S → Prop} {w1 : S → va_W} {mc ms : Nat} {cc : ByteArray} {maxL : Nat} (hy : plainName y.cls = true) (hw : wy = Cond.code y cc maxL none :: ws') (hlen : (lg_sl av).length ≤ maxL)
    (body : ∀ (p : Program) (e : Env) (s : State) (m : MethodId) (args : Array Value) (below : List Frame) (meth : Method) (c : Code) (A : Nat → Prop) (Q : State → Prop) (H : Heap) (locs : List Loc) (ls : Array Slot), p.tables.exec = Jvm.exec → c.code = cc → c.maxLocals = maxL → s.vm.findClass y.cls = some m.cls → meth.name = y.name → (∀ w ∈ wy, w.before args s = true) → va_K D vwCl tys s → nestOK s → va_P D vwCl wc H → va_D A wc → va_S A s.heap H locs → (∀ q, s.heap.size ≤ q → A q) → lv_has ls maxL (lv_args 0 av) →
      (∀ {H : Heap} {locs : List Loc} {ws : va_W} {pc : Nat} {ls : Array Slot} (is : List Nat) (u : S), decode cc pc = .ok (.return_, 1) → va_P D vwCl ws H → va_D A ws → va_S A s.heap H locs → va_nd is = true → is.map (fun i => ws[i]?) = (w1 u).map some → post u → W p l e rm s m args below meth c H locs mc ms Q (F0 m pc ls [])) →
      W p l e rm s m args below meth c H locs 0 0 Q (F0 m 0 ls [])) : CtV l y wy rm D tys av wc sz post w1 mc ms := by
  refine Met.ofW (cc := cc) (maxL := maxL) (ret := none) hy hw ?_
  intro p e s m args below meth c s₁ B hml hv
  obtain ⟨rfl, hsz, hP, hK, hD0, hN⟩ := hv
  subst hsz
  rw [lg_entry_eq]
  exact body p e s m _ below meth c (va_A wc s.heap.size) _ s.heap [] _ B.exec B.bytes hml (findClass_of_methodNamed B.named) (name_of_methodNamed B.named B.method).1 (atoms_spec (ws := wy) B.pre) hK hN hP hD0.self va_S.rf (fun q h => Or.inr h) (lv_entry av hlen) (fun is u hd hP hD hS hn hs hp => e_v B.exec B.bytes B.returns B.notSynchronized hK hP hD hS is hn u hs hp hd rfl)
/-! more rows -/
def zand (a b : Int) : Int := (iI a &&& iI b).toInt
def zor (a b : Int) : Int := (iI a ||| iI b).toInt
def zxor (a b : Int) : Int := (iI a ^^^ iI b).toInt
def zshl (a b : Int) : Int := (iI a <<< (iI b &&& 31)).toInt
def zshr (a b : Int) : Int := (iI a >>> (iI b &&& 31)).toInt
def cpy (F G : Int → Int) (sp dp n : Int) : Int → Int := fun j => if dp ≤ j ∧ j < dp + n then F (sp + (j - dp)) else G j
theorem iI_natC (n : Nat) : Int32.ofNat n = iI (n : Int) := by
  apply Int32.toInt_inj.1
  show (Int32.ofNat n).toInt = (Int32.ofInt (n : Int)).toInt
  first | rfl | simp
theorem cI_cpy {F G : Int → Int} {sp dp n : Int} (h1 : 0 ≤ sp) (h2 : 0 ≤ dp) (h3 : 0 ≤ n) (k1 : sp ≤ 2147483647) (k2 : dp ≤ 2147483647) (k3 : n ≤ 2147483647) : va_cpy (cI F) (cI G) (iI sp).toNatClampNeg (iI dp).toNatClampNeg (iI n).toNatClampNeg = cI (cpy F G sp dp n) := by
  funext j
  rw [iI_nat ⟨by omega, k1⟩, iI_nat ⟨by omega, k2⟩, iI_nat ⟨by omega, k3⟩]
  show (if dp.toNat ≤ j ∧ j < dp.toNat + n.toNat then iI (F ((sp.toNat + (j - dp.toNat) : Nat) : Int)) else iI (G j)) = iI (if dp ≤ (j : Int) ∧ (j : Int) < dp + n then F (sp + (j - dp)) else G j)
  by_cases e : dp ≤ (j : Int) ∧ (j : Int) < dp + n
  · rw [if_pos e, if_pos (by omega), show ((sp.toNat + (j - dp.toNat) : Nat) : Int) = sp + (j - dp) by omega]
  · rw [if_neg e, if_neg (by omega)]
section RW2
variable {p : Program} {l : Launch} {e : Env} {R : Room} {s : State} {m : MethodId} {args : Array Value} {below : List Frame} {meth : Method} {c : Code} {H : Heap} {locs : List Loc} {cells slots : Nat} {Q : State → Prop}
variable {cc : ByteArray} {pc : Nat} {ls : Array Slot} {rest : List Value}
theorem r_and (hx : p.tables.exec = Jvm.exec) (hb : c.code = cc) {a b : Int} (hdg : decode cc pc = .ok (.iand, 1)) (k : W p l e R s m args below meth c H locs cells slots Q (F0 m (pc + 1) ls (.int (iI (zand a b)) :: rest))) : W p l e R s m args below meth c H locs cells slots Q (F0 m pc ls (.int (iI b) :: .int (iI a) :: rest)) := lv_iand hx hb hdg (by rw [iI_of (iI a &&& iI b)]; exact k)
theorem r_or (hx : p.tables.exec = Jvm.exec) (hb : c.code = cc) {a b : Int} (hdg : decode cc pc = .ok (.ior, 1)) (k : W p l e R s m args below meth c H locs cells slots Q (F0 m (pc + 1) ls (.int (iI (zor a b)) :: rest))) : W p l e R s m args below meth c H locs cells slots Q (F0 m pc ls (.int (iI b) :: .int (iI a) :: rest)) := lv_ior hx hb hdg (by rw [iI_of (iI a ||| iI b)]; exact k)
theorem r_xor (hx : p.tables.exec = Jvm.exec) (hb : c.code = cc) {a b : Int} (hdg : decode cc pc = .ok (.ixor, 1)) (k : W p l e R s m args below meth c H locs cells slots Q (F0 m (pc + 1) ls (.int (iI (zxor a b)) :: rest))) : W p l e R s m args below meth c H locs cells slots Q (F0 m pc ls (.int (iI b) :: .int (iI a) :: rest)) := lv_ixor hx hb hdg (by rw [iI_of (iI a ^^^ iI b)]; exact k)
theorem r_shl (hx : p.tables.exec = Jvm.exec) (hb : c.code = cc) {a b : Int} (hdg : decode cc pc = .ok (.ishl, 1)) (k : W p l e R s m args below meth c H locs cells slots Q (F0 m (pc + 1) ls (.int (iI (zshl a b)) :: rest))) : W p l e R s m args below meth c H locs cells slots Q (F0 m pc ls (.int (iI b) :: .int (iI a) :: rest)) := lv_ishl hx hb hdg (by rw [iI_of (iI a <<< (iI b &&& 31))]; exact k)
theorem r_shr (hx : p.tables.exec = Jvm.exec) (hb : c.code = cc) {a b : Int} (hdg : decode cc pc = .ok (.ishr, 1)) (k : W p l e R s m args below meth c H locs cells slots Q (F0 m (pc + 1) ls (.int (iI (zshr a b)) :: rest))) : W p l e R s m args below meth c H locs cells slots Q (F0 m pc ls (.int (iI b) :: .int (iI a) :: rest)) := lv_ishr hx hb hdg (by rw [iI_of (iI a >>> (iI b &&& 31))]; exact k)
theorem r_min {own : String} {index : Nat} (hx : p.tables.exec = Jvm.exec) (hb : c.code = cc) (hml : c.maxLocals = ls.size) (hown : s.vm.findClass own = some m.cls) (hlink : (Cond.methodLink own index Lib.Math.min.name).before args s = true) (hstat : (Cond.static Lib.Math.min.name).before args s = true) (hini : (Cond.initialized "java/lang/Math").before args s = true) (hcode : (Cond.code Lib.Math.min.name Lib.Math.min.code 2 (some .int)).before args s = true)
    (hframes : 1 ≤ R.frames) (hlocals : (rest.map fun v => v.category).sum + 13 ≤ R.locals) (hc : cells ≤ R.cells) (hs : slots ≤ R.slots) {a b : Int} (ha : inR a) (hbb : inR b) (hdg : decode cc pc = .ok (.invokestatic index, 3))
    (kk : W p l e R s m args below meth c H locs cells slots Q (F0 m (pc + 3) ls (.int (iI (min a b)) :: rest))) : W p l e R s m args below meth c H locs cells slots Q (F0 m pc ls (.int (iI b) :: .int (iI a) :: rest)) := by
  refine va_mmin hx hb hml hown hlink hstat hini hcode hframes hlocals hc hs hdg ?_
  have h : (if iI b < iI a then iI b else iI a) = iI (min a b) := by
    by_cases q : b < a
    · rw [if_pos ((iI_lt hbb ha).mpr q), show min a b = b by omega]
    · rw [if_neg (fun z => q ((iI_lt hbb ha).mp z)), show min a b = a by omega]
  rw [h]
  exact kk
variable {D : va_G} {cl : List vw_C} {A : Nat → Prop} {a : Nat} {tys : List (ClassId × FieldType)} {ws : va_W} {H0 : Heap}
theorem r_len (hx : p.tables.exec = Jvm.exec) (hb : c.code = cc) (hK : va_K D cl tys s) (hP : va_P D cl ws H) (q0 t0 : Nat) {cA : ClassId} {n : Nat} {F : Int → Int} (ha : ws[q0]? = some (ai cA a n F)) {ty : FieldType} (ht : tys[t0]? = some (cA, ty)) (hdg : decode cc pc = .ok (.arraylength, 1))
    (kk : W p l e R s m args below meth c H locs cells slots Q (F0 m (pc + 1) ls (.int (iI (n : Int)) :: rest))) : W p l e R s m args below meth c H locs cells slots Q (F0 m pc ls (.ref a :: rest)) := va_alen hx hb hK hP q0 t0 ha ht (iI_natC n) hdg kk
theorem r_zald (hx : p.tables.exec = Jvm.exec) (hb : c.code = cc) (hK : va_K D cl tys s) (hP : va_P D cl ws H) (q0 : Nat) {cA : ClassId} {n : Nat} {F : Int → Int} (ha : ws[q0]? = some (ai cA a n F)) (ht : tys[1]? = some (cA, .boolean)) {i : Int} (hin : 0 ≤ i ∧ i < n ∧ i ≤ 2147483647) (hdg : decode cc pc = .ok (.baload, 1))
    (kk : W p l e R s m args below meth c H locs cells slots Q (F0 m (pc + 1) ls (.int (iI (F i)) :: rest))) : W p l e R s m args below meth c H locs cells slots Q (F0 m pc ls (.int (iI i) :: .ref a :: rest)) :=
  va_zald hx hb hK hP q0 1 ha ht (iI_in hin.1 hin.2.1 hin.2.2) hdg (by rw [cI_at hin.1 hin.2.2]; exact kk)
theorem r_zast (hx : p.tables.exec = Jvm.exec) (hb : c.code = cc) (hK : va_K D cl tys s) (hP : va_P D cl ws H) (hD : va_D A ws) (hS : va_S A H0 H locs) (q0 : Nat) {cA : ClassId} {n : Nat} {F : Int → Int} (ha : ws[q0]? = some (ai cA a n F)) (ht : tys[1]? = some (cA, .boolean)) {i v : Int} (hin : 0 ≤ i ∧ i < n ∧ i ≤ 2147483647) (hv : v = 0 ∨ v = 1) (hdg : decode cc pc = .ok (.bastore, 1))
    (kk : ∀ (H1 : Heap) (locs1 : List Loc), va_P D cl (ws.set q0 (ai cA a n (ud F i v))) H1 → va_D A (ws.set q0 (ai cA a n (ud F i v))) → va_S A H0 H1 locs1 → W p l e R s m args below meth c H1 locs1 cells slots Q (F0 m (pc + 1) ls rest)) : W p l e R s m args below meth c H locs cells slots Q (F0 m pc ls (.int (iI v) :: .int (iI i) :: .ref a :: rest)) := by
  refine va_zast hx hb hK hP hD hS q0 1 ha ht (iI_in hin.1 hin.2.1 hin.2.2) hdg fun H1 locs1 h1 h2 h3 => ?_
  have hq : vp_nar .boolean (iI v) = iI v := by rcases hv with rfl | rfl <;> decide
  rw [hq, cI_ud hin.1 hin.2.2] at h1 h2
  exact kk H1 locs1 h1 h2 h3
theorem r_copy {own : String} {index : Nat} (hx : p.tables.exec = Jvm.exec) (hb : c.code = cc) (hml : c.maxLocals = ls.size) (hown : s.vm.findClass own = some m.cls) (hlink : (Cond.methodLink own index arraycopyName).before args s = true) (hnat : (Cond.native arraycopyName).before args s = true) (hstat : (Cond.static arraycopyName).before args s = true) (hini : (Cond.initialized "java/lang/System").before args s = true)
    (hK : va_K D cl tys s) (hP : va_P D cl ws H) (hD : va_D A ws) (hS : va_S A H0 H locs) (q0 q1 : Nat) {a0 : Nat} {cA : ClassId} {n0 n1 : Nat} {F G : Int → Int} (ha0 : ws[q0]? = some (ai cA a0 n0 F)) (ha1 : ws[q1]? = some (ai cA a n1 G)) (ht : tys[0]? = some (cA, .int))
    {sp dp n : Int} (h : 0 ≤ sp ∧ 0 ≤ dp ∧ 0 ≤ n ∧ (sp + n ≤ n0 ∧ sp + n ≤ 2147483647) ∧ (dp + n ≤ n1 ∧ dp + n ≤ 2147483647))
    (hframes : 1 ≤ R.frames) (hlocals : (rest.map fun v => v.category).sum + (nativeFrameWords "java/lang/System" "arraycopy" 5 + 11) ≤ R.locals) (hdg : decode cc pc = .ok (.invokestatic index, 3))
    (kk : ∀ (H1 : Heap) (locs1 : List Loc), va_P D cl (ws.set q1 (ai cA a n1 (cpy F G sp dp n))) H1 → va_D A (ws.set q1 (ai cA a n1 (cpy F G sp dp n))) → va_S A H0 H1 locs1 → W p l e R s m args below meth c H1 locs1 cells slots Q (F0 m (pc + 3) ls rest)) : W p l e R s m args below meth c H locs cells slots Q (F0 m pc ls (.int (iI n) :: .int (iI dp) :: .ref a :: .int (iI sp) :: .ref a0 :: rest)) := by
  obtain ⟨g1, g2, g3, g4, g5⟩ := h
  have ng : ∀ z : Int, 0 ≤ z → z ≤ 2147483647 → ¬ iI z < 0 := fun z q1 q2 q => by
    rw [iI_zero, iI_lt ⟨by omega, q2⟩ ⟨by omega, by omega⟩] at q
    omega
  have r1 : inR sp := ⟨by omega, by omega⟩
  have r2 : inR dp := ⟨by omega, by omega⟩
  have r3 : inR n := ⟨by omega, by omega⟩
  refine va_copyi hx hb hml hown hlink hnat hstat hini hK hP hD hS q0 q1 0 0 ha0 ha1 ht ht rfl (ng _ g1 r1.2) (ng _ g2 r2.2) (ng _ g3 r3.2) (by rw [iI_nat r1, iI_nat r3]; omega) (by rw [iI_nat r2, iI_nat r3]; omega) (fun _ _ => rfl) hframes hlocals hdg fun H1 locs1 h1 h2 h3 => ?_
  rw [cI_cpy g1 g2 g3 r1.2 r2.2 r3.2] at h1 h2
  exact kk H1 locs1 h1 h2 h3
/-- a row out of a row of rows -/
theorem r_ald2 (hx : p.tables.exec = Jvm.exec) (hb : c.code = cc) (hK : va_K D cl tys s) (hP : va_P D cl ws H) (q0 : Nat) {cA : ClassId} {n : Nat} {r : Nat → Nat} (ha : ws[q0]? = some (aq cA a n r)) (ht : tys[3]? = some (cA, .array .int)) {i : Int} (hin : 0 ≤ i ∧ i < n ∧ i ≤ 2147483647) (hdg : decode cc pc = .ok (.aaload, 1))
    (kk : W p l e R s m args below meth c H locs cells slots Q (F0 m (pc + 1) ls (.ref (r i.toNat) :: rest))) : W p l e R s m args below meth c H locs cells slots Q (F0 m pc ls (.int (iI i) :: .ref a :: rest)) := by
  have hv := iI_in hin.1 hin.2.1 hin.2.2
  have hlt : (iI i).toNatClampNeg < n := Nat.not_le.mp fun q => hv (Or.inr q)
  refine W.aald (v := va_rf (some (r (iI i).toNatClampNeg))) (ty := .array .int) hx hb (hP q0 _ ha) ((hK.2 3 _ ht).1 n (fun j => va_rf (some (r j)))) rfl (fun q => by cases q) (by show ¬ (iI i < 0 ∨ (arrV _ _ _).slots.size ≤ _); rw [arrV_size]; exact hv) (by show (arrV _ _ _).slots[_]? = _; rw [arrV_read _ _ hlt]) rfl rfl hdg ?_
  rw [iI_nat ⟨by omega, hin.2.2⟩]
  exact kk
theorem r_aldo (hx : p.tables.exec = Jvm.exec) (hb : c.code = cc) (hK : va_K D cl tys s) (hP : va_P D cl ws H) (q0 : Nat) {cA : ClassId} {n : Nat} {r : Nat → Nat} (ha : ws[q0]? = some (aq cA a n r)) (ht : tys[2]? = some (cA, .object RX1)) {i : Int} (hin : 0 ≤ i ∧ i < n ∧ i ≤ 2147483647) (hdg : decode cc pc = .ok (.aaload, 1))
    (kk : W p l e R s m args below meth c H locs cells slots Q (F0 m (pc + 1) ls (.ref (r i.toNat) :: rest))) : W p l e R s m args below meth c H locs cells slots Q (F0 m pc ls (.int (iI i) :: .ref a :: rest)) := by
  refine va_aldq hx hb hK hP q0 2 ha ht (iI_in hin.1 hin.2.1 hin.2.2) hdg ?_
  rw [iI_nat ⟨by omega, hin.2.2⟩]
  exact kk
end RW2
end
section
/-! ===== words of the specification: sums, points that letters have, orders ===== -/
def sumTo (F : Int → Int) : Nat → Int
  | 0 => 0
  | n + 1 => sumTo F n + F (n : Int)
def hasB (pt : Int → Int) (q : Int) : Nat → Bool
  | 0 => false
  | n + 1 => hasB pt q n || decide (pt (n : Int) = q)
theorem toNat_s {i : Int} (h : 0 ≤ i) : (i + 1).toNat = i.toNat + 1 := by omega
theorem sumTo_s {F : Int → Int} {i : Int} (h : 0 ≤ i) : sumTo F (i + 1).toNat = sumTo F i.toNat + F i := by
  rw [toNat_s h]
  show sumTo F i.toNat + F ((i.toNat : Nat) : Int) = _
  rw [Int.toNat_of_nonneg h]
theorem hasB_s {pt : Int → Int} {q i : Int} (h : 0 ≤ i) : hasB pt q (i + 1).toNat = (hasB pt q i.toNat || decide (pt i = q)) := by
  rw [toNat_s h]
  show (hasB pt q i.toNat || decide (pt ((i.toNat : Nat) : Int) = q)) = _
  rw [Int.toNat_of_nonneg h]
theorem hasB_iff {pt : Int → Int} {q : Int} : ∀ {n : Nat}, hasB pt q n = true ↔ ∃ j : Int, 0 ≤ j ∧ j < n ∧ pt j = q
  | 0 => by
    constructor
    · intro h; cases h
    · intro ⟨j, h1, h2, _⟩; omega
  | n + 1 => by
    show (hasB pt q n || decide (pt (n : Int) = q)) = true ↔ _
    rw [Bool.or_eq_true, hasB_iff (n := n), decide_eq_true_eq]
    constructor
    · rintro (⟨j, h1, h2, h3⟩ | h)
      · exact ⟨j, h1, by omega, h3⟩
      · exact ⟨n, by omega, by omega, h⟩
    · rintro ⟨j, h1, h2, h3⟩
      by_cases e : j = n
      · subst e; exact Or.inr h3
      · exact Or.inl ⟨j, h1, by omega, h3⟩
theorem sumTo_b {F : Int → Int} {hi : Int} (h : ∀ j, 0 ≤ F j ∧ F j ≤ hi) : ∀ n : Nat, 0 ≤ sumTo F n ∧ sumTo F n ≤ n * hi
  | 0 => by simp [sumTo]
  | n + 1 => by
    have h1 := sumTo_b h n
    have h2 := h n
    show 0 ≤ sumTo F n + F n ∧ sumTo F n + F n ≤ ((n + 1 : Nat) : Int) * hi
    rw [Int.natCast_add, Int.add_mul]
    simp only [Int.natCast_one, Int.one_mul]
    omega
/-- 1 where a point has a letter -/
def hasI (pt : Int → Int) (lt : Int) (q : Int) : Int := if hasB pt q lt.toNat = true then 1 else 0
theorem hasI_b (pt : Int → Int) (lt : Int) : ∀ q, 0 ≤ hasI pt lt q ∧ hasI pt lt q ≤ 1 := fun q => by unfold hasI; split <;> omega
/-- a row with one place taken out: what is behind it moves by one -/
def shf (F : Int → Int) (a n : Int) : Int → Int := fun j => if a ≤ j ∧ j < n then F (j + 1) else F j
theorem shf_0 (F : Int → Int) (a : Int) : shf F a a = F := by
  funext j
  unfold shf
  rw [if_neg (by omega)]
theorem shf_s {F : Int → Int} {a i : Int} (h : a ≤ i) : ud (shf F a i) i (F (i + 1)) = shf F a (i + 1) := by
  funext j
  unfold ud shf
  by_cases e : j = i
  · subst e; rw [if_pos rfl, if_pos ⟨h, by omega⟩]
  · rw [if_neg e]
    by_cases q : a ≤ j ∧ j < i
    · rw [if_pos q, if_pos ⟨q.1, by omega⟩]
    · rw [if_neg q, if_neg (by omega)]
theorem shf_at {F : Int → Int} {a n j : Int} (h : n ≤ j) : shf F a n j = F j := by
  unfold shf
  rw [if_neg (by omega)]
theorem shf_b {F : Int → Int} {a n lo hi : Int} (h : ∀ j, lo ≤ F j ∧ F j ≤ hi) : ∀ j, lo ≤ shf F a n j ∧ shf F a n j ≤ hi := fun j => by
  unfold shf
  split
  · exact h _
  · exact h _
/-- what holds of a desk -/
def DI (lt mn : Int) (pt tk mr od pl rm cd : Int → Int) : Prop :=
  ((0 ≤ lt ∧ lt ≤ 24) ∧ (2 ≤ mn ∧ mn ≤ 4)) ∧ ((∀ j, 0 ≤ pt j ∧ pt j ≤ 9) ∧ (∀ j, 0 ≤ tk j ∧ tk j ≤ 9) ∧ (∀ j, 0 ≤ mr j ∧ mr j ≤ 1)) ∧
  ((∀ j, 0 ≤ od j ∧ od j ≤ 9) ∧ (∀ j, 0 ≤ pl j ∧ pl j ≤ 9) ∧ (∀ i, 0 ≤ i → i ≤ 9 → pl (od i) = i) ∧ (∀ q, 0 ≤ q → q ≤ 9 → od (pl q) = q)) ∧ ((∀ j, 0 ≤ rm j ∧ rm j ≤ 99) ∧ (∀ j, 0 ≤ cd j ∧ cd j ≤ 63))
/-- dense codes: after k places of the walk, how many points got one, and all codes -/
def denN (hs od : Int → Int) : Nat → Int
  | 0 => 0
  | k + 1 => if hs (od (k : Int)) = 1 then denN hs od k + 1 else denN hs od k
def denC (hs od cd : Int → Int) : Nat → Int → Int
  | 0 => cd
  | k + 1 => if hs (od (k : Int)) = 1 then ud (denC hs od cd k) (od (k : Int)) (denN hs od k) else denC hs od cd k
theorem denN_s {hs od : Int → Int} {i : Int} (h : 0 ≤ i) : denN hs od (i + 1).toNat = if hs (od i) = 1 then denN hs od i.toNat + 1 else denN hs od i.toNat := by
  rw [toNat_s h]
  show (if hs (od ((i.toNat : Nat) : Int)) = 1 then _ else _) = _
  rw [Int.toNat_of_nonneg h]
theorem denC_s {hs od cd : Int → Int} {i : Int} (h : 0 ≤ i) : denC hs od cd (i + 1).toNat = if hs (od i) = 1 then ud (denC hs od cd i.toNat) (od i) (denN hs od i.toNat) else denC hs od cd i.toNat := by
  rw [toNat_s h]
  show (if hs (od ((i.toNat : Nat) : Int)) = 1 then _ else _) = _
  rw [Int.toNat_of_nonneg h]
theorem denN_b (hs od : Int → Int) : ∀ k : Nat, 0 ≤ denN hs od k ∧ denN hs od k ≤ k
  | 0 => by simp [denN]
  | k + 1 => by
    have := denN_b hs od k
    show 0 ≤ (if hs (od (k : Int)) = 1 then denN hs od k + 1 else denN hs od k) ∧ (if hs (od (k : Int)) = 1 then denN hs od k + 1 else denN hs od k) ≤ ((k + 1 : Nat) : Int)
    split <;> omega
/-- codes of points that have letters, out of a plan; others stay -/
def tkC (hs pn cd : Int → Int) (n : Int) : Int → Int := fun q => if (0 ≤ q ∧ q < n) ∧ hs q = 1 then pn q else cd q
theorem tkC_0 (hs pn cd : Int → Int) : tkC hs pn cd 0 = cd := by
  funext q
  unfold tkC
  rw [if_neg (by omega)]
theorem tkC_y {hs pn cd : Int → Int} {i : Int} (h0 : 0 ≤ i) (h : hs i = 1) : ud (tkC hs pn cd i) i (pn i) = tkC hs pn cd (i + 1) := by
  funext q
  unfold ud tkC
  by_cases e : q = i
  · subst e; rw [if_pos rfl, if_pos ⟨⟨h0, by omega⟩, h⟩]
  · rw [if_neg e]
    by_cases z : (0 ≤ q ∧ q < i) ∧ hs q = 1
    · rw [if_pos z, if_pos ⟨⟨z.1.1, by omega⟩, z.2⟩]
    · rw [if_neg z, if_neg (fun w => z ⟨⟨w.1.1, by omega⟩, w.2⟩)]
theorem tkC_n {hs pn cd : Int → Int} {i : Int} (h : hs i ≠ 1) : tkC hs pn cd (i + 1) = tkC hs pn cd i := by
  funext q
  unfold tkC
  by_cases z : (0 ≤ q ∧ q < i) ∧ hs q = 1
  · rw [if_pos z, if_pos ⟨⟨z.1.1, by omega⟩, z.2⟩]
  · rw [if_neg z, if_neg (fun w => by
      by_cases e : q = i
      · subst e; exact h w.2
      · exact z ⟨⟨w.1.1, by omega⟩, w.2⟩)]
theorem tkC_b {hs pn cd : Int → Int} {n lo hi : Int} (h1 : ∀ j, lo ≤ pn j ∧ pn j ≤ hi) (h2 : ∀ j, lo ≤ cd j ∧ cd j ≤ hi) : ∀ j, lo ≤ tkC hs pn cd n j ∧ tkC hs pn cd n j ≤ hi := fun j => by
  unfold tkC
  split
  · exact h1 _
  · exact h2 _
/-- whether codes rise, from place i on, n places, the last code being a -/
def rise (hs od cd : Int → Int) : Nat → Int → Int → Int
  | 0, _, _ => 1
  | n + 1, i, a => if hs (od i) = 1 then (if cd (od i) ≤ a then 0 else rise hs od cd n (i + 1) (cd (od i))) else rise hs od cd n (i + 1) a
theorem rise_s {hs od cd : Int → Int} {i a : Int} (h : i < 10) : rise hs od cd (10 - i).toNat i a = if hs (od i) = 1 then (if cd (od i) ≤ a then 0 else rise hs od cd (10 - (i + 1)).toNat (i + 1) (cd (od i))) else rise hs od cd (10 - (i + 1)).toNat (i + 1) a := by
  rw [show (10 - i).toNat = (10 - (i + 1)).toNat + 1 by omega]
  rfl
theorem rise_b (hs od cd : Int → Int) : ∀ n i a, rise hs od cd n i a = 0 ∨ rise hs od cd n i a = 1
  | 0, _, _ => Or.inr rfl
  | n + 1, i, a => by
    unfold rise
    split
    · split
      · exact Or.inl rfl
      · exact rise_b hs od cd n _ _
    · exact rise_b hs od cd n _ _
/-- powers -/
def pw (b : Int) : Nat → Int
  | 0 => 1
  | n + 1 => pw b n * b
theorem pw_s {b i : Int} (h : 0 ≤ i) : pw b (i + 1).toNat = pw b i.toNat * b := by rw [toNat_s h]; rfl
/-- content of a row of ints, written otherwise -/
theorem reF {D : va_G} {cl : List vw_C} {ws : va_W} {H : Heap} {q n a : Nat} {cA : ClassId} {F : Int → Int} (G : Int → Int) (hP : va_P D cl ws H) (hq : ws[q]? = some (ai cA a n F)) (h : ∀ j : Int, 0 ≤ j → j < n → F j = G j) : va_P D cl (ws.set q (ai cA a n G)) H := by
  have hl : q < ws.length := (List.getElem?_eq_some_iff.mp hq).1
  intro k x hx
  by_cases e : k = q
  · subst e
    rw [List.getElem?_set_self hl] at hx
    cases hx
    have h0 := hP k _ hq
    show H[a]? = some (vp_cell cA (n, .inl (cI G)))
    have h1 : H[a]? = some (vp_cell cA (n, .inl (cI F))) := h0
    rw [h1, vp_cell_i, vp_cell_i]
    refine congrArg some (congrArg (fun f : Fin n → Value => ({ cls := cA, slots := Array.ofFn f, vm := .none } : Cell)) (funext fun j => ?_))
    show Value.int (iI (F (j.val : Int))) = Value.int (iI (G (j.val : Int)))
    rw [h _ (by omega) (by have := j.isLt; omega)]
  · rw [List.getElem?_set_ne (by omega)] at hx
    exact hP k x hx
theorem reD {A : Nat → Prop} {ws : va_W} {q n a : Nat} {cA : ClassId} {F : Int → Int} (G : Int → Int) (hD : va_D A ws) (hq : ws[q]? = some (ai cA a n F)) : va_D A (ws.set q (ai cA a n G)) := hD.set hq
end
section
/-! ===== rows as lists; a pass; a run ===== -/
/-- the first n of a row -/
def lst (F : Int → Int) (n : Nat) : List Int := (List.range n).map (fun i : Nat => F (i : Int))
theorem lst_len (F : Int → Int) (n : Nat) : (lst F n).length = n := by simp [lst]
theorem lst_s (F : Int → Int) (n : Nat) : lst F (n + 1) = lst F n ++ [F (n : Int)] := by simp [lst, List.range_succ]
theorem lst_si {F : Int → Int} {i : Int} (h : 0 ≤ i) : lst F (i + 1).toNat = lst F i.toNat ++ [F i] := by
  rw [toNat_s h, lst_s, Int.toNat_of_nonneg h]
theorem lst_congr {F G : Int → Int} {n : Nat} (h : ∀ j : Int, 0 ≤ j → j < n → F j = G j) : lst F n = lst G n := by
  unfold lst
  apply List.map_congr_left
  intro i hi
  rw [List.mem_range] at hi
  exact h i (by omega) (by omega)
theorem lst_ud {F : Int → Int} {n : Nat} {a v : Int} (h : (n : Int) ≤ a) : lst (ud F a v) n = lst F n := lst_congr (fun j _ h2 => ud_ne (by omega))
theorem lst_push {F : Int → Int} {a v : Int} (h : 0 ≤ a) : lst (ud F a v) (a + 1).toNat = lst F a.toNat ++ [v] := by
  rw [lst_si h, ud_at, lst_ud (by omega)]
/-- place i of a list -/
def lg (L : List Int) (i : Int) : Int := L.getD i.toNat 0
theorem lst_lg {F : Int → Int} {n : Nat} {L : List Int} (h : lst F n = L) {i : Int} (h0 : 0 ≤ i) (h1 : i < n) : F i = lg L i := by
  subst h
  unfold lg lst
  rw [List.getD_eq_getElem?_getD, List.getElem?_map, List.getElem?_range (by omega)]
  show F i = F ((i.toNat : Nat) : Int)
  rw [Int.toNat_of_nonneg h0]
theorem lst_mem {F : Int → Int} {n : Nat} {L : List Int} (h : lst F n = L) {i : Int} (h0 : 0 ≤ i) (h1 : i < n) : F i ∈ L := by
  subst h
  unfold lst
  rw [List.mem_map]
  exact ⟨i.toNat, List.mem_range.mpr (by omega), by rw [Int.toNat_of_nonneg h0]⟩
theorem lst_n {F : Int → Int} {n : Int} {L : List Int} (h : lst F n.toNat = L) (h0 : 0 ≤ n) : n = (L.length : Int) := by
  rw [← h, lst_len]
  omega
/-- a letter comes to a pass: loads, those that went in, those that are spilled -/
def stp (st tk rm : Int → Int) (x : (Int → Int) × List Int × List Int) (l : Int) : (Int → Int) × List Int × List Int :=
  if x.1 (st l) + tk l ≤ rm (st l) then (ud x.1 (st l) (x.1 (st l) + tk l), x.2.1 ++ [l], x.2.2) else (x.1, x.2.1, x.2.2 ++ [l])
def pas (st tk rm : Int → Int) (row : List Int) : (Int → Int) × List Int × List Int := row.foldl (stp st tk rm) (fun _ => 0, [], [])
theorem pas_s {st tk rm F : Int → Int} {i : Int} (h : 0 ≤ i) : pas st tk rm (lst F (i + 1).toNat) = stp st tk rm (pas st tk rm (lst F i.toNat)) (F i) := by
  rw [lst_si h]
  unfold pas
  rw [List.foldl_append]
  rfl
/-- of the letters, those of stacker s -/
def pil (st : Int → Int) (L : List Int) (s : Int) : List Int := L.filter (fun l => decide (st l = s))
def catL (LS : Int → List Int) (n : Nat) : List Int := ((List.range n).map (fun s : Nat => LS (s : Int))).flatten
theorem catL_0 (LS : Int → List Int) : catL LS 0 = [] := rfl
theorem catL_s {LS : Int → List Int} {s : Int} (h : 0 ≤ s) : catL LS (s + 1).toNat = catL LS s.toNat ++ LS s := by
  rw [toNat_s h]
  unfold catL
  rw [List.range_succ, List.map_append, List.flatten_append]
  simp [Int.toNat_of_nonneg h]
def swp (st : Int → Int) (mn : Int) (L : List Int) : List Int := catL (pil st L) mn.toNat
theorem pil_snoc (st : Int → Int) (L : List Int) (l s : Int) : pil st (L ++ [l]) s = if st l = s then pil st L s ++ [l] else pil st L s := by
  unfold pil
  rw [List.filter_append]
  by_cases h : st l = s
  · rw [if_pos h]; simp [h]
  · rw [if_neg h]; simp [h]
theorem pil_len (st : Int → Int) (L : List Int) (s : Int) : (pil st L s).length ≤ L.length := List.length_filter_le _ _
theorem cat_len (st : Int → Int) : ∀ (L : List Int) (n : Nat), (catL (pil st L) n).length = (L.filter (fun l => decide (0 ≤ st l ∧ st l < n))).length := by
  intro L n
  induction n with
  | zero =>
    rw [catL_0]
    have : (L.filter (fun l => decide (0 ≤ st l ∧ st l < ((0 : Nat) : Int)))) = [] := by
      rw [List.filter_eq_nil_iff]
      intro l _ h
      have := of_decide_eq_true h
      omega
    rw [this]
  | succ n ih =>
    have e := catL_s (LS := pil st L) (s := (n : Int)) (by omega)
    have e1 : ((n : Int) + 1).toNat = n + 1 := by omega
    have e2 : ((n : Int)).toNat = n := by omega
    rw [e1, e2] at e
    rw [e, List.length_append, ih]
    unfold pil
    clear e e1 e2 ih
    induction L with
    | nil => rfl
    | cons a L ih =>
      simp only [List.filter_cons]
      by_cases h1 : 0 ≤ st a ∧ st a < (n : Int)
      · have h2 : ¬ st a = (n : Int) := by omega
        have h3 : 0 ≤ st a ∧ st a < ((n + 1 : Nat) : Int) := by omega
        simp only [h1, h2, h3, decide_true, decide_false, if_true, if_false, List.length_cons]
        simp only [decide_true, and_self, if_true, List.length_cons, Bool.false_eq_true, if_false] at ih ⊢
        omega
      · by_cases h2 : st a = (n : Int)
        · have h3 : 0 ≤ st a ∧ st a < ((n + 1 : Nat) : Int) := by omega
          have d1 : decide (0 ≤ st a ∧ st a < (n : Int)) = false := decide_eq_false h1
          have d2 : decide (st a = (n : Int)) = true := decide_eq_true h2
          have d3 : decide (0 ≤ st a ∧ st a < ((n + 1 : Nat) : Int)) = true := decide_eq_true h3
          rw [d1, d2, d3]
          simp only [if_true, if_false, Bool.false_eq_true, List.length_cons]
          omega
        · have h3 : ¬ (0 ≤ st a ∧ st a < ((n + 1 : Nat) : Int)) := by omega
          have d1 : decide (0 ≤ st a ∧ st a < (n : Int)) = false := decide_eq_false h1
          have d2 : decide (st a = (n : Int)) = false := decide_eq_false h2
          have d3 : decide (0 ≤ st a ∧ st a < ((n + 1 : Nat) : Int)) = false := decide_eq_false h3
          rw [d1, d2, d3]
          simp only [if_false, Bool.false_eq_true]
          exact ih
theorem cat_le (st : Int → Int) (L : List Int) (n : Nat) : (catL (pil st L) n).length ≤ L.length := by
  rw [cat_len]
  exact List.length_filter_le _ _
theorem cat_mem {LS : Int → List Int} {n : Nat} {x : Int} : x ∈ catL LS n ↔ ∃ s : Int, 0 ≤ s ∧ s < n ∧ x ∈ LS s := by
  unfold catL
  rw [List.mem_flatten]
  constructor
  · rintro ⟨l, hl, hx⟩
    obtain ⟨s, hs, rfl⟩ := List.mem_map.mp hl
    rw [List.mem_range] at hs
    exact ⟨s, by omega, by omega, hx⟩
  · rintro ⟨s, h0, h1, hx⟩
    refine ⟨LS s, List.mem_map.mpr ⟨s.toNat, List.mem_range.mpr (by omega), ?_⟩, hx⟩
    rw [Int.toNat_of_nonneg h0]
theorem pil_mem {st : Int → Int} {L : List Int} {s x : Int} : x ∈ pil st L s ↔ x ∈ L ∧ st x = s := by
  unfold pil
  rw [List.mem_filter, decide_eq_true_eq]
/-- what a pass leaves of its letters -/
theorem pas_inv (st tk rm : Int → Int) (row : List Int) : (pas st tk rm row).2.1.length + (pas st tk rm row).2.2.length = row.length ∧ (∀ x, x ∈ (pas st tk rm row).2.1 → x ∈ row) ∧ (∀ x, x ∈ (pas st tk rm row).2.2 → x ∈ row) := by
  have key : ∀ (row : List Int) (x : (Int → Int) × List Int × List Int), (row.foldl (stp st tk rm) x).2.1.length + (row.foldl (stp st tk rm) x).2.2.length = x.2.1.length + x.2.2.length + row.length ∧ (∀ y, y ∈ (row.foldl (stp st tk rm) x).2.1 → y ∈ x.2.1 ∨ y ∈ row) ∧ (∀ y, y ∈ (row.foldl (stp st tk rm) x).2.2 → y ∈ x.2.2 ∨ y ∈ row) := by
    intro row
    induction row with
    | nil => intro x; exact ⟨by simp, fun y h => Or.inl h, fun y h => Or.inl h⟩
    | cons a row ih =>
      intro x
      obtain ⟨h1, h2, h3⟩ := ih (stp st tk rm x a)
      rw [List.foldl_cons]
      by_cases hq : x.1 (st a) + tk a ≤ rm (st a)
      · have e : stp st tk rm x a = (ud x.1 (st a) (x.1 (st a) + tk a), x.2.1 ++ [a], x.2.2) := if_pos hq
        rw [e] at h1 h2 h3 ⊢
        simp only [List.length_append, List.length_cons, List.length_nil, List.mem_append, List.mem_cons, List.not_mem_nil, or_false] at h1 h2 h3 ⊢
        refine ⟨by omega, fun y hy => ?_, fun y hy => ?_⟩
        · rcases h2 y hy with (h | h) | h
          · exact Or.inl h
          · exact Or.inr (Or.inl h)
          · exact Or.inr (Or.inr h)
        · rcases h3 y hy with h | h
          · exact Or.inl h
          · exact Or.inr (Or.inr h)
      · have e : stp st tk rm x a = (x.1, x.2.1, x.2.2 ++ [a]) := if_neg hq
        rw [e] at h1 h2 h3 ⊢
        simp only [List.length_append, List.length_cons, List.length_nil, List.mem_append, List.mem_cons, List.not_mem_nil, or_false] at h1 h2 h3 ⊢
        refine ⟨by omega, fun y hy => ?_, fun y hy => ?_⟩
        · rcases h2 y hy with h | h
          · exact Or.inl h
          · exact Or.inr (Or.inr h)
        · rcases h3 y hy with (h | h) | h
          · exact Or.inl h
          · exact Or.inr (Or.inl h)
          · exact Or.inr (Or.inr h)
  have h := key row (fun _ => 0, [], [])
  simp only [List.length_nil, Nat.zero_add, List.not_mem_nil, false_or] at h
  exact h
/-- loads stay within 0 and the rooms -/
theorem pas_ld (st tk rm : Int → Int) (row : List Int) (htk : ∀ j, 0 ≤ tk j ∧ tk j ≤ 9) (hrm : ∀ j, 0 ≤ rm j ∧ rm j ≤ 99) : ∀ s, 0 ≤ (pas st tk rm row).1 s ∧ (pas st tk rm row).1 s ≤ 99 := by
  have key : ∀ (row : List Int) (x : (Int → Int) × List Int × List Int), (∀ s, 0 ≤ x.1 s ∧ x.1 s ≤ 99) → ∀ s, 0 ≤ (row.foldl (stp st tk rm) x).1 s ∧ (row.foldl (stp st tk rm) x).1 s ≤ 99 := by
    intro row
    induction row with
    | nil => intro x h; exact h
    | cons a row ih =>
      intro x h
      rw [List.foldl_cons]
      refine ih _ ?_
      unfold stp
      split
      · rename_i hq
        have h1 := h (st a)
        have h2 := htk a
        have h3 := hrm (st a)
        exact ud_b h (by omega) (by omega)
      · exact h
  exact key row _ (fun s => by simp)
/-- a run: after n passes the letters in their order, at which pass each was spilled, the loads of the last pass -/
def rw0 (mr : Int → Int) (lt : Int) : List Int := (lst (fun i => i) lt.toNat).filter (fun l => decide (mr l = 0))
def stk (pt cd : Int → Int) (mn : Int) (j : Nat) : Int → Int := fun l => cd (pt l) / pw mn j % mn
def rnS (lt mn : Int) (pt tk mr rm cd : Int → Int) : Nat → List Int × (Int → Int) × (Int → Int)
  | 0 => (rw0 mr lt, mr, fun _ => 0)
  | j + 1 => (swp (stk pt cd mn j) mn (pas (stk pt cd mn j) tk rm (rnS lt mn pt tk mr rm cd j).1).2.1, (fun l => if l ∈ (pas (stk pt cd mn j) tk rm (rnS lt mn pt tk mr rm cd j).1).2.2 then ((j + 1 : Nat) : Int) else (rnS lt mn pt tk mr rm cd j).2.1 l), (pas (stk pt cd mn j) tk rm (rnS lt mn pt tk mr rm cd j).1).1)
theorem rn_in (lt mn : Int) (pt tk mr rm cd : Int → Int) : ∀ j x, x ∈ (rnS lt mn pt tk mr rm cd j).1 → 0 ≤ x ∧ x < lt
  | 0, x, h => by
    have h1 := (List.mem_filter.mp h).1
    unfold lst at h1
    obtain ⟨i, hi, rfl⟩ := List.mem_map.mp h1
    rw [List.mem_range] at hi
    show 0 ≤ ((i : Nat) : Int) ∧ ((i : Nat) : Int) < lt
    omega
  | j + 1, x, h => by
    obtain ⟨s, -, -, hx⟩ := cat_mem.mp h
    exact rn_in lt mn pt tk mr rm cd j x ((pas_inv _ tk rm _).2.1 x (pil_mem.mp hx).1)
theorem rn_len (lt mn : Int) (pt tk mr rm cd : Int → Int) (hlt : 0 ≤ lt) : ∀ j, (((rnS lt mn pt tk mr rm cd j).1.length : Nat) : Int) ≤ lt
  | 0 => by
    have h := List.length_filter_le (fun l => decide (mr l = 0)) (lst (fun i => i) lt.toNat)
    rw [lst_len] at h
    show (((rw0 mr lt).length : Nat) : Int) ≤ lt
    unfold rw0
    omega
  | j + 1 => by
    have h1 := rn_len lt mn pt tk mr rm cd hlt j
    have h2 := (pas_inv (stk pt cd mn j) tk rm (rnS lt mn pt tk mr rm cd j).1).1
    have h3 := cat_le (stk pt cd mn j) (pas (stk pt cd mn j) tk rm (rnS lt mn pt tk mr rm cd j).1).2.1 mn.toNat
    show (((swp (stk pt cd mn j) mn (pas (stk pt cd mn j) tk rm (rnS lt mn pt tk mr rm cd j).1).2.1).length : Nat) : Int) ≤ lt
    unfold swp
    omega
theorem rn_dec (lt mn : Int) (pt tk mr rm cd : Int → Int) (j : Nat) : (rnS lt mn pt tk mr rm cd (j + 1)).1.length ≤ (rnS lt mn pt tk mr rm cd j).1.length := by
  have h2 := (pas_inv (stk pt cd mn j) tk rm (rnS lt mn pt tk mr rm cd j).1).1
  have h3 := cat_le (stk pt cd mn j) (pas (stk pt cd mn j) tk rm (rnS lt mn pt tk mr rm cd j).1).2.1 mn.toNat
  show (swp (stk pt cd mn j) mn (pas (stk pt cd mn j) tk rm (rnS lt mn pt tk mr rm cd j).1).2.1).length ≤ _
  unfold swp
  omega
theorem rn_mono (lt mn : Int) (pt tk mr rm cd : Int → Int) (i : Nat) : ∀ d, (rnS lt mn pt tk mr rm cd (i + d)).1.length ≤ (rnS lt mn pt tk mr rm cd i).1.length
  | 0 => Nat.le_refl _
  | d + 1 => Nat.le_trans (rn_dec lt mn pt tk mr rm cd (i + d)) (rn_mono lt mn pt tk mr rm cd i d)
/-- four rows as one -/
def gsel (g0 g1 g2 g3 : Int → Int) (s : Int) : Int → Int := if s = 0 then g0 else if s = 1 then g1 else if s = 2 then g2 else g3
theorem gs_0 (F g0 g1 g2 g3 : Int → Int) (s : Int) : gsel F g1 g2 g3 s = if s = 0 then F else gsel g0 g1 g2 g3 s := by
  unfold gsel
  by_cases h : s = 0 <;> simp [h]
theorem gs_1 (F g0 g1 g2 g3 : Int → Int) (s : Int) : gsel g0 F g2 g3 s = if s = 1 then F else gsel g0 g1 g2 g3 s := by
  unfold gsel
  by_cases h : s = 1 <;> simp [h]
theorem gs_2 (F g0 g1 g2 g3 : Int → Int) (s : Int) : gsel g0 g1 F g3 s = if s = 2 then F else gsel g0 g1 g2 g3 s := by
  unfold gsel
  by_cases h : s = 2 <;> simp [h]
theorem gs_3 (F g0 g1 g2 g3 : Int → Int) (s : Int) (h0 : 0 ≤ s) (h4 : s < 4) : gsel g0 g1 g2 F s = if s = 3 then F else gsel g0 g1 g2 g3 s := by
  unfold gsel
  by_cases h : s = 3
  · simp [h]
  · rw [if_neg h]
    rcases (show s = 0 ∨ s = 1 ∨ s = 2 by omega) with rfl | rfl | rfl <;> simp
theorem pile_step {P P' : Int → Int → Int} {ht st : Int → Int} {L : List Int} {k l : Int} (hP' : ∀ s, 0 ≤ s → s < 4 → P' s = if s = k then ud (P k) (ht k) l else P s) (hG : ∀ s, 0 ≤ s → s < 4 → lst (P s) (ht s).toNat = pil st L s) (hk : st l = k) (hH : ∀ s, 0 ≤ ht s) : ∀ s, 0 ≤ s → s < 4 → lst (P' s) (ud ht k (ht k + 1) s).toNat = pil st (L ++ [l]) s := by
  intro s h0 h4
  rw [hP' s h0 h4, pil_snoc, hk]
  by_cases e : s = k
  · subst e
    rw [if_pos rfl, if_pos rfl, ud_at, lst_push (hH _), hG s h0 h4]
  · rw [if_neg e, ud_ne e, if_neg (Ne.symm e), hG s h0 h4]
/-- pairs in wrong order, of the places v 0, v 1, .. -/
def wrS (v : Int → Int) (n : Nat) : Int := sumTo (fun b => sumTo (fun i => if v b < v i then 1 else 0) b.toNat) n
theorem sumTo_congr {F G : Int → Int} : ∀ {n : Nat}, (∀ j : Int, 0 ≤ j → j < n → F j = G j) → sumTo F n = sumTo G n
  | 0, _ => rfl
  | n + 1, h => by
    show sumTo F n + F n = sumTo G n + G n
    rw [sumTo_congr (n := n) (fun j h0 h1 => h j h0 (by omega)), h n (by omega) (by omega)]
theorem wrS_congr {v w : Int → Int} {n : Nat} (h : ∀ i : Int, 0 ≤ i → i < n → v i = w i) : wrS v n = wrS w n := by
  unfold wrS
  refine sumTo_congr (fun b h0 h1 => sumTo_congr (fun i g0 g1 => ?_))
  rw [h b h0 h1, h i g0 (by omega)]
theorem sumTo_01 (F : Int → Int) (h : ∀ j, 0 ≤ F j ∧ F j ≤ 1) (n : Nat) : 0 ≤ sumTo F n ∧ sumTo F n ≤ n := by
  have := sumTo_b h n
  omega
theorem sumTo_24 {F : Int → Int} (h : ∀ j, 0 ≤ j → j < 24 → 0 ≤ F j ∧ F j ≤ 24) : ∀ {n : Nat}, n ≤ 24 → 0 ≤ sumTo F n ∧ sumTo F n ≤ n * 24
  | 0, _ => by simp [sumTo]
  | n + 1, hn => by
    have h1 := sumTo_24 h (n := n) (by omega)
    have h2 := h n (by omega) (by omega)
    show 0 ≤ sumTo F n + F n ∧ sumTo F n + F n ≤ ((n + 1 : Nat) : Int) * 24
    omega
theorem wrS_b (v : Int → Int) {n : Nat} (hn : n ≤ 24) : 0 ≤ wrS v n ∧ wrS v n ≤ n * 24 := by
  refine sumTo_24 (fun b h0 h1 => ?_) hn
  have := sumTo_01 (fun i => if v b < v i then 1 else 0) (fun j => by split <;> omega) b.toNat
  omega
theorem rw0_s {mr : Int → Int} {i : Int} (h : 0 ≤ i) : rw0 mr (i + 1) = if mr i = 0 then rw0 mr i ++ [i] else rw0 mr i := by
  unfold rw0
  rw [lst_si h, List.filter_append]
  by_cases e : mr i = 0
  · rw [if_pos e]; simp [e]
  · rw [if_neg e]; simp [e]
/-- what the stackers hold after the letters of a row came: j the pass, sa and SA at which pass each was spilled, before and then -/
def StkP (st tk rm : Int → Int) (row : List Int) (j : Int) (sa SA A0 A1 A2 A3 HT LD : Int → Int) : Prop :=
  LD = (pas st tk rm row).1 ∧ (SA = fun l => if l ∈ (pas st tk rm row).2.2 then j else sa l) ∧ (∀ s, HT s = ((pil st (pas st tk rm row).2.1 s).length : Int)) ∧ (∀ s, 0 ≤ s → s < 4 → lst (gsel A0 A1 A2 A3 s) (HT s).toNat = pil st (pas st tk rm row).2.1 s)
theorem StkP_0 (st tk rm : Int → Int) (j : Int) (sa A0 A1 A2 A3 : Int → Int) : StkP st tk rm [] j sa sa A0 A1 A2 A3 (fun _ => 0) (fun _ => 0) := by
  refine ⟨rfl, ?_, fun s => rfl, fun s _ _ => rfl⟩
  funext l
  show sa l = if l ∈ ([] : List Int) then j else sa l
  rw [if_neg (List.not_mem_nil)]
theorem StkP_h {st tk rm : Int → Int} {row : List Int} {j : Int} {sa SA A0 A1 A2 A3 HT LD : Int → Int} (h : StkP st tk rm row j sa SA A0 A1 A2 A3 HT LD) : ∀ s, 0 ≤ HT s := fun s => by rw [h.2.2.1 s]; omega
theorem StkP_hl {st tk rm : Int → Int} {row : List Int} {j : Int} {sa SA A0 A1 A2 A3 HT LD : Int → Int} (h : StkP st tk rm row j sa SA A0 A1 A2 A3 HT LD) : ∀ s, HT s ≤ row.length := fun s => by
  rw [h.2.2.1 s]
  have h1 := pil_len st (pas st tk rm row).2.1 s
  have h2 := (pas_inv st tk rm row).1
  omega
/-- a letter that is spilled -/
theorem StkP_no {st tk rm F : Int → Int} {i j : Int} {sa SA A0 A1 A2 A3 HT LD : Int → Int} (h0 : 0 ≤ i) (h : StkP st tk rm (lst F i.toNat) j sa SA A0 A1 A2 A3 HT LD) (hq : ¬ LD (st (F i)) + tk (F i) ≤ rm (st (F i))) : StkP st tk rm (lst F (i + 1).toNat) j sa (ud SA (F i) j) A0 A1 A2 A3 HT LD := by
  obtain ⟨h1, h2, h3, h4⟩ := h
  have e : pas st tk rm (lst F (i + 1).toNat) = ((pas st tk rm (lst F i.toNat)).1, (pas st tk rm (lst F i.toNat)).2.1, (pas st tk rm (lst F i.toNat)).2.2 ++ [F i]) := by
    rw [pas_s h0]
    unfold stp
    rw [if_neg (by rw [← h1]; exact hq)]
  unfold StkP
  rw [e]
  refine ⟨h1, ?_, h3, h4⟩
  funext l
  rw [h2]
  by_cases q : l = F i
  · subst q; rw [ud_at]; simp
  · rw [ud_ne q]; simp [q]
/-- a letter that goes in -/
theorem StkP_yes {st tk rm F : Int → Int} {i j k : Int} {sa SA A0 A1 A2 A3 B0 B1 B2 B3 HT LD : Int → Int} (h0 : 0 ≤ i) (h : StkP st tk rm (lst F i.toNat) j sa SA A0 A1 A2 A3 HT LD) (hk : k = st (F i)) (hq : LD k + tk (F i) ≤ rm k)
    (hB : ∀ s, 0 ≤ s → s < 4 → gsel B0 B1 B2 B3 s = if s = k then ud (gsel A0 A1 A2 A3 k) (HT k) (F i) else gsel A0 A1 A2 A3 s) : StkP st tk rm (lst F (i + 1).toNat) j sa SA B0 B1 B2 B3 (ud HT k (HT k + 1)) (ud LD k (LD k + tk (F i))) := by
  have hH := StkP_h h
  obtain ⟨h1, h2, h3, h4⟩ := h
  subst hk
  have e : pas st tk rm (lst F (i + 1).toNat) = (ud (pas st tk rm (lst F i.toNat)).1 (st (F i)) ((pas st tk rm (lst F i.toNat)).1 (st (F i)) + tk (F i)), (pas st tk rm (lst F i.toNat)).2.1 ++ [F i], (pas st tk rm (lst F i.toNat)).2.2) := by
    rw [pas_s h0]
    unfold stp
    rw [if_pos (by rw [← h1]; exact hq)]
  unfold StkP
  rw [e]
  refine ⟨by rw [h1], h2, fun s => ?_, pile_step hB h4 rfl hH⟩
  show _ = ((pil st ((pas st tk rm (lst F i.toNat)).2.1 ++ [F i]) s).length : Int)
  rw [pil_snoc]
  by_cases q : s = st (F i)
  · subst q; rw [ud_at, if_pos rfl, h3]; simp
  · rw [ud_ne q, if_neg (Ne.symm q), h3]
theorem lst_cat {F B : Int → Int} {a n : Int} (h0 : 0 ≤ a) (h1 : 0 ≤ n) : lst (cpy F B 0 a n) (a + n).toNat = lst B a.toNat ++ lst F n.toNat := by
  obtain ⟨k, rfl⟩ : ∃ k : Nat, n = k := ⟨n.toNat, by omega⟩
  rw [show ((k : Int)).toNat = k by omega]
  have h2 : ∀ m : Nat, m ≤ k → lst (cpy F B 0 a k) (a + m).toNat = lst B a.toNat ++ lst F m := by
    intro m
    induction m with
    | zero =>
      intro _
      rw [show (a + ((0 : Nat) : Int)).toNat = a.toNat by omega]
      have : lst F 0 = [] := rfl
      rw [this, List.append_nil]
      refine lst_congr (fun j q1 q2 => ?_)
      unfold cpy
      rw [if_neg (by omega)]
    | succ m ih =>
      intro hm
      rw [show (a + ((m + 1 : Nat) : Int)) = (a + m) + 1 by omega, lst_si (by omega), ih (by omega), lst_s, List.append_assoc]
      congr 2
      unfold cpy
      rw [if_pos (by omega), show (0 : Int) + (a + m - a) = m by omega]
  exact h2 k (Nat.le_refl k)
theorem wrS_s {v : Int → Int} {b : Int} (h : 0 ≤ b) : wrS v (b + 1).toNat = wrS v b.toNat + sumTo (fun i => if v b < v i then 1 else 0) b.toNat := by
  unfold wrS
  rw [sumTo_s h]
theorem wrS_1 {v : Int → Int} {a b : Int} (h : a ≤ b) (h1 : a = b ∨ b = 1) : wrS v b.toNat = wrS v a.toNat := by
  rcases h1 with rfl | rfl
  · rfl
  · have e1 : wrS v (1 : Int).toNat = 0 := by
      show sumTo _ 0 + sumTo _ (((0 : Nat) : Int)).toNat = 0
      rfl
    rcases (show a = 1 ∨ a ≤ 0 by omega) with rfl | q
    · rfl
    · rw [e1, show a.toNat = 0 by omega]
      rfl
theorem pw_b {b : Int} (h1 : 2 ≤ b) (h2 : b ≤ 4) : ∀ {n : Nat}, n ≤ 3 → 1 ≤ pw b n ∧ pw b n ≤ 64
  | 0, _ => by show (1 : Int) ≤ 1 ∧ (1 : Int) ≤ 64; omega
  | 1, _ => by show (1 : Int) ≤ 1 * b ∧ 1 * b ≤ 64; omega
  | 2, _ => by
    show (1 : Int) ≤ 1 * b * b ∧ 1 * b * b ≤ 64
    rcases (show b = 2 ∨ b = 3 ∨ b = 4 by omega) with rfl | rfl | rfl <;> omega
  | 3, _ => by
    show (1 : Int) ≤ 1 * b * b * b ∧ 1 * b * b * b ≤ 64
    rcases (show b = 2 ∨ b = 3 ∨ b = 4 by omega) with rfl | rfl | rfl <;> omega
  | n + 4, h => by omega
def RnP (lt mn : Int) (pt tk mr rm cd : Int → Int) (j : Nat) (cm : Int) (or sa ld : Int → Int) : Prop :=
  0 ≤ cm ∧ lst or cm.toNat = (rnS lt mn pt tk mr rm cd j).1 ∧ (∀ l, 0 ≤ l → l < lt → sa l = (rnS lt mn pt tk mr rm cd j).2.1 l) ∧ (1 ≤ j → ld = (rnS lt mn pt tk mr rm cd j).2.2)
theorem RnP_cm {lt mn : Int} {pt tk mr rm cd : Int → Int} {j : Nat} {cm : Int} {or sa ld : Int → Int} (h : RnP lt mn pt tk mr rm cd j cm or sa ld) : cm = ((rnS lt mn pt tk mr rm cd j).1.length : Int) := lst_n h.2.1 h.1
theorem RnP_or {lt mn : Int} {pt tk mr rm cd : Int → Int} {j : Nat} {cm : Int} {or sa ld : Int → Int} (h : RnP lt mn pt tk mr rm cd j cm or sa ld) : ∀ i, 0 ≤ i → i < cm → 0 ≤ or i ∧ or i < lt := fun i h0 h1 => rn_in lt mn pt tk mr rm cd j _ (lst_mem h.2.1 h0 (by omega))
theorem stk_so {pt cd so : Int → Int} {mn un : Int} {j : Nat} (hpt : ∀ j, 0 ≤ pt j ∧ pt j ≤ 9) (hu : un = pw mn j) (h : ∀ q, 0 ≤ q → q ≤ 9 → so q = cd q / un % mn ∧ 0 ≤ so q ∧ so q < mn) : (fun l => so (pt l)) = stk pt cd mn j := by
  funext l
  have h1 := hpt l
  rw [(h (pt l) h1.1 h1.2).1, hu]
  rfl
theorem RnP_s {lt mn : Int} {pt tk mr rm cd so : Int → Int} {j : Nat} {jj cm cn : Int} {or sa ld SA A0 A1 A2 A3 HT LD B : Int → Int} (h : RnP lt mn pt tk mr rm cd j cm or sa ld) (hst : (fun l => so (pt l)) = stk pt cd mn j) (hj : jj = ((j + 1 : Nat) : Int)) (hs : StkP (fun l => so (pt l)) tk rm (lst or cm.toNat) jj sa SA A0 A1 A2 A3 HT LD) (hw : 0 ≤ cn ∧ lst B cn.toNat = catL (pil (fun l => so (pt l)) (pas (fun l => so (pt l)) tk rm (lst or cm.toNat)).2.1) mn.toNat) : RnP lt mn pt tk mr rm cd (j + 1) cn B SA LD := by
  obtain ⟨h1, h2, h3, h4⟩ := h
  obtain ⟨s1, s2, s3, s4⟩ := hs
  rw [hst, h2] at hw s1 s2
  refine ⟨hw.1, hw.2, fun l q1 q2 => ?_, fun _ => s1⟩
  rw [s2]
  show (if l ∈ _ then jj else sa l) = (if l ∈ _ then ((j + 1 : Nat) : Int) else _)
  rw [h3 l q1 q2, hj]
end
section
/-! ===== plans as lists of codes: one after the other ===== -/
/-- a, a + 1, .. : n of them -/
def seqF (a : Int) : Nat → List Int
  | 0 => []
  | n + 1 => a :: seqF (a + 1) n
theorem seqF_len : ∀ (n : Nat) (a : Int), (seqF a n).length = n
  | 0, _ => rfl
  | n + 1, a => by show (seqF (a + 1) n).length + 1 = n + 1; rw [seqF_len n]
theorem seqF_get : ∀ (n : Nat) (a : Int) (i : Nat), i < n → (seqF a n)[i]? = some (a + i)
  | n + 1, a, 0, _ => by show some a = some (a + ((0 : Nat) : Int)); simp
  | n + 1, a, i + 1, h => by
    show (seqF (a + 1) n)[i]? = _
    rw [seqF_get n (a + 1) i (by omega)]
    congr 1
    omega
/-- the next plan that differs at one of the first f codes -/
def nxt (b : Int) : Nat → List Int → Option (List Int)
  | 0, _ => none
  | _ + 1, [] => none
  | f + 1, h :: tl => match nxt b f tl with
    | some t => some (h :: t)
    | none => if h < b - (tl.length + 1 : Nat) then some (seqF (h + 1) (tl.length + 1)) else none
theorem nxt_len (b : Int) : ∀ (L : List Int) (f : Nat) (L' : List Int), nxt b f L = some L' → L'.length = L.length
  | [], 0, L', h => by cases h
  | [], f + 1, L', h => by cases h
  | a :: tl, 0, L', h => by cases h
  | a :: tl, f + 1, L', h => by
    unfold nxt at h
    split at h
    · rename_i t ht
      cases h
      show t.length + 1 = tl.length + 1
      rw [nxt_len b tl f t ht]
    · split at h
      · cases h
        exact seqF_len _ _
      · cases h
/-- from the walk's place i down: the first that can be raised -/
theorem nxt_yes (b : Int) : ∀ (L : List Int) (f i : Nat) (c : Int), i < f → L[i]? = some c → c < b - ((L.length - i : Nat) : Int) → (∀ (k : Nat) (d : Int), i < k → k < f → L[k]? = some d → ¬ d < b - ((L.length - k : Nat) : Int)) → nxt b f L = some (L.take i ++ seqF (c + 1) (L.length - i))
  | [], f, i, c, _, h, _, _ => by cases h
  | a :: tl, 0, i, c, h0, _, _, _ => by omega
  | a :: tl, f + 1, 0, c, h0, h1, h2, h3 => by
    cases h1
    have hn : nxt b f tl = none := by
      have key : ∀ (L : List Int) (f : Nat), (∀ (k : Nat) (d : Int), k < f → L[k]? = some d → ¬ d < b - ((L.length - k : Nat) : Int)) → nxt b f L = none := by
        intro L
        induction L with
        | nil => intro f _; cases f <;> rfl
        | cons a tl ih =>
          intro f h
          cases f with
          | zero => rfl
          | succ f =>
            have h1 := ih f (fun k d q1 q2 q3 => h (k + 1) d (by omega) q2 (by show d < b - ((tl.length + 1 - (k + 1) : Nat) : Int); rw [show tl.length + 1 - (k + 1) = tl.length - k by omega]; exact q3))
            unfold nxt
            rw [h1]
            exact if_neg (h 0 a (by omega) rfl)
      exact key tl f (fun k d q1 q2 q3 => h3 (k + 1) d (by omega) (by omega) q2 (by show d < b - ((tl.length + 1 - (k + 1) : Nat) : Int); rw [show tl.length + 1 - (k + 1) = tl.length - k by omega]; exact q3))
    unfold nxt
    rw [hn]
    exact if_pos h2
  | a :: tl, f + 1, i + 1, c, h0, h1, h2, h3 => by
    have h4 := nxt_yes b tl f i c (by omega) h1 (by rw [show tl.length - i = tl.length + 1 - (i + 1) by omega]; exact h2) (fun k d q0 q1 q2 q3 => h3 (k + 1) d (by omega) (by omega) q2 (by show d < b - ((tl.length + 1 - (k + 1) : Nat) : Int); rw [show tl.length + 1 - (k + 1) = tl.length - k by omega]; exact q3))
    unfold nxt
    rw [h4]
    show some (a :: (tl.take i ++ seqF (c + 1) (tl.length - i))) = some ((a :: tl).take (i + 1) ++ seqF (c + 1) (tl.length + 1 - (i + 1)))
    rw [show tl.length + 1 - (i + 1) = tl.length - i by omega]
    rfl
theorem nxt_no (b : Int) : ∀ (L : List Int) (f : Nat), (∀ (k : Nat) (d : Int), k < f → L[k]? = some d → ¬ d < b - ((L.length - k : Nat) : Int)) → nxt b f L = none
  | [], f, _ => by cases f <;> rfl
  | a :: tl, 0, _ => rfl
  | a :: tl, f + 1, h => by
    have h1 := nxt_no b tl f (fun k d q1 q2 q3 => h (k + 1) d (by omega) q2 (by show d < b - ((tl.length + 1 - (k + 1) : Nat) : Int); rw [show tl.length + 1 - (k + 1) = tl.length - k by omega]; exact q3))
    unfold nxt
    rw [h1]
    exact if_neg (h 0 a (by omega) rfl)
/-- more than the length is no more than the length -/
theorem nxt_all (b : Int) : ∀ (L : List Int) (f : Nat), L.length ≤ f → nxt b f L = nxt b L.length L
  | [], f, _ => by cases f <;> rfl
  | a :: tl, 0, h => by simp at h
  | a :: tl, f + 1, h => by
    have h1 := nxt_all b tl f (by simp at h; exact h)
    show nxt b (f + 1) (a :: tl) = nxt b (tl.length + 1) (a :: tl)
    unfold nxt
    rw [h1]
/-- all rising rows of r codes out of the w ones below b, the lesser code first -/
def allP (b : Int) : Nat → Nat → List (List Int)
  | _, 0 => [[]]
  | 0, _ + 1 => []
  | w + 1, r + 1 => (allP b w r).map (fun t => (b - ((w + 1 : Nat) : Int)) :: t) ++ allP b w (r + 1)
theorem allP_nil (b : Int) : ∀ (w r : Nat), w < r → allP b w r = []
  | w, 0, h => by omega
  | 0, r + 1, _ => rfl
  | w + 1, r + 1, h => by
    show (allP b w r).map _ ++ allP b w (r + 1) = []
    rw [allP_nil b w r (by omega), allP_nil b w (r + 1) (by omega)]
    rfl
/-- a plan and all behind it -/
def remP (b : Int) : List Int → List (List Int)
  | [] => [[]]
  | h :: tl => (remP b tl).map (fun t => h :: t) ++ allP b (b - h - 1).toNat (tl.length + 1)
theorem remP_seq (b : Int) : ∀ (r w : Nat) (a : Int), a = b - (w : Int) → r ≤ w → remP b (seqF a r) = allP b w r
  | 0, w, a, _, _ => by cases w <;> rfl
  | r + 1, 0, a, _, h => by omega
  | r + 1, w + 1, a, h, hr => by
    show (remP b (seqF (a + 1) r)).map (fun t => a :: t) ++ allP b (b - a - 1).toNat ((seqF (a + 1) r).length + 1) = (allP b w r).map (fun t => (b - ((w + 1 : Nat) : Int)) :: t) ++ allP b w (r + 1)
    rw [remP_seq b r w (a + 1) (by omega) (by omega), seqF_len, h, show (b - (b - ((w + 1 : Nat) : Int)) - 1).toNat = w by omega]
/-- the step from plan to plan: X is passed over, all of it like L at the first f codes -/
theorem remP_nxt (b : Int) : ∀ (L : List Int) (f : Nat), (∀ c ∈ L, c < b) → ∃ X : List (List Int), X ≠ [] ∧ (∀ Y ∈ X, Y.take f = L.take f) ∧ (L.length ≤ f → X = [L]) ∧ remP b L = X ++ (match nxt b f L with | some L' => remP b L' | none => [])
  | [], f, _ => ⟨[[]], by simp, fun Y h => by rw [List.mem_singleton.mp h], fun _ => rfl, by cases f <;> rfl⟩
  | a :: tl, 0, h => by
    refine ⟨remP b (a :: tl), ?_, fun Y _ => by simp, fun q => by simp at q, ?_⟩
    · obtain ⟨X, h1, -, -, h2⟩ := remP_nxt b tl 0 (fun c hc => h c (List.mem_cons_of_mem _ hc))
      intro q
      have q1 : (remP b tl).map (fun t => a :: t) ++ allP b (b - a - 1).toNat (tl.length + 1) = [] := q
      have q2 := (List.append_eq_nil_iff.mp q1).1
      rw [h2] at q2
      have q3 := List.map_eq_nil_iff.mp q2
      exact h1 (List.append_eq_nil_iff.mp q3).1
    · show _ = _ ++ []
      rw [List.append_nil]
  | a :: tl, f + 1, h => by
    obtain ⟨X, h1, h2, h3, h4⟩ := remP_nxt b tl f (fun c hc => h c (List.mem_cons_of_mem _ hc))
    have ha := h a List.mem_cons_self
    refine ⟨X.map (fun t => a :: t), by simpa using h1, fun Y hY => ?_, fun q => ?_, ?_⟩
    · obtain ⟨t, ht, rfl⟩ := List.mem_map.mp hY
      show a :: t.take f = a :: tl.take f
      rw [h2 t ht]
    · rw [h3 (by simp at q; exact q)]
      rfl
    · show (remP b tl).map (fun t => a :: t) ++ allP b (b - a - 1).toNat (tl.length + 1) = _
      rw [h4]
      cases hn : nxt b f tl with
      | some t =>
        have e : nxt b (f + 1) (a :: tl) = some (a :: t) := by
          unfold nxt
          rw [hn]
        rw [e]
        show (X ++ remP b t).map _ ++ _ = X.map _ ++ ((remP b t).map (fun t => a :: t) ++ allP b (b - a - 1).toNat (t.length + 1))
        rw [nxt_len b tl f t hn, List.map_append, List.append_assoc]
      | none =>
        by_cases q : a < b - ((tl.length + 1 : Nat) : Int)
        · have e : nxt b (f + 1) (a :: tl) = some (seqF (a + 1) (tl.length + 1)) := by
            unfold nxt
            rw [hn]
            show (if a < b - ((tl.length + 1 : Nat) : Int) then _ else _) = _
            rw [if_pos q]
          rw [e]
          show (X ++ []).map _ ++ _ = X.map _ ++ remP b (seqF (a + 1) (tl.length + 1))
          rw [remP_seq b (tl.length + 1) (b - a - 1).toNat (a + 1) (by omega) (by omega), List.append_nil]
        · have e : nxt b (f + 1) (a :: tl) = none := by
            unfold nxt
            rw [hn]
            show (if a < b - ((tl.length + 1 : Nat) : Int) then _ else _) = _
            rw [if_neg q]
          rw [e]
          show (X ++ []).map _ ++ _ = X.map _ ++ []
          rw [List.append_nil, allP_nil b _ _ (by omega)]
/-- how many plans there are -/
def bin : Nat → Nat → Nat
  | _, 0 => 1
  | 0, _ + 1 => 0
  | w + 1, r + 1 => bin w r + bin w (r + 1)
theorem allP_len (b : Int) : ∀ w r, (allP b w r).length = bin w r
  | w, 0 => by cases w <;> rfl
  | 0, r + 1 => rfl
  | w + 1, r + 1 => by
    show ((allP b w r).map _ ++ allP b w (r + 1)).length = bin w r + bin w (r + 1)
    rw [List.length_append, List.length_map, allP_len b w r, allP_len b w (r + 1)]
theorem bin_le : ∀ w, w ≤ 16 → ∀ r, r ≤ 10 → bin w r ≤ 12870 := by decide +kernel
/-- rising rows below b -/
def ris (b : Int) : Int → List Int → Prop
  | a, [] => a ≤ b
  | a, c :: tl => a ≤ c ∧ c < b ∧ ris b (c + 1) tl
theorem ris_lt (b : Int) : ∀ (L : List Int) (a : Int), ris b a L → ∀ c ∈ L, a ≤ c ∧ c < b
  | [], a, _, c, hc => by cases hc
  | d :: tl, a, h, c, hc => by
    obtain ⟨h1, h2, h3⟩ := h
    rcases List.mem_cons.mp hc with rfl | hc
    · exact ⟨h1, h2⟩
    · have := ris_lt b tl (d + 1) h3 c hc
      omega
theorem ris_seq (b : Int) : ∀ (n : Nat) (a : Int), a + n ≤ b → ris b a (seqF a n)
  | 0, a, h => by show a ≤ b; omega
  | n + 1, a, h => ⟨Int.le_refl a, by omega, ris_seq b n (a + 1) (by omega)⟩
theorem ris_weak (b : Int) : ∀ (L : List Int) (a a' : Int), a' ≤ a → ris b a L → ris b a' L
  | [], a, a', h, hr => by
    have hr' : a ≤ b := hr
    show a' ≤ b
    omega
  | c :: tl, a, a', h, hr => ⟨by have := hr.1; omega, hr.2.1, hr.2.2⟩
theorem ris_nxt (b : Int) : ∀ (L : List Int) (f : Nat) (a : Int) (L' : List Int), ris b a L → nxt b f L = some L' → ris b a L'
  | [], 0, a, L', _, h => by cases h
  | [], f + 1, a, L', _, h => by cases h
  | c :: tl, 0, a, L', _, h => by cases h
  | c :: tl, f + 1, a, L', hr, h => by
    unfold nxt at h
    split at h
    · rename_i t ht
      cases h
      exact ⟨hr.1, hr.2.1, ris_nxt b tl f (c + 1) t hr.2.2 ht⟩
    · split at h
      · rename_i q
        cases h
        refine ris_weak b _ (c + 1) a (by have := hr.1; omega) (ris_seq b _ _ ?_)
        omega
      · cases h
theorem remP_head (b : Int) : ∀ L : List Int, ∃ Y, remP b L = L :: Y
  | [] => ⟨[], rfl⟩
  | h :: tl => by
    obtain ⟨Y, hY⟩ := remP_head b tl
    refine ⟨Y.map (fun t => h :: t) ++ allP b (b - h - 1).toNat (tl.length + 1), ?_⟩
    show (remP b tl).map (fun t => h :: t) ++ _ = _
    rw [hY]
    rfl
end
section
/-! ===== plans in rows ===== -/
/-- the points that letters have, in the order of the walk (of its first n places) -/
def usd (hs od : Int → Int) (n : Nat) : List Int := (lst od n).filter (fun q => decide (hs q = 1))
theorem usd_s {hs od : Int → Int} {i : Int} (h : 0 ≤ i) : usd hs od (i + 1).toNat = if hs (od i) = 1 then usd hs od i.toNat ++ [od i] else usd hs od i.toNat := by
  unfold usd
  rw [lst_si h, List.filter_append]
  by_cases e : hs (od i) = 1
  · rw [if_pos e]; simp [e]
  · rw [if_neg e]; simp [e]
theorem usd_len (hs od : Int → Int) (n : Nat) : (usd hs od n).length ≤ n := by
  have := List.length_filter_le (fun q => decide (hs q = 1)) (lst od n)
  rw [lst_len] at this
  exact this
/-- what holds of rows of a plan -/
def PlI (sz be : Int) (fp fc : Int → Int) : Prop := ((0 ≤ sz ∧ sz ≤ 10) ∧ 0 ≤ be ∧ be ≤ 64) ∧ ((∀ j, 0 ≤ fp j ∧ fp j ≤ 9) ∧ (∀ j, 0 ≤ fc j ∧ fc j ≤ 63)) ∧ ∀ i k, 0 ≤ i → i < sz → 0 ≤ k → k < sz → fp i = fp k → i = k
/-- the codes of the plan -/
def cds (fp fc : Int → Int) (sz : Int) : List Int := lst (fun i => fc (fp i)) sz.toNat
theorem cds_len (fp fc : Int → Int) (sz : Int) : (cds fp fc sz).length = sz.toNat := lst_len _ _
theorem lst_get {F : Int → Int} {n k : Nat} (h : k < n) : (lst F n)[k]? = some (F k) := by
  unfold lst
  rw [List.getElem?_map, List.getElem?_range h]
  rfl
theorem lst_getI {F : Int → Int} {n k : Nat} {d : Int} (h : (lst F n)[k]? = some d) : k < n ∧ d = F k := by
  have h1 : k < n := by
    have := (List.getElem?_eq_some_iff.mp h).1
    rw [lst_len] at this
    exact this
  rw [lst_get h1] at h
  cases h
  exact ⟨h1, rfl⟩
/-- raised from place a on -/
def raiF (fp fc fd : Int → Int) (a sz : Int) : Prop := (∀ t, 0 ≤ t → t < a → fd (fp t) = fc (fp t)) ∧ ∀ t, a ≤ t → t < sz → fd (fp t) = fc (fp a) + 1 + (t - a)
theorem rai_cds {fp fc fd : Int → Int} {a sz : Int} (h0 : 0 ≤ a) (h1 : a < sz) (h : raiF fp fc fd a sz) : cds fp fd sz = (cds fp fc sz).take a.toNat ++ seqF (fc (fp a) + 1) ((cds fp fc sz).length - a.toNat) := by
  apply List.ext_getElem?
  intro k
  rw [cds_len]
  by_cases hk : k < sz.toNat
  · rw [cds, lst_get hk]
    by_cases hka : k < a.toNat
    · rw [List.getElem?_append_left (by rw [List.length_take, cds_len]; omega), List.getElem?_take_of_lt hka, cds, lst_get hk]
      congr 1
      exact h.1 k (by omega) (by omega)
    · rw [List.getElem?_append_right (by rw [List.length_take, cds_len]; omega), List.length_take, cds_len, show min a.toNat sz.toNat = a.toNat by omega, seqF_get _ _ _ (by omega)]
      congr 1
      rw [h.2 k (by omega) (by omega)]
      omega
  · rw [List.getElem?_eq_none (by rw [cds_len]; omega), List.getElem?_eq_none (by rw [List.length_append, List.length_take, cds_len, seqF_len]; omega)]
theorem adv_yes {fp fc fd : Int → Int} {a sz be f : Int} (h0 : 0 ≤ a) (h1 : a < sz) (hf : a < f) (h : raiF fp fc fd a sz) (hc : fc (fp a) < be - (sz - a)) (hn : ∀ k, a < k → k < f → k < sz → ¬ fc (fp k) < be - (sz - k)) : nxt be f.toNat (cds fp fc sz) = some (cds fp fd sz) := by
  rw [rai_cds h0 h1 h]
  refine nxt_yes be (cds fp fc sz) f.toNat a.toNat (fc (fp a)) (by omega) ?_ ?_ ?_
  · rw [cds, lst_get (by omega)]
    show some (fc (fp ((a.toNat : Nat) : Int))) = _
    rw [Int.toNat_of_nonneg h0]
  · rw [cds_len]
    omega
  · intro k d q1 q2 q3 q4
    obtain ⟨g1, g2⟩ := lst_getI q3
    rw [g2, cds_len] at q4
    exact hn k (by omega) (by omega) (by omega) (by omega)
theorem adv_no {fp fc : Int → Int} {sz be f : Int} (hn : ∀ k, 0 ≤ k → k < f → k < sz → ¬ fc (fp k) < be - (sz - k)) : nxt be f.toNat (cds fp fc sz) = none := by
  refine nxt_no be (cds fp fc sz) f.toNat ?_
  intro k d q2 q3 q4
  obtain ⟨g1, g2⟩ := lst_getI q3
  rw [g2, cds_len] at q4
  exact hn k (by omega) (by omega) (by omega) (by omega)
theorem pl_b2 {fp fc : Int → Int} {n : Int} (h : ∀ t, 0 ≤ t → t < n → fc (fp t) = t) : cds fp fc n = seqF 0 n.toNat := by
  apply List.ext_getElem?
  intro k
  by_cases hk : k < n.toNat
  · rw [cds, lst_get hk, seqF_get _ _ _ hk]
    congr 1
    rw [h k (by omega) (by omega)]
    omega
  · rw [List.getElem?_eq_none (by rw [cds_len]; omega), List.getElem?_eq_none (by rw [seqF_len]; omega)]
theorem pl_b3 {od pl B C : Int → Int} {i n : Int} (hpi : pl (od i) = i) (h3 : ∀ t, 0 ≤ t → t < n → C (B t) = t) (h4 : ∀ t, 0 ≤ t → t < n → pl (B t) < i) : ∀ t, 0 ≤ t → t < n + 1 → ud C (od i) n (ud B n (od i) t) = t := fun t q1 q2 => by
  by_cases e : t = n
  · subst e; rw [ud_at, ud_at]
  · rw [ud_ne (F := B) e, ud_ne (fun q => by have := h4 t q1 (by omega); rw [q, hpi] at this; omega)]
    exact h3 t q1 (by omega)
theorem pl_b4 {od pl B : Int → Int} {i n : Int} (hpi : pl (od i) = i) (h4 : ∀ t, 0 ≤ t → t < n → pl (B t) < i) : ∀ t, 0 ≤ t → t < n + 1 → pl (ud B n (od i) t) < i + 1 := fun t q1 q2 => by
  by_cases e : t = n
  · subst e; rw [ud_at, hpi]; omega
  · rw [ud_ne e]
    have := h4 t q1 (by omega)
    omega
theorem pl_b5 {od pl B : Int → Int} {i n : Int} (hpi : pl (od i) = i) (h4 : ∀ t, 0 ≤ t → t < n → pl (B t) < i) (h5 : ∀ i k, 0 ≤ i → i < n → 0 ≤ k → k < n → B i = B k → i = k) : ∀ a k, 0 ≤ a → a < n + 1 → 0 ≤ k → k < n + 1 → ud B n (od i) a = ud B n (od i) k → a = k := fun a k q1 q2 q3 q4 q => by
  by_cases e : a = n <;> by_cases g : k = n
  · omega
  · subst e
    rw [ud_at, ud_ne g] at q
    have := h4 k q3 (by omega)
    rw [← q, hpi] at this
    omega
  · subst g
    rw [ud_at, ud_ne e] at q
    have := h4 a q1 (by omega)
    rw [q, hpi] at this
    omega
  · rw [ud_ne e, ud_ne g] at q
    exact h5 a k q1 (by omega) q3 (by omega) q
end
section
abbrev rm_X5_isWithin : Room := { frames := 0, cells := 0, slots := 0, locals := 0 }
set_option maxHeartbeats 4000000 in
set_option maxRecDepth 100000 in
theorem k_X5_isWithin (l : Launch) (D : va_G) (cy : Nat → ClassId) (z : Nat) (v lo hi : Int) (hv : inR v) (hlo : inR lo) (hhi : inR hi) : CtI l yX5_isWithin wsX5_isWithin rm_X5_isWithin D (tyL cy) [.int (iI v), .int (iI lo), .int (iI hi)] [] z (fun (r : Int) (u : Unit) => (r = 1 ∧ lo ≤ v ∧ v ≤ hi) ∨ (r = 0 ∧ (v < lo ∨ hi < v))) (fun (u : Unit) => []) 0 0 := by
  refine ct_z (cc := cX5_isWithin) (maxL := 3) (by decide) rfl (Nat.le_of_ble_eq_true rfl) ?_
  intro p e s m args below meth c A Q H locs ls hx hb hml hown hin hts hK hN hP hD hS hA hl hret
  replace hl : lv_has ls 3 [(0, .int (iI v)), (1, .int (iI lo)), (2, .int (iI hi))] := hl
  replace hown : s.vm.findClass RX5 = some m.cls := hown
  refine lv_iload_n hx hb dX5_isWithin_0 rfl (lv_at hl 0 rfl) ?_
  refine lv_iload_n hx hb dX5_isWithin_1 rfl (lv_at hl 1 rfl) ?_
  refine r_lt hx hb 14 dX5_isWithin_2 (by decide) ⟨by omega, by omega⟩ ⟨by omega, by omega⟩ (fun c_2 => ?_) (fun c_2 => ?_)
  ·
    refine r_const hx hb dX5_isWithin_14 ?_
    exact hret [] () dX5_isWithin_15 hP hD hS (by decide) rfl (by omega) (by omega)
  ·
    refine lv_iload_n hx hb dX5_isWithin_5 rfl (lv_at hl 0 rfl) ?_
    refine lv_iload_n hx hb dX5_isWithin_6 rfl (lv_at hl 2 rfl) ?_
    refine r_gt hx hb 14 dX5_isWithin_7 (by decide) ⟨by omega, by omega⟩ ⟨by omega, by omega⟩ (fun c_7 => ?_) (fun c_7 => ?_)
    ·
      refine r_const hx hb dX5_isWithin_14 ?_
      exact hret [] () dX5_isWithin_15 hP hD hS (by decide) rfl (by omega) (by omega)
    ·
      refine r_const hx hb dX5_isWithin_10 ?_
      refine lv_goto (tgt := 15) hx hb dX5_isWithin_11 (by decide) ?_
      exact hret [] () dX5_isWithin_15 hP hD hS (by decide) rfl (by omega) (by omega)
abbrev rm_X5_isPoint : Room := { frames := 1, cells := 0, slots := 0, locals := 22 }
set_option maxHeartbeats 4000000 in
set_option maxRecDepth 100000 in
theorem k_X5_isPoint (l : Launch) (D : va_G) (cy : Nat → ClassId) (z : Nat) (v : Int) (hv : inR v) : CtI l yX5_isPoint wsX5_isPoint rm_X5_isPoint D (tyL cy) [.int (iI v)] [] z (fun (r : Int) (u : Unit) => (r = 1 ∧ 0 ≤ v ∧ v ≤ 9) ∨ (r = 0 ∧ (v < 0 ∨ 9 < v))) (fun (u : Unit) => []) 0 0 := by
  refine ct_z (cc := cX5_isPoint) (maxL := 1) (by decide) rfl (Nat.le_of_ble_eq_true rfl) ?_
  intro p e s m args below meth c A Q H locs ls hx hb hml hown hin hts hK hN hP hD hS hA hl hret
  replace hl : lv_has ls 1 [(0, .int (iI v))] := hl
  replace hown : s.vm.findClass RX5 = some m.cls := hown
  refine lv_iload_n hx hb dX5_isPoint_0 rfl (lv_at hl 0 rfl) ?_
  refine r_const hx hb dX5_isPoint_1 ?_
  refine r_bip hx hb (9) dX5_isPoint_2 (by decide) ?_
  have M_4 := k_X5_isWithin l D cy  H.size v 0 9 (hv) (⟨by omega, by omega⟩) (⟨by omega, by omega⟩)
  refine kS_i (wr := []) (As := [.int (iI v), .int (iI 0), .int (iI 9)]) (rest := []) ⟨hx, hb, hml, hown, hts⟩ M_4 (va_cwS 3 hts gX5_isPoint_X5_isWithin rfl rfl rfl (by decide +kernel) ⟨Nat.le_of_ble_eq_true rfl, Nat.le_of_ble_eq_true rfl⟩) hN hK hP hD hS hA [] [] rfl rfl (by decide) (by decide) (by decide) rfl hl.1 rfl (Nat.le_of_ble_eq_true rfl) dX5_isPoint_4 ⟨Nat.le_of_ble_eq_true rfl, Nat.le_of_ble_eq_true rfl⟩ (fun r_4 u_4 H locs hw_4 hP hD hS => ?_)
  replace hP : va_P D vwCl [] H := hP
  replace hD : va_D A [] := hD
  exact hret [] () dX5_isPoint_7 hP hD hS (by decide) rfl (by omega) (by omega)
abbrev rm_X5_isPasses : Room := { frames := 1, cells := 0, slots := 0, locals := 22 }
set_option maxHeartbeats 4000000 in
set_option maxRecDepth 100000 in
theorem k_X5_isPasses (l : Launch) (D : va_G) (cy : Nat → ClassId) (z : Nat) (v : Int) (hv : inR v) : CtI l yX5_isPasses wsX5_isPasses rm_X5_isPasses D (tyL cy) [.int (iI v)] [] z (fun (r : Int) (u : Unit) => (r = 1 ∧ 1 ≤ v ∧ v ≤ 3) ∨ (r = 0 ∧ (v < 1 ∨ 3 < v))) (fun (u : Unit) => []) 0 0 := by
  refine ct_z (cc := cX5_isPasses) (maxL := 1) (by decide) rfl (Nat.le_of_ble_eq_true rfl) ?_
  intro p e s m args below meth c A Q H locs ls hx hb hml hown hin hts hK hN hP hD hS hA hl hret
  replace hl : lv_has ls 1 [(0, .int (iI v))] := hl
  replace hown : s.vm.findClass RX5 = some m.cls := hown
  refine lv_iload_n hx hb dX5_isPasses_0 rfl (lv_at hl 0 rfl) ?_
  refine r_const hx hb dX5_isPasses_1 ?_
  refine r_const hx hb dX5_isPasses_2 ?_
  have M_3 := k_X5_isWithin l D cy  H.size v 1 3 (hv) (⟨by omega, by omega⟩) (⟨by omega, by omega⟩)
  refine kS_i (wr := []) (As := [.int (iI v), .int (iI 1), .int (iI 3)]) (rest := []) ⟨hx, hb, hml, hown, hts⟩ M_3 (va_cwS 3 hts gX5_isPasses_X5_isWithin rfl rfl rfl (by decide +kernel) ⟨Nat.le_of_ble_eq_true rfl, Nat.le_of_ble_eq_true rfl⟩) hN hK hP hD hS hA [] [] rfl rfl (by decide) (by decide) (by decide) rfl hl.1 rfl (Nat.le_of_ble_eq_true rfl) dX5_isPasses_3 ⟨Nat.le_of_ble_eq_true rfl, Nat.le_of_ble_eq_true rfl⟩ (fun r_3 u_3 H locs hw_3 hP hD hS => ?_)
  replace hP : va_P D vwCl [] H := hP
  replace hD : va_D A [] := hD
  exact hret [] () dX5_isPasses_6 hP hD hS (by decide) rfl (by omega) (by omega)
abbrev rm_X5_isImage : Room := { frames := 1, cells := 0, slots := 0, locals := 22 }
set_option maxHeartbeats 4000000 in
set_option maxRecDepth 100000 in
theorem k_X5_isImage (l : Launch) (D : va_G) (cy : Nat → ClassId) (z : Nat) (v : Int) (hv : inR v) : CtI l yX5_isImage wsX5_isImage rm_X5_isImage D (tyL cy) [.int (iI v)] [] z (fun (r : Int) (u : Unit) => (r = 1 ∧ 0 ≤ v ∧ v ≤ 1) ∨ (r = 0 ∧ (v < 0 ∨ 1 < v))) (fun (u : Unit) => []) 0 0 := by
  refine ct_z (cc := cX5_isImage) (maxL := 1) (by decide) rfl (Nat.le_of_ble_eq_true rfl) ?_
  intro p e s m args below meth c A Q H locs ls hx hb hml hown hin hts hK hN hP hD hS hA hl hret
  replace hl : lv_has ls 1 [(0, .int (iI v))] := hl
  replace hown : s.vm.findClass RX5 = some m.cls := hown
  refine lv_iload_n hx hb dX5_isImage_0 rfl (lv_at hl 0 rfl) ?_
  refine r_const hx hb dX5_isImage_1 ?_
  refine r_const hx hb dX5_isImage_2 ?_
  have M_3 := k_X5_isWithin l D cy  H.size v 0 1 (hv) (⟨by omega, by omega⟩) (⟨by omega, by omega⟩)
  refine kS_i (wr := []) (As := [.int (iI v), .int (iI 0), .int (iI 1)]) (rest := []) ⟨hx, hb, hml, hown, hts⟩ M_3 (va_cwS 3 hts gX5_isImage_X5_isWithin rfl rfl rfl (by decide +kernel) ⟨Nat.le_of_ble_eq_true rfl, Nat.le_of_ble_eq_true rfl⟩) hN hK hP hD hS hA [] [] rfl rfl (by decide) (by decide) (by decide) rfl hl.1 rfl (Nat.le_of_ble_eq_true rfl) dX5_isImage_3 ⟨Nat.le_of_ble_eq_true rfl, Nat.le_of_ble_eq_true rfl⟩ (fun r_3 u_3 H locs hw_3 hP hD hS => ?_)
  replace hP : va_P D vwCl [] H := hP
  replace hD : va_D A [] := hD
  exact hret [] () dX5_isImage_6 hP hD hS (by decide) rfl (by omega) (by omega)
abbrev rm_X5_asksCode : Room := { frames := 1, cells := 0, slots := 0, locals := 22 }
set_option maxHeartbeats 4000000 in
set_option maxRecDepth 100000 in
theorem k_X5_asksCode (l : Launch) (D : va_G) (cy : Nat → ClassId) (z : Nat) (v : Int) (hv : inR v) : CtI l yX5_asksCode wsX5_asksCode rm_X5_asksCode D (tyL cy) [.int (iI v)] [] z (fun (r : Int) (u : Unit) => (r = 1 ∧ 10 ≤ v ∧ v ≤ 19) ∨ (r = 0 ∧ (v < 10 ∨ 19 < v))) (fun (u : Unit) => []) 0 0 := by
  refine ct_z (cc := cX5_asksCode) (maxL := 1) (by decide) rfl (Nat.le_of_ble_eq_true rfl) ?_
  intro p e s m args below meth c A Q H locs ls hx hb hml hown hin hts hK hN hP hD hS hA hl hret
  replace hl : lv_has ls 1 [(0, .int (iI v))] := hl
  replace hown : s.vm.findClass RX5 = some m.cls := hown
  refine lv_iload_n hx hb dX5_asksCode_0 rfl (lv_at hl 0 rfl) ?_
  refine r_bip hx hb (10) dX5_asksCode_1 (by decide) ?_
  refine r_bip hx hb (19) dX5_asksCode_3 (by decide) ?_
  have M_5 := k_X5_isWithin l D cy  H.size v 10 19 (hv) (⟨by omega, by omega⟩) (⟨by omega, by omega⟩)
  refine kS_i (wr := []) (As := [.int (iI v), .int (iI 10), .int (iI 19)]) (rest := []) ⟨hx, hb, hml, hown, hts⟩ M_5 (va_cwS 3 hts gX5_asksCode_X5_isWithin rfl rfl rfl (by decide +kernel) ⟨Nat.le_of_ble_eq_true rfl, Nat.le_of_ble_eq_true rfl⟩) hN hK hP hD hS hA [] [] rfl rfl (by decide) (by decide) (by decide) rfl hl.1 rfl (Nat.le_of_ble_eq_true rfl) dX5_asksCode_5 ⟨Nat.le_of_ble_eq_true rfl, Nat.le_of_ble_eq_true rfl⟩ (fun r_5 u_5 H locs hw_5 hP hD hS => ?_)
  replace hP : va_P D vwCl [] H := hP
  replace hD : va_D A [] := hD
  exact hret [] () dX5_asksCode_8 hP hD hS (by decide) rfl (by omega) (by omega)
abbrev rm_X5_power : Room := { frames := 0, cells := 0, slots := 0, locals := 0 }
set_option maxHeartbeats 4000000 in
set_option maxRecDepth 100000 in
theorem k_X5_power (l : Launch) (D : va_G) (cy : Nat → ClassId) (z : Nat) (b k : Int) (hk : 0 ≤ k ∧ k ≤ 3) : CtI l yX5_power wsX5_power rm_X5_power D (tyL cy) [.int (iI b), .int (iI k)] [] z (fun (r : Int) (u : Unit) => r = pw b k.toNat) (fun (u : Unit) => []) 0 0 := by
  refine ct_i (cc := cX5_power) (maxL := 4) (by decide) rfl (Nat.le_of_ble_eq_true rfl) ?_
  intro p e s m args below meth c A Q H locs ls hx hb hml hown hin hts hK hN hP hD hS hA hl hret
  replace hl : lv_has ls 4 [(0, .int (iI b)), (1, .int (iI k))] := hl
  replace hown : s.vm.findClass RX5 = some m.cls := hown
  refine r_const hx hb dX5_power_0 ?_
  refine lv_istore_n (lv' := [(2, .int (iI 1)), (0, .int (iI b)), (1, .int (iI k))]) hx hb dX5_power_1 rfl hl (by decide) rfl (fun ls hl => ?_)
  refine r_const hx hb dX5_power_2 ?_
  refine lv_istore_n (lv' := [(3, .int (iI 0)), (2, .int (iI 1)), (0, .int (iI b)), (1, .int (iI k))]) hx hb dX5_power_3 rfl hl (by decide) rfl (fun ls hl => ?_)
  have lp_4 : ∀ (fu : Nat) (g : Int) (i : Int), (0 ≤ i ∧ i ≤ k) → (g = pw b i.toNat) → (k - i).toNat < fu → ∀ (H : Heap) (locs : List Loc), va_P D vwCl [] H → va_D A [] → va_S A s.heap H locs → ∀ (ls : Array Slot), lv_has ls 4 [(0, .int (iI b)), (1, .int (iI k)), (2, .int (iI g)), (3, .int (iI i))] → W p l e rm_X5_power s m args below meth c H locs 0 0 Q (F0 m 4 ls []) := by
    intro fu
    induction fu with
    | zero =>
      intro g i h1 h2 hm
      exact absurd hm (Nat.not_lt_zero _)
    | succ fu ih_4 =>
      intro g i h1 h2 hm H locs hP hD hS ls hl
      refine lv_iload_n hx hb dX5_power_4 rfl (lv_at hl 3 rfl) ?_
      refine lv_iload_n hx hb dX5_power_5 rfl (lv_at hl 1 rfl) ?_
      refine r_ge hx hb 19 dX5_power_6 (by decide) ⟨by omega, by omega⟩ ⟨by omega, by omega⟩ (fun c_6 => ?_) (fun c_6 => ?_)
      ·
        refine lv_iload_n hx hb dX5_power_19 rfl (lv_at hl 2 rfl) ?_
        exact hret [] () dX5_power_20 hP hD hS (by decide) rfl (by rw [h2, show i = k by omega])
      ·
        refine lv_iload_n hx hb dX5_power_9 rfl (lv_at hl 2 rfl) ?_
        refine lv_iload_n hx hb dX5_power_10 rfl (lv_at hl 0 rfl) ?_
        refine r_mul hx hb dX5_power_11 ?_
        refine lv_istore_n (lv' := [(2, .int (iI (g * b))), (0, .int (iI b)), (1, .int (iI k)), (3, .int (iI i))]) hx hb dX5_power_12 rfl hl (by decide) rfl (fun ls hl => ?_)
        refine r_inc (k := 3) (lv' := [(3, .int (iI (i + 1))), (2, .int (iI (g * b))), (0, .int (iI b)), (1, .int (iI k))]) hx hb dX5_power_13 hl rfl (by decide) rfl (fun ls hl => ?_)
        refine lv_goto (tgt := 4) hx hb dX5_power_16 (by decide) ?_
        exact ih_4 (g * b) (i + 1) (by omega) (by rw [pw_s h1.1, h2]) (by omega) H locs (pick_P hP (is := []) rfl) (hD.sub [] (by decide) rfl) hS ls (lv_sub hl [2, 3, 1, 0] rfl)
  exact lp_4 _ 1 0 (by omega) (rfl) (Nat.lt_succ_self _) H locs (pick_P hP (is := []) rfl) (hD.sub [] (by decide) rfl) hS ls (lv_sub hl [2, 3, 1, 0] rfl)
abbrev rm_X5_figure : Room := { frames := 0, cells := 0, slots := 0, locals := 0 }
set_option maxHeartbeats 4000000 in
set_option maxRecDepth 100000 in
theorem k_X5_figure (l : Launch) (D : va_G) (cy : Nat → ClassId) (z : Nat) (cc un mm : Int) (h1 : 0 ≤ cc ∧ cc ≤ 2147483647) (h2 : 1 ≤ un ∧ un ≤ 2147483647) (h3 : 1 ≤ mm ∧ mm ≤ 2147483647) : CtI l yX5_figure wsX5_figure rm_X5_figure D (tyL cy) [.int (iI cc), .int (iI un), .int (iI mm)] [] z (fun (r : Int) (u : Unit) => r = cc / un % mm ∧ 0 ≤ r ∧ r < mm) (fun (u : Unit) => []) 0 0 := by
  refine ct_i (cc := cX5_figure) (maxL := 3) (by decide) rfl (Nat.le_of_ble_eq_true rfl) ?_
  intro p e s m args below meth c A Q H locs ls hx hb hml hown hin hts hK hN hP hD hS hA hl hret
  replace hl : lv_has ls 3 [(0, .int (iI cc)), (1, .int (iI un)), (2, .int (iI mm))] := hl
  replace hown : s.vm.findClass RX5 = some m.cls := hown
  refine lv_iload_n hx hb dX5_figure_0 rfl (lv_at hl 1 rfl) ?_
  refine r_const hx hb dX5_figure_1 ?_
  refine r_lt hx hb 10 dX5_figure_2 (by decide) ⟨by omega, by omega⟩ ⟨by omega, by omega⟩ (fun c_2 => ?_) (fun c_2 => ?_)
  ·
    refine r_const hx hb dX5_figure_10 ?_
    exact hret [] () dX5_figure_11 hP hD hS (by decide) rfl (by first | omega | exact ⟨rfl, Int.emod_nonneg _ (by omega), Int.emod_lt_of_pos _ (by omega)⟩)
  ·
    refine lv_iload_n hx hb dX5_figure_5 rfl (lv_at hl 2 rfl) ?_
    refine r_const hx hb dX5_figure_6 ?_
    refine r_ge hx hb 12 dX5_figure_7 (by decide) ⟨by omega, by omega⟩ ⟨by omega, by omega⟩ (fun c_7 => ?_) (fun c_7 => ?_)
    ·
      refine lv_iload_n hx hb dX5_figure_12 rfl (lv_at hl 0 rfl) ?_
      refine lv_iload_n hx hb dX5_figure_13 rfl (lv_at hl 1 rfl) ?_
      refine r_div hx hb dX5_figure_14 ⟨⟨by omega, by omega⟩, by omega, by omega⟩ ?_
      refine lv_iload_n hx hb dX5_figure_15 rfl (lv_at hl 2 rfl) ?_
      have hq1 : 0 ≤ cc / un := Int.ediv_nonneg h1.1 (by omega)
      have hq2 : cc / un ≤ cc := Int.ediv_le_self _ h1.1
      refine r_rem hx hb dX5_figure_16 ⟨⟨by omega, by omega⟩, by omega, by omega⟩ ?_
      exact hret [] () dX5_figure_17 hP hD hS (by decide) rfl (by first | omega | exact ⟨rfl, Int.emod_nonneg _ (by omega), Int.emod_lt_of_pos _ (by omega)⟩)
    ·
      refine r_const hx hb dX5_figure_10 ?_
      exact hret [] () dX5_figure_11 hP hD hS (by decide) rfl (by first | omega | exact ⟨rfl, Int.emod_nonneg _ (by omega), Int.emod_lt_of_pos _ (by omega)⟩)
abbrev rm_J7_fill_53178 : Room := { frames := 0, cells := 0, slots := 0, locals := 0 }
set_option maxHeartbeats 4000000 in
set_option maxRecDepth 100000 in
theorem k_J7_fill_53178 (l : Launch) (D : va_G) (cy : Nat → ClassId) (a : Nat) (z : Nat) (n : Nat) (F : Int → Int) (v : Int) (hn : n ≤ 1000) : CtV l yJ7_fill_53178 wsJ7_fill_53178 rm_J7_fill_53178 D (tyL cy) [.ref (a), .int (iI v)] [ai (cy 0) a n F] z (fun (u : Unit) => True) (fun (u : Unit) => [ai (cy 0) a n (fun _ => v)]) 0 0 := by
  refine ct_v (cc := cJ7_fill_53178) (maxL := 4) (by decide) rfl (Nat.le_of_ble_eq_true rfl) ?_
  intro p e s m args below meth c A Q H locs ls hx hb hml hown hin hts hK hN hP hD hS hA hl hret
  replace hl : lv_has ls 4 [(0, .ref (a)), (1, .int (iI v))] := hl
  replace hown : s.vm.findClass RJ7 = some m.cls := hown
  refine r_const hx hb dJ7_fill_53178_0 ?_
  refine lv_istore_n (lv' := [(2, .int (iI 0)), (0, .ref (a)), (1, .int (iI v))]) hx hb dJ7_fill_53178_1 rfl hl (by decide) rfl (fun ls hl => ?_)
  refine lv_aload_n hx hb dJ7_fill_53178_2 rfl (lv_at hl 1 rfl) ?_
  refine r_len hx hb hK hP 0 0 rfl rfl dJ7_fill_53178_3 ?_
  refine lv_istore_n (lv' := [(3, .int (iI (n : Int))), (2, .int (iI 0)), (0, .ref (a)), (1, .int (iI v))]) hx hb dJ7_fill_53178_4 rfl hl (by decide) rfl (fun ls hl => ?_)
  have lp_5 : ∀ (fu : Nat) (i : Int) (B : Int → Int), (0 ≤ i ∧ i ≤ n) → (∀ j, 0 ≤ j → j < i → B j = v) → (n - i).toNat < fu → ∀ (H : Heap) (locs : List Loc), va_P D vwCl [ai (cy 0) a n B] H → va_D A [ai (cy 0) a n B] → va_S A s.heap H locs → ∀ (ls : Array Slot), lv_has ls 4 [(0, .ref (a)), (1, .int (iI v)), (2, .int (iI i)), (3, .int (iI (n : Int)))] → W p l e rm_J7_fill_53178 s m args below meth c H locs 0 0 Q (F0 m 5 ls []) := by
    intro fu
    induction fu with
    | zero =>
      intro i B h1 h2 hm
      exact absurd hm (Nat.not_lt_zero _)
    | succ fu ih_5 =>
      intro i B h1 h2 hm H locs hP hD hS ls hl
      refine lv_iload_n hx hb dJ7_fill_53178_5 rfl (lv_at hl 2 rfl) ?_
      refine lv_iload_n hx hb dJ7_fill_53178_6 rfl (lv_at hl 3 rfl) ?_
      refine r_ge hx hb 20 dJ7_fill_53178_7 (by decide) ⟨by omega, by omega⟩ ⟨by omega, by omega⟩ (fun c_7 => ?_) (fun c_7 => ?_)
      ·
        replace hP := reF (q := 0) (fun _ => v) hP rfl (fun j q1 q2 => h2 j q1 (by omega))
        replace hD := reD (q := 0) (fun _ => v) hD rfl
        exact hret [0] () dJ7_fill_53178_20 hP hD hS (by decide) rfl (by trivial)
      ·
        refine lv_aload_n hx hb dJ7_fill_53178_10 rfl (lv_at hl 0 rfl) ?_
        refine lv_iload_n hx hb dJ7_fill_53178_11 rfl (lv_at hl 2 rfl) ?_
        refine lv_iload_n hx hb dJ7_fill_53178_12 rfl (lv_at hl 1 rfl) ?_
        refine r_ast hx hb hK hP hD hS 0 rfl rfl ⟨by omega, by omega, by omega⟩ dJ7_fill_53178_13 (fun H locs hP hD hS => ?_)
        replace hP : va_P D vwCl [ai (cy 0) a n (ud B i v)] H := hP
        replace hD : va_D A [ai (cy 0) a n (ud B i v)] := hD
        refine r_inc (k := 2) (lv' := [(2, .int (iI (i + 1))), (0, .ref (a)), (1, .int (iI v)), (3, .int (iI (n : Int)))]) hx hb dJ7_fill_53178_14 hl rfl (by decide) rfl (fun ls hl => ?_)
        refine lv_goto (tgt := 5) hx hb dJ7_fill_53178_17 (by decide) ?_
        exact ih_5 (i + 1) (ud B i v) (by omega) (fun j q1 q2 => by by_cases e : j = i; (subst e; exact ud_at _ _ _); (rw [ud_ne e]; exact h2 j q1 (by omega))) (by omega) H locs (pick_P hP (is := [0]) rfl) (hD.sub [0] (by decide) rfl) hS ls (lv_sub hl [1, 2, 0, 3] rfl)
  exact lp_5 _ 0 F (by omega) (fun j _ _ => by omega) (Nat.lt_succ_self _) H locs (pick_P hP (is := [0]) rfl) (hD.sub [0] (by decide) rfl) hS ls (lv_sub hl [2, 3, 1, 0] rfl)
abbrev rm_X1_addFirst : Room := { frames := 0, cells := 0, slots := 0, locals := 0 }
set_option maxHeartbeats 4000000 in
set_option maxRecDepth 100000 in
theorem k_X1_addFirst (l : Launch) (D : va_G) (cy : Nat → ClassId) (a : Nat) (z : Nat) (n : Nat) (F : Int → Int) (k : Int) (hn : 0 ≤ k ∧ k ≤ n ∧ n ≤ 1000) (hF : ∀ j, 0 ≤ F j ∧ F j ≤ 1000) : CtI l yX1_addFirst wsX1_addFirst rm_X1_addFirst D (tyL cy) [.ref (a), .int (iI k)] [ai (cy 0) a n F] z (fun (r : Int) (u : Unit) => r = sumTo F k.toNat) (fun (u : Unit) => [ai (cy 0) a n F]) 0 0 := by
  refine ct_i (cc := cX1_addFirst) (maxL := 4) (by decide) rfl (Nat.le_of_ble_eq_true rfl) ?_
  intro p e s m args below meth c A Q H locs ls hx hb hml hown hin hts hK hN hP hD hS hA hl hret
  replace hl : lv_has ls 4 [(0, .ref (a)), (1, .int (iI k))] := hl
  replace hown : s.vm.findClass RX1 = some m.cls := hown
  refine r_const hx hb dX1_addFirst_0 ?_
  refine lv_istore_n (lv' := [(2, .int (iI 0)), (0, .ref (a)), (1, .int (iI k))]) hx hb dX1_addFirst_1 rfl hl (by decide) rfl (fun ls hl => ?_)
  refine r_const hx hb dX1_addFirst_2 ?_
  refine lv_istore_n (lv' := [(3, .int (iI 0)), (2, .int (iI 0)), (0, .ref (a)), (1, .int (iI k))]) hx hb dX1_addFirst_3 rfl hl (by decide) rfl (fun ls hl => ?_)
  have lp_4 : ∀ (fu : Nat) (g : Int) (i : Int), (0 ≤ i ∧ i ≤ k) → (g = sumTo F i.toNat) → (k - i).toNat < fu → ∀ (H : Heap) (locs : List Loc), va_P D vwCl [ai (cy 0) a n F] H → va_D A [ai (cy 0) a n F] → va_S A s.heap H locs → ∀ (ls : Array Slot), lv_has ls 4 [(0, .ref (a)), (1, .int (iI k)), (2, .int (iI g)), (3, .int (iI i))] → W p l e rm_X1_addFirst s m args below meth c H locs 0 0 Q (F0 m 4 ls []) := by
    intro fu
    induction fu with
    | zero =>
      intro g i h1 h2 hm
      exact absurd hm (Nat.not_lt_zero _)
    | succ fu ih_4 =>
      intro g i h1 h2 hm H locs hP hD hS ls hl
      refine lv_iload_n hx hb dX1_addFirst_4 rfl (lv_at hl 3 rfl) ?_
      refine lv_iload_n hx hb dX1_addFirst_5 rfl (lv_at hl 1 rfl) ?_
      refine r_ge hx hb 21 dX1_addFirst_6 (by decide) ⟨by omega, by omega⟩ ⟨by omega, by omega⟩ (fun c_6 => ?_) (fun c_6 => ?_)
      ·
        refine lv_iload_n hx hb dX1_addFirst_21 rfl (lv_at hl 2 rfl) ?_
        exact hret [0] () dX1_addFirst_22 hP hD hS (by decide) rfl (by rw [h2, show i = k by omega])
      ·
        refine lv_iload_n hx hb dX1_addFirst_9 rfl (lv_at hl 2 rfl) ?_
        refine lv_aload_n hx hb dX1_addFirst_10 rfl (lv_at hl 0 rfl) ?_
        refine lv_iload_n hx hb dX1_addFirst_11 rfl (lv_at hl 3 rfl) ?_
        refine r_ald hx hb hK hP 0 rfl rfl ⟨by omega, by omega, by omega⟩ dX1_addFirst_12 ?_
        have b_12 := hF i
        refine r_add hx hb dX1_addFirst_13 ?_
        refine lv_istore_n (lv' := [(2, .int (iI (g + (F i)))), (0, .ref (a)), (1, .int (iI k)), (3, .int (iI i))]) hx hb dX1_addFirst_14 rfl hl (by decide) rfl (fun ls hl => ?_)
        refine r_inc (k := 3) (lv' := [(3, .int (iI (i + 1))), (2, .int (iI (g + (F i)))), (0, .ref (a)), (1, .int (iI k))]) hx hb dX1_addFirst_15 hl rfl (by decide) rfl (fun ls hl => ?_)
        refine lv_goto (tgt := 4) hx hb dX1_addFirst_18 (by decide) ?_
        exact ih_4 (g + (F i)) (i + 1) (by omega) (by rw [sumTo_s h1.1, h2]) (by omega) H locs (pick_P hP (is := [0]) rfl) (hD.sub [0] (by decide) rfl) hS ls (lv_sub hl [2, 3, 1, 0] rfl)
  exact lp_4 _ 0 0 (by omega) (rfl) (Nat.lt_succ_self _) H locs (pick_P hP (is := [0]) rfl) (hD.sub [0] (by decide) rfl) hS ls (lv_sub hl [2, 3, 1, 0] rfl)
abbrev rm_X1_countMisread : Room := { frames := 1, cells := 0, slots := 0, locals := 23 }
theorem fl_X1_countMisread_18 : Cond.fieldLink RX1 18 "WalkPasses$Desk" "misreads" "[I" ∈ wsX1_countMisread := by decide +kernel
theorem fl_X1_countMisread_43 : Cond.fieldLink RX1 43 "WalkPasses$Desk" "letters" "I" ∈ wsX1_countMisread := by decide +kernel
theorem iw_X1_countMisread_1 : ∀ w ∈ u_ws RX1 TX1 10, w ∈ wsX1_countMisread := by decide +kernel
set_option maxHeartbeats 4000000 in
set_option maxRecDepth 100000 in
theorem k_X1_countMisread (l : Launch) (D : va_G) (cy : Nat → ClassId) (d : Nat → Nat) (z : Nat) (lt mn vs : Int) (pt tk mr od pl rm cd : Int → Int) (hI : DI lt mn pt tk mr od pl rm cd) : CtI l yX1_countMisread wsX1_countMisread rm_X1_countMisread D (tyL cy) [.ref (d 0)] [oD d lt mn vs, ai (cy 0) (d 1) 24 pt, ai (cy 0) (d 2) 24 tk, ai (cy 0) (d 3) 24 mr, ai (cy 0) (d 4) 10 od, ai (cy 0) (d 5) 10 pl, ai (cy 0) (d 6) 4 rm, ai (cy 0) (d 7) 10 cd] z (fun (r : Int) (u : Unit) => r = sumTo mr lt.toNat) (fun (u : Unit) => [oD d lt mn vs, ai (cy 0) (d 1) 24 pt, ai (cy 0) (d 2) 24 tk, ai (cy 0) (d 3) 24 mr, ai (cy 0) (d 4) 10 od, ai (cy 0) (d 5) 10 pl, ai (cy 0) (d 6) 4 rm, ai (cy 0) (d 7) 10 cd]) 0 0 := by
  refine ct_i (cc := cX1_countMisread) (maxL := 1) (by decide) rfl (Nat.le_of_ble_eq_true rfl) ?_
  intro p e s m args below meth c A Q H locs ls hx hb hml hown hin hts hK hN hP hD hS hA hl hret
  replace hl : lv_has ls 1 [(0, .ref (d 0))] := hl
  replace hown : s.vm.findClass RX1 = some m.cls := hown
  obtain ⟨⟨⟨hlt0, hlt1⟩, hmn0, hmn1⟩, ⟨hpt, htk, hmr⟩, ⟨hod, hpl, hpo, hop⟩, hrm, hcd⟩ := id hI
  refine lv_aload_n hx hb dX1_countMisread_0 rfl (lv_at hl 0 rfl) ?_
  refine va_get (D := D) (C := RX1) (T := TX1) (N := 10) (ci := 1) (v := .ref (d 3)) hx hb hts iw_X1_countMisread_1 hown hK hP 0 rfl rfl 3 (by decide) (hts _ fl_X1_countMisread_18) (fun _ h9 => h9) rfl dX1_countMisread_1 ?_
  refine lv_aload_n hx hb dX1_countMisread_4 rfl (lv_at hl 0 rfl) ?_
  refine va_get (D := D) (C := RX1) (T := TX1) (N := 10) (ci := 1) (v := .int (iI lt)) hx hb hts iw_X1_countMisread_1 hown hK hP 0 rfl rfl 0 (by decide) (hts _ fl_X1_countMisread_43) (fun _ h9 => h9) rfl dX1_countMisread_5 ?_
  have M_8 := k_X1_addFirst l D cy (d 3) H.size 24 mr lt (by omega) (fun j => by have := hmr j; omega)
  refine kS_i (wr := [oD d lt mn vs, ai (cy 0) (d 1) 24 pt, ai (cy 0) (d 2) 24 tk, ai (cy 0) (d 4) 10 od, ai (cy 0) (d 5) 10 pl, ai (cy 0) (d 6) 4 rm, ai (cy 0) (d 7) 10 cd]) (As := [.ref (d 3), .int (iI lt)]) (rest := []) ⟨hx, hb, hml, hown, hts⟩ M_8 (va_cwS 2 hts gX1_countMisread_X1_addFirst rfl rfl rfl (by decide +kernel) ⟨Nat.le_of_ble_eq_true rfl, Nat.le_of_ble_eq_true rfl⟩) hN hK hP hD hS hA [3] [0, 1, 2, 4, 5, 6, 7] rfl rfl (by decide) (by decide) (by decide) rfl hl.1 rfl (Nat.le_of_ble_eq_true rfl) dX1_countMisread_8 ⟨Nat.le_of_ble_eq_true rfl, Nat.le_of_ble_eq_true rfl⟩ (fun r_8 u_8 H locs hw_8 hP hD hS => ?_)
  replace hP : va_P D vwCl [oD d lt mn vs, ai (cy 0) (d 1) 24 pt, ai (cy 0) (d 2) 24 tk, ai (cy 0) (d 4) 10 od, ai (cy 0) (d 5) 10 pl, ai (cy 0) (d 6) 4 rm, ai (cy 0) (d 7) 10 cd, ai (cy 0) (d 3) 24 mr] H := hP
  replace hD : va_D A [oD d lt mn vs, ai (cy 0) (d 1) 24 pt, ai (cy 0) (d 2) 24 tk, ai (cy 0) (d 4) 10 od, ai (cy 0) (d 5) 10 pl, ai (cy 0) (d 6) 4 rm, ai (cy 0) (d 7) 10 cd, ai (cy 0) (d 3) 24 mr] := hD
  exact hret [0, 1, 2, 7, 3, 4, 5, 6] () dX1_countMisread_11 hP hD hS (by decide) rfl (hw_8)
abbrev rm_X1_addThicks : Room := { frames := 1, cells := 0, slots := 0, locals := 23 }
theorem fl_X1_addThicks_15 : Cond.fieldLink RX1 15 "WalkPasses$Desk" "thicks" "[I" ∈ wsX1_addThicks := by decide +kernel
theorem fl_X1_addThicks_43 : Cond.fieldLink RX1 43 "WalkPasses$Desk" "letters" "I" ∈ wsX1_addThicks := by decide +kernel
theorem iw_X1_addThicks_1 : ∀ w ∈ u_ws RX1 TX1 10, w ∈ wsX1_addThicks := by decide +kernel
set_option maxHeartbeats 4000000 in
set_option maxRecDepth 100000 in
theorem k_X1_addThicks (l : Launch) (D : va_G) (cy : Nat → ClassId) (d : Nat → Nat) (z : Nat) (lt mn vs : Int) (pt tk mr od pl rm cd : Int → Int) (hI : DI lt mn pt tk mr od pl rm cd) : CtI l yX1_addThicks wsX1_addThicks rm_X1_addThicks D (tyL cy) [.ref (d 0)] [oD d lt mn vs, ai (cy 0) (d 1) 24 pt, ai (cy 0) (d 2) 24 tk, ai (cy 0) (d 3) 24 mr, ai (cy 0) (d 4) 10 od, ai (cy 0) (d 5) 10 pl, ai (cy 0) (d 6) 4 rm, ai (cy 0) (d 7) 10 cd] z (fun (r : Int) (u : Unit) => r = sumTo tk lt.toNat) (fun (u : Unit) => [oD d lt mn vs, ai (cy 0) (d 1) 24 pt, ai (cy 0) (d 2) 24 tk, ai (cy 0) (d 3) 24 mr, ai (cy 0) (d 4) 10 od, ai (cy 0) (d 5) 10 pl, ai (cy 0) (d 6) 4 rm, ai (cy 0) (d 7) 10 cd]) 0 0 := by
  refine ct_i (cc := cX1_addThicks) (maxL := 1) (by decide) rfl (Nat.le_of_ble_eq_true rfl) ?_
  intro p e s m args below meth c A Q H locs ls hx hb hml hown hin hts hK hN hP hD hS hA hl hret
  replace hl : lv_has ls 1 [(0, .ref (d 0))] := hl
  replace hown : s.vm.findClass RX1 = some m.cls := hown
  obtain ⟨⟨⟨hlt0, hlt1⟩, hmn0, hmn1⟩, ⟨hpt, htk, hmr⟩, ⟨hod, hpl, hpo, hop⟩, hrm, hcd⟩ := id hI
  refine lv_aload_n hx hb dX1_addThicks_0 rfl (lv_at hl 0 rfl) ?_
  refine va_get (D := D) (C := RX1) (T := TX1) (N := 10) (ci := 1) (v := .ref (d 2)) hx hb hts iw_X1_addThicks_1 hown hK hP 0 rfl rfl 2 (by decide) (hts _ fl_X1_addThicks_15) (fun _ h9 => h9) rfl dX1_addThicks_1 ?_
  refine lv_aload_n hx hb dX1_addThicks_4 rfl (lv_at hl 0 rfl) ?_
  refine va_get (D := D) (C := RX1) (T := TX1) (N := 10) (ci := 1) (v := .int (iI lt)) hx hb hts iw_X1_addThicks_1 hown hK hP 0 rfl rfl 0 (by decide) (hts _ fl_X1_addThicks_43) (fun _ h9 => h9) rfl dX1_addThicks_5 ?_
  have M_8 := k_X1_addFirst l D cy (d 2) H.size 24 tk lt (by omega) (fun j => by have := htk j; omega)
  refine kS_i (wr := [oD d lt mn vs, ai (cy 0) (d 1) 24 pt, ai (cy 0) (d 3) 24 mr, ai (cy 0) (d 4) 10 od, ai (cy 0) (d 5) 10 pl, ai (cy 0) (d 6) 4 rm, ai (cy 0) (d 7) 10 cd]) (As := [.ref (d 2), .int (iI lt)]) (rest := []) ⟨hx, hb, hml, hown, hts⟩ M_8 (va_cwS 2 hts gX1_addThicks_X1_addFirst rfl rfl rfl (by decide +kernel) ⟨Nat.le_of_ble_eq_true rfl, Nat.le_of_ble_eq_true rfl⟩) hN hK hP hD hS hA [2] [0, 1, 3, 4, 5, 6, 7] rfl rfl (by decide) (by decide) (by decide) rfl hl.1 rfl (Nat.le_of_ble_eq_true rfl) dX1_addThicks_8 ⟨Nat.le_of_ble_eq_true rfl, Nat.le_of_ble_eq_true rfl⟩ (fun r_8 u_8 H locs hw_8 hP hD hS => ?_)
  replace hP : va_P D vwCl [oD d lt mn vs, ai (cy 0) (d 1) 24 pt, ai (cy 0) (d 3) 24 mr, ai (cy 0) (d 4) 10 od, ai (cy 0) (d 5) 10 pl, ai (cy 0) (d 6) 4 rm, ai (cy 0) (d 7) 10 cd, ai (cy 0) (d 2) 24 tk] H := hP
  replace hD : va_D A [oD d lt mn vs, ai (cy 0) (d 1) 24 pt, ai (cy 0) (d 3) 24 mr, ai (cy 0) (d 4) 10 od, ai (cy 0) (d 5) 10 pl, ai (cy 0) (d 6) 4 rm, ai (cy 0) (d 7) 10 cd, ai (cy 0) (d 2) 24 tk] := hD
  exact hret [0, 1, 7, 2, 3, 4, 5, 6] () dX1_addThicks_11 hP hD hS (by decide) rfl (hw_8)
abbrev rm_X1_addRooms : Room := { frames := 1, cells := 0, slots := 0, locals := 23 }
theorem fl_X1_addRooms_27 : Cond.fieldLink RX1 27 "WalkPasses$Desk" "many" "I" ∈ wsX1_addRooms := by decide +kernel
theorem fl_X1_addRooms_31 : Cond.fieldLink RX1 31 "WalkPasses$Desk" "rooms" "[I" ∈ wsX1_addRooms := by decide +kernel
theorem iw_X1_addRooms_1 : ∀ w ∈ u_ws RX1 TX1 10, w ∈ wsX1_addRooms := by decide +kernel
set_option maxHeartbeats 4000000 in
set_option maxRecDepth 100000 in
theorem k_X1_addRooms (l : Launch) (D : va_G) (cy : Nat → ClassId) (d : Nat → Nat) (z : Nat) (lt mn vs : Int) (pt tk mr od pl rm cd : Int → Int) (hI : DI lt mn pt tk mr od pl rm cd) : CtI l yX1_addRooms wsX1_addRooms rm_X1_addRooms D (tyL cy) [.ref (d 0)] [oD d lt mn vs, ai (cy 0) (d 1) 24 pt, ai (cy 0) (d 2) 24 tk, ai (cy 0) (d 3) 24 mr, ai (cy 0) (d 4) 10 od, ai (cy 0) (d 5) 10 pl, ai (cy 0) (d 6) 4 rm, ai (cy 0) (d 7) 10 cd] z (fun (r : Int) (u : Unit) => r = sumTo rm mn.toNat) (fun (u : Unit) => [oD d lt mn vs, ai (cy 0) (d 1) 24 pt, ai (cy 0) (d 2) 24 tk, ai (cy 0) (d 3) 24 mr, ai (cy 0) (d 4) 10 od, ai (cy 0) (d 5) 10 pl, ai (cy 0) (d 6) 4 rm, ai (cy 0) (d 7) 10 cd]) 0 0 := by
  refine ct_i (cc := cX1_addRooms) (maxL := 1) (by decide) rfl (Nat.le_of_ble_eq_true rfl) ?_
  intro p e s m args below meth c A Q H locs ls hx hb hml hown hin hts hK hN hP hD hS hA hl hret
  replace hl : lv_has ls 1 [(0, .ref (d 0))] := hl
  replace hown : s.vm.findClass RX1 = some m.cls := hown
  obtain ⟨⟨⟨hlt0, hlt1⟩, hmn0, hmn1⟩, ⟨hpt, htk, hmr⟩, ⟨hod, hpl, hpo, hop⟩, hrm, hcd⟩ := id hI
  refine lv_aload_n hx hb dX1_addRooms_0 rfl (lv_at hl 0 rfl) ?_
  refine va_get (D := D) (C := RX1) (T := TX1) (N := 10) (ci := 1) (v := .ref (d 6)) hx hb hts iw_X1_addRooms_1 hown hK hP 0 rfl rfl 7 (by decide) (hts _ fl_X1_addRooms_31) (fun _ h9 => h9) rfl dX1_addRooms_1 ?_
  refine lv_aload_n hx hb dX1_addRooms_4 rfl (lv_at hl 0 rfl) ?_
  refine va_get (D := D) (C := RX1) (T := TX1) (N := 10) (ci := 1) (v := .int (iI mn)) hx hb hts iw_X1_addRooms_1 hown hK hP 0 rfl rfl 6 (by decide) (hts _ fl_X1_addRooms_27) (fun _ h9 => h9) rfl dX1_addRooms_5 ?_
  have M_8 := k_X1_addFirst l D cy (d 6) H.size 4 rm mn (by omega) (fun j => by have := hrm j; omega)
  refine kS_i (wr := [oD d lt mn vs, ai (cy 0) (d 1) 24 pt, ai (cy 0) (d 2) 24 tk, ai (cy 0) (d 3) 24 mr, ai (cy 0) (d 4) 10 od, ai (cy 0) (d 5) 10 pl, ai (cy 0) (d 7) 10 cd]) (As := [.ref (d 6), .int (iI mn)]) (rest := []) ⟨hx, hb, hml, hown, hts⟩ M_8 (va_cwS 2 hts gX1_addRooms_X1_addFirst rfl rfl rfl (by decide +kernel) ⟨Nat.le_of_ble_eq_true rfl, Nat.le_of_ble_eq_true rfl⟩) hN hK hP hD hS hA [6] [0, 1, 2, 3, 4, 5, 7] rfl rfl (by decide) (by decide) (by decide) rfl hl.1 rfl (Nat.le_of_ble_eq_true rfl) dX1_addRooms_8 ⟨Nat.le_of_ble_eq_true rfl, Nat.le_of_ble_eq_true rfl⟩ (fun r_8 u_8 H locs hw_8 hP hD hS => ?_)
  replace hP : va_P D vwCl [oD d lt mn vs, ai (cy 0) (d 1) 24 pt, ai (cy 0) (d 2) 24 tk, ai (cy 0) (d 3) 24 mr, ai (cy 0) (d 4) 10 od, ai (cy 0) (d 5) 10 pl, ai (cy 0) (d 7) 10 cd, ai (cy 0) (d 6) 4 rm] H := hP
  replace hD : va_D A [oD d lt mn vs, ai (cy 0) (d 1) 24 pt, ai (cy 0) (d 2) 24 tk, ai (cy 0) (d 3) 24 mr, ai (cy 0) (d 4) 10 od, ai (cy 0) (d 5) 10 pl, ai (cy 0) (d 7) 10 cd, ai (cy 0) (d 6) 4 rm] := hD
  exact hret [0, 1, 2, 3, 4, 5, 7, 6] () dX1_addRooms_11 hP hD hS (by decide) rfl (hw_8)
abbrev rm_X1_hasLetterAt : Room := { frames := 0, cells := 0, slots := 0, locals := 0 }
theorem fl_X1_hasLetterAt_9 : Cond.fieldLink RX1 9 "WalkPasses$Desk" "points" "[I" ∈ wsX1_hasLetterAt := by decide +kernel
theorem fl_X1_hasLetterAt_43 : Cond.fieldLink RX1 43 "WalkPasses$Desk" "letters" "I" ∈ wsX1_hasLetterAt := by decide +kernel
theorem iw_X1_hasLetterAt_1 : ∀ w ∈ u_ws RX1 TX1 10, w ∈ wsX1_hasLetterAt := by decide +kernel
set_option maxHeartbeats 4000000 in
set_option maxRecDepth 100000 in
theorem k_X1_hasLetterAt (l : Launch) (D : va_G) (cy : Nat → ClassId) (d : Nat → Nat) (z : Nat) (lt mn vs : Int) (pt tk mr od pl rm cd : Int → Int) (q : Int) (hL : (0 ≤ lt ∧ lt ≤ 24) ∧ ∀ j, 0 ≤ pt j ∧ pt j ≤ 9) (hq : inR q) : CtI l yX1_hasLetterAt wsX1_hasLetterAt rm_X1_hasLetterAt D (tyL cy) [.ref (d 0), .int (iI q)] [oD d lt mn vs, ai (cy 0) (d 1) 24 pt, ai (cy 0) (d 2) 24 tk, ai (cy 0) (d 3) 24 mr, ai (cy 0) (d 4) 10 od, ai (cy 0) (d 5) 10 pl, ai (cy 0) (d 6) 4 rm, ai (cy 0) (d 7) 10 cd] z (fun (r : Int) (u : Unit) => r = hasI pt lt q) (fun (u : Unit) => [oD d lt mn vs, ai (cy 0) (d 1) 24 pt, ai (cy 0) (d 2) 24 tk, ai (cy 0) (d 3) 24 mr, ai (cy 0) (d 4) 10 od, ai (cy 0) (d 5) 10 pl, ai (cy 0) (d 6) 4 rm, ai (cy 0) (d 7) 10 cd]) 0 0 := by
  refine ct_z (cc := cX1_hasLetterAt) (maxL := 3) (by decide) rfl (Nat.le_of_ble_eq_true rfl) ?_
  intro p e s m args below meth c A Q H locs ls hx hb hml hown hin hts hK hN hP hD hS hA hl hret
  replace hl : lv_has ls 3 [(0, .ref (d 0)), (1, .int (iI q))] := hl
  replace hown : s.vm.findClass RX1 = some m.cls := hown
  obtain ⟨⟨hlt0, hlt1⟩, hpt⟩ := id hL
  refine r_const hx hb dX1_hasLetterAt_0 ?_
  refine lv_istore_n (lv' := [(2, .int (iI 0)), (0, .ref (d 0)), (1, .int (iI q))]) hx hb dX1_hasLetterAt_1 rfl hl (by decide) rfl (fun ls hl => ?_)
  have lp_2 : ∀ (fu : Nat) (i : Int), (0 ≤ i ∧ i ≤ lt) → (hasB pt q i.toNat = false) → (lt - i).toNat < fu → ∀ (H : Heap) (locs : List Loc), va_P D vwCl [oD d lt mn vs, ai (cy 0) (d 1) 24 pt, ai (cy 0) (d 2) 24 tk, ai (cy 0) (d 3) 24 mr, ai (cy 0) (d 4) 10 od, ai (cy 0) (d 5) 10 pl, ai (cy 0) (d 6) 4 rm, ai (cy 0) (d 7) 10 cd] H → va_D A [oD d lt mn vs, ai (cy 0) (d 1) 24 pt, ai (cy 0) (d 2) 24 tk, ai (cy 0) (d 3) 24 mr, ai (cy 0) (d 4) 10 od, ai (cy 0) (d 5) 10 pl, ai (cy 0) (d 6) 4 rm, ai (cy 0) (d 7) 10 cd] → va_S A s.heap H locs → ∀ (ls : Array Slot), lv_has ls 3 [(0, .ref (d 0)), (1, .int (iI q)), (2, .int (iI i))] → W p l e rm_X1_hasLetterAt s m args below meth c H locs 0 0 Q (F0 m 2 ls []) := by
    intro fu
    induction fu with
    | zero =>
      intro i h1 h2 hm
      exact absurd hm (Nat.not_lt_zero _)
    | succ fu ih_2 =>
      intro i h1 h2 hm H locs hP hD hS ls hl
      refine lv_iload_n hx hb dX1_hasLetterAt_2 rfl (lv_at hl 2 rfl) ?_
      refine lv_aload_n hx hb dX1_hasLetterAt_3 rfl (lv_at hl 0 rfl) ?_
      refine va_get (D := D) (C := RX1) (T := TX1) (N := 10) (ci := 1) (v := .int (iI lt)) hx hb hts iw_X1_hasLetterAt_1 hown hK hP 0 rfl rfl 0 (by decide) (hts _ fl_X1_hasLetterAt_43) (fun _ h9 => h9) rfl dX1_hasLetterAt_4 ?_
      refine r_ge hx hb 28 dX1_hasLetterAt_7 (by decide) ⟨by omega, by omega⟩ ⟨by omega, by omega⟩ (fun c_7 => ?_) (fun c_7 => ?_)
      ·
        refine r_const hx hb dX1_hasLetterAt_28 ?_
        exact hret [0, 1, 2, 3, 4, 5, 6, 7] () dX1_hasLetterAt_29 hP hD hS (by decide) rfl (by omega) (by unfold hasI; rw [show lt = i by omega, h2]; rfl)
      ·
        refine lv_aload_n hx hb dX1_hasLetterAt_10 rfl (lv_at hl 0 rfl) ?_
        refine va_get (D := D) (C := RX1) (T := TX1) (N := 10) (ci := 1) (v := .ref (d 1)) hx hb hts iw_X1_hasLetterAt_1 hown hK hP 0 rfl rfl 1 (by decide) (hts _ fl_X1_hasLetterAt_9) (fun _ h9 => h9) rfl dX1_hasLetterAt_11 ?_
        refine lv_iload_n hx hb dX1_hasLetterAt_14 rfl (lv_at hl 2 rfl) ?_
        refine r_ald hx hb hK hP 1 rfl rfl ⟨by omega, by omega, by omega⟩ dX1_hasLetterAt_15 ?_
        have b_15 := hpt i
        refine lv_iload_n hx hb dX1_hasLetterAt_16 rfl (lv_at hl 1 rfl) ?_
        refine r_ne hx hb 22 dX1_hasLetterAt_17 (by decide) ⟨by omega, by omega⟩ ⟨by omega, by omega⟩ (fun c_17 => ?_) (fun c_17 => ?_)
        ·
          refine r_inc (k := 2) (lv' := [(2, .int (iI (i + 1))), (0, .ref (d 0)), (1, .int (iI q))]) hx hb dX1_hasLetterAt_22 hl rfl (by decide) rfl (fun ls hl => ?_)
          refine lv_goto (tgt := 2) hx hb dX1_hasLetterAt_25 (by decide) ?_
          exact ih_2 (i + 1) (by omega) (by rw [hasB_s h1.1, h2]; simp [c_17]) (by omega) H locs (pick_P hP (is := [0, 1, 2, 3, 4, 5, 6, 7]) rfl) (hD.sub [0, 1, 2, 3, 4, 5, 6, 7] (by decide) rfl) hS ls (lv_sub hl [1, 2, 0] rfl)
        ·
          refine r_const hx hb dX1_hasLetterAt_20 ?_
          exact hret [0, 1, 2, 3, 4, 5, 6, 7] () dX1_hasLetterAt_21 hP hD hS (by decide) rfl (by omega) (by unfold hasI; rw [if_pos (hasB_iff.mpr ⟨i, h1.1, by omega, c_17⟩)])
  exact lp_2 _ 0 (by omega) (rfl) (Nat.lt_succ_self _) H locs (pick_P hP (is := [0, 1, 2, 3, 4, 5, 6, 7]) rfl) (hD.sub [0, 1, 2, 3, 4, 5, 6, 7] (by decide) rfl) hS ls (lv_sub hl [1, 2, 0] rfl)
abbrev rm_X1_countPoints : Room := { frames := 1, cells := 0, slots := 0, locals := 22 }
set_option maxHeartbeats 4000000 in
set_option maxRecDepth 100000 in
theorem k_X1_countPoints (l : Launch) (D : va_G) (cy : Nat → ClassId) (d : Nat → Nat) (z : Nat) (lt mn vs : Int) (pt tk mr od pl rm cd : Int → Int) (hL : (0 ≤ lt ∧ lt ≤ 24) ∧ ∀ j, 0 ≤ pt j ∧ pt j ≤ 9) : CtI l yX1_countPoints wsX1_countPoints rm_X1_countPoints D (tyL cy) [.ref (d 0)] [oD d lt mn vs, ai (cy 0) (d 1) 24 pt, ai (cy 0) (d 2) 24 tk, ai (cy 0) (d 3) 24 mr, ai (cy 0) (d 4) 10 od, ai (cy 0) (d 5) 10 pl, ai (cy 0) (d 6) 4 rm, ai (cy 0) (d 7) 10 cd] z (fun (r : Int) (u : Unit) => r = sumTo (hasI pt lt) 10) (fun (u : Unit) => [oD d lt mn vs, ai (cy 0) (d 1) 24 pt, ai (cy 0) (d 2) 24 tk, ai (cy 0) (d 3) 24 mr, ai (cy 0) (d 4) 10 od, ai (cy 0) (d 5) 10 pl, ai (cy 0) (d 6) 4 rm, ai (cy 0) (d 7) 10 cd]) 0 0 := by
  refine ct_i (cc := cX1_countPoints) (maxL := 3) (by decide) rfl (Nat.le_of_ble_eq_true rfl) ?_
  intro p e s m args below meth c A Q H locs ls hx hb hml hown hin hts hK hN hP hD hS hA hl hret
  replace hl : lv_has ls 3 [(0, .ref (d 0))] := hl
  replace hown : s.vm.findClass RX1 = some m.cls := hown
  obtain ⟨⟨hlt0, hlt1⟩, hpt⟩ := id hL
  refine r_const hx hb dX1_countPoints_0 ?_
  refine lv_istore_n (lv' := [(1, .int (iI 0)), (0, .ref (d 0))]) hx hb dX1_countPoints_1 rfl hl (by decide) rfl (fun ls hl => ?_)
  refine r_const hx hb dX1_countPoints_2 ?_
  refine lv_istore_n (lv' := [(2, .int (iI 0)), (1, .int (iI 0)), (0, .ref (d 0))]) hx hb dX1_countPoints_3 rfl hl (by decide) rfl (fun ls hl => ?_)
  have lp_4 : ∀ (fu : Nat) (g : Int) (i : Int), (0 ≤ i ∧ i ≤ 10) → (g = sumTo (hasI pt lt) i.toNat) → (10 - i).toNat < fu → ∀ (H : Heap) (locs : List Loc), va_P D vwCl [oD d lt mn vs, ai (cy 0) (d 1) 24 pt, ai (cy 0) (d 2) 24 tk, ai (cy 0) (d 3) 24 mr, ai (cy 0) (d 4) 10 od, ai (cy 0) (d 5) 10 pl, ai (cy 0) (d 6) 4 rm, ai (cy 0) (d 7) 10 cd] H → va_D A [oD d lt mn vs, ai (cy 0) (d 1) 24 pt, ai (cy 0) (d 2) 24 tk, ai (cy 0) (d 3) 24 mr, ai (cy 0) (d 4) 10 od, ai (cy 0) (d 5) 10 pl, ai (cy 0) (d 6) 4 rm, ai (cy 0) (d 7) 10 cd] → va_S A s.heap H locs → ∀ (ls : Array Slot), lv_has ls 3 [(0, .ref (d 0)), (1, .int (iI g)), (2, .int (iI i))] → W p l e rm_X1_countPoints s m args below meth c H locs 0 0 Q (F0 m 4 ls []) := by
    intro fu
    induction fu with
    | zero =>
      intro g i h1 h2 hm
      exact absurd hm (Nat.not_lt_zero _)
    | succ fu ih_4 =>
      intro g i h1 h2 hm H locs hP hD hS ls hl
      refine lv_iload_n hx hb dX1_countPoints_4 rfl (lv_at hl 2 rfl) ?_
      refine r_bip hx hb (10) dX1_countPoints_5 (by decide) ?_
      refine r_ge hx hb 27 dX1_countPoints_7 (by decide) ⟨by omega, by omega⟩ ⟨by omega, by omega⟩ (fun c_7 => ?_) (fun c_7 => ?_)
      ·
        refine lv_iload_n hx hb dX1_countPoints_27 rfl (lv_at hl 1 rfl) ?_
        exact hret [0, 1, 2, 3, 4, 5, 6, 7] () dX1_countPoints_28 hP hD hS (by decide) rfl (by rw [h2, show i = 10 by omega]; rfl)
      ·
        refine lv_aload_n hx hb dX1_countPoints_10 rfl (lv_at hl 0 rfl) ?_
        refine lv_iload_n hx hb dX1_countPoints_11 rfl (lv_at hl 2 rfl) ?_
        have M_12 := k_X1_hasLetterAt l D cy d H.size lt mn vs pt tk mr od pl rm cd i (⟨⟨hlt0, hlt1⟩, hpt⟩) (⟨by omega, by omega⟩)
        refine kV_i (wr := []) (As := [.int (iI i)]) (rest := []) (q := (RX1, TX1, 10)) (ci := 1) ⟨hx, hb, hml, hown, hts⟩ M_12 0 rfl rfl (cwV 1 hts gX1_countPoints_X1_hasLetterAt rfl rfl rfl (by decide +kernel) ⟨Nat.le_of_ble_eq_true rfl, Nat.le_of_ble_eq_true rfl⟩) hN hK hP hD hS hA [0, 1, 2, 3, 4, 5, 6, 7] [] rfl rfl (by decide) (by decide) (by decide) rfl hl.1 rfl (Nat.le_of_ble_eq_true rfl) dX1_countPoints_12 ⟨Nat.le_of_ble_eq_true rfl, Nat.le_of_ble_eq_true rfl⟩ (fun r_12 u_12 H locs hw_12 hP hD hS => ?_)
        replace hP : va_P D vwCl [oD d lt mn vs, ai (cy 0) (d 1) 24 pt, ai (cy 0) (d 2) 24 tk, ai (cy 0) (d 3) 24 mr, ai (cy 0) (d 4) 10 od, ai (cy 0) (d 5) 10 pl, ai (cy 0) (d 6) 4 rm, ai (cy 0) (d 7) 10 cd] H := hP
        replace hD : va_D A [oD d lt mn vs, ai (cy 0) (d 1) 24 pt, ai (cy 0) (d 2) 24 tk, ai (cy 0) (d 3) 24 mr, ai (cy 0) (d 4) 10 od, ai (cy 0) (d 5) 10 pl, ai (cy 0) (d 6) 4 rm, ai (cy 0) (d 7) 10 cd] := hD
        have hb1 := hasI_b pt lt i
        refine r_eq0 hx hb 21 dX1_countPoints_15 (by decide) ⟨by omega, by omega⟩ (fun c_15 => ?_) (fun c_15 => ?_)
        ·
          refine r_inc (k := 2) (lv' := [(2, .int (iI (i + 1))), (0, .ref (d 0)), (1, .int (iI g))]) hx hb dX1_countPoints_21 hl rfl (by decide) rfl (fun ls hl => ?_)
          refine lv_goto (tgt := 4) hx hb dX1_countPoints_24 (by decide) ?_
          exact ih_4 g (i + 1) (by omega) (by rw [sumTo_s h1.1, h2]; omega) (by omega) H locs (pick_P hP (is := [0, 1, 2, 3, 4, 5, 6, 7]) rfl) (hD.sub [0, 1, 2, 3, 4, 5, 6, 7] (by decide) rfl) hS ls (lv_sub hl [1, 2, 0] rfl)
        ·
          refine r_inc (k := 1) (lv' := [(1, .int (iI (g + 1))), (0, .ref (d 0)), (2, .int (iI i))]) hx hb dX1_countPoints_18 hl rfl (by decide) rfl (fun ls hl => ?_)
          refine r_inc (k := 2) (lv' := [(2, .int (iI (i + 1))), (1, .int (iI (g + 1))), (0, .ref (d 0))]) hx hb dX1_countPoints_21 hl rfl (by decide) rfl (fun ls hl => ?_)
          refine lv_goto (tgt := 4) hx hb dX1_countPoints_24 (by decide) ?_
          exact ih_4 (g + 1) (i + 1) (by omega) (by rw [sumTo_s h1.1, h2]; omega) (by omega) H locs (pick_P hP (is := [0, 1, 2, 3, 4, 5, 6, 7]) rfl) (hD.sub [0, 1, 2, 3, 4, 5, 6, 7] (by decide) rfl) hS ls (lv_sub hl [2, 1, 0] rfl)
  exact lp_4 _ 0 0 (by omega) (rfl) (Nat.lt_succ_self _) H locs (pick_P hP (is := [0, 1, 2, 3, 4, 5, 6, 7]) rfl) (hD.sub [0, 1, 2, 3, 4, 5, 6, 7] (by decide) rfl) hS ls (lv_sub hl [2, 1, 0] rfl)
abbrev rm_X1_add : Room := { frames := 0, cells := 0, slots := 0, locals := 0 }
theorem fl_X1_add_9 : Cond.fieldLink RX1 9 "WalkPasses$Desk" "points" "[I" ∈ wsX1_add := by decide +kernel
theorem fl_X1_add_15 : Cond.fieldLink RX1 15 "WalkPasses$Desk" "thicks" "[I" ∈ wsX1_add := by decide +kernel
theorem fl_X1_add_18 : Cond.fieldLink RX1 18 "WalkPasses$Desk" "misreads" "[I" ∈ wsX1_add := by decide +kernel
theorem fl_X1_add_43 : Cond.fieldLink RX1 43 "WalkPasses$Desk" "letters" "I" ∈ wsX1_add := by decide +kernel
theorem fl_X1_add_46 : Cond.fieldLink RX1 46 "WalkPasses$Desk" "version" "I" ∈ wsX1_add := by decide +kernel
theorem iw_X1_add_1 : ∀ w ∈ u_ws RX1 TX1 10, w ∈ wsX1_add := by decide +kernel
set_option maxHeartbeats 4000000 in
set_option maxRecDepth 100000 in
theorem k_X1_add (l : Launch) (D : va_G) (cy : Nat → ClassId) (d : Nat → Nat) (z : Nat) (lt mn vs : Int) (pt tk mr od pl rm cd : Int → Int) (q t : Int) (hI : DI lt mn pt tk mr od pl rm cd) (hl : lt < 24) : CtI l yX1_add wsX1_add rm_X1_add D (tyL cy) [.ref (d 0), .int (iI q), .int (iI t)] [oD d lt mn vs, ai (cy 0) (d 1) 24 pt, ai (cy 0) (d 2) 24 tk, ai (cy 0) (d 3) 24 mr, ai (cy 0) (d 4) 10 od, ai (cy 0) (d 5) 10 pl, ai (cy 0) (d 6) 4 rm, ai (cy 0) (d 7) 10 cd] z (fun (r : Int) (u : Unit) => r = lt) (fun (u : Unit) => [oD d (lt + 1) mn (vs + 1), ai (cy 0) (d 1) 24 (ud pt lt q), ai (cy 0) (d 2) 24 (ud tk lt t), ai (cy 0) (d 3) 24 (ud mr lt 0), ai (cy 0) (d 4) 10 od, ai (cy 0) (d 5) 10 pl, ai (cy 0) (d 6) 4 rm, ai (cy 0) (d 7) 10 cd]) 0 0 := by
  refine ct_i (cc := cX1_add) (maxL := 4) (by decide) rfl (Nat.le_of_ble_eq_true rfl) ?_
  intro p e s m args below meth c A Q H locs ls hx hb hml hown hin hts hK hN hP hD hS hA hl hret
  replace hl : lv_has ls 4 [(0, .ref (d 0)), (1, .int (iI q)), (2, .int (iI t))] := hl
  replace hown : s.vm.findClass RX1 = some m.cls := hown
  obtain ⟨⟨⟨hlt0, hlt1⟩, hmn0, hmn1⟩, ⟨hpt, htk, hmr⟩, ⟨hod, hpl, hpo, hop⟩, hrm, hcd⟩ := id hI
  refine lv_aload_n hx hb dX1_add_0 rfl (lv_at hl 0 rfl) ?_
  refine va_get (D := D) (C := RX1) (T := TX1) (N := 10) (ci := 1) (v := .int (iI lt)) hx hb hts iw_X1_add_1 hown hK hP 0 rfl rfl 0 (by decide) (hts _ fl_X1_add_43) (fun _ h9 => h9) rfl dX1_add_1 ?_
  refine lv_istore_n (lv' := [(3, .int (iI lt)), (0, .ref (d 0)), (1, .int (iI q)), (2, .int (iI t))]) hx hb dX1_add_4 rfl hl (by decide) rfl (fun ls hl => ?_)
  refine lv_aload_n hx hb dX1_add_5 rfl (lv_at hl 1 rfl) ?_
  refine va_get (D := D) (C := RX1) (T := TX1) (N := 10) (ci := 1) (v := .ref (d 1)) hx hb hts iw_X1_add_1 hown hK hP 0 rfl rfl 1 (by decide) (hts _ fl_X1_add_9) (fun _ h9 => h9) rfl dX1_add_6 ?_
  refine lv_iload_n hx hb dX1_add_9 rfl (lv_at hl 0 rfl) ?_
  refine lv_iload_n hx hb dX1_add_10 rfl (lv_at hl 2 rfl) ?_
  refine r_ast hx hb hK hP hD hS 1 rfl rfl ⟨by omega, by omega, by omega⟩ dX1_add_11 (fun H locs hP hD hS => ?_)
  replace hP : va_P D vwCl [oD d lt mn vs, ai (cy 0) (d 1) 24 (ud pt lt q), ai (cy 0) (d 2) 24 tk, ai (cy 0) (d 3) 24 mr, ai (cy 0) (d 4) 10 od, ai (cy 0) (d 5) 10 pl, ai (cy 0) (d 6) 4 rm, ai (cy 0) (d 7) 10 cd] H := hP
  replace hD : va_D A [oD d lt mn vs, ai (cy 0) (d 1) 24 (ud pt lt q), ai (cy 0) (d 2) 24 tk, ai (cy 0) (d 3) 24 mr, ai (cy 0) (d 4) 10 od, ai (cy 0) (d 5) 10 pl, ai (cy 0) (d 6) 4 rm, ai (cy 0) (d 7) 10 cd] := hD
  refine lv_aload_n hx hb dX1_add_12 rfl (lv_at hl 1 rfl) ?_
  refine va_get (D := D) (C := RX1) (T := TX1) (N := 10) (ci := 1) (v := .ref (d 2)) hx hb hts iw_X1_add_1 hown hK hP 0 rfl rfl 2 (by decide) (hts _ fl_X1_add_15) (fun _ h9 => h9) rfl dX1_add_13 ?_
  refine lv_iload_n hx hb dX1_add_16 rfl (lv_at hl 0 rfl) ?_
  refine lv_iload_n hx hb dX1_add_17 rfl (lv_at hl 3 rfl) ?_
  refine r_ast hx hb hK hP hD hS 2 rfl rfl ⟨by omega, by omega, by omega⟩ dX1_add_18 (fun H locs hP hD hS => ?_)
  replace hP : va_P D vwCl [oD d lt mn vs, ai (cy 0) (d 1) 24 (ud pt lt q), ai (cy 0) (d 2) 24 (ud tk lt t), ai (cy 0) (d 3) 24 mr, ai (cy 0) (d 4) 10 od, ai (cy 0) (d 5) 10 pl, ai (cy 0) (d 6) 4 rm, ai (cy 0) (d 7) 10 cd] H := hP
  replace hD : va_D A [oD d lt mn vs, ai (cy 0) (d 1) 24 (ud pt lt q), ai (cy 0) (d 2) 24 (ud tk lt t), ai (cy 0) (d 3) 24 mr, ai (cy 0) (d 4) 10 od, ai (cy 0) (d 5) 10 pl, ai (cy 0) (d 6) 4 rm, ai (cy 0) (d 7) 10 cd] := hD
  refine lv_aload_n hx hb dX1_add_19 rfl (lv_at hl 1 rfl) ?_
  refine va_get (D := D) (C := RX1) (T := TX1) (N := 10) (ci := 1) (v := .ref (d 3)) hx hb hts iw_X1_add_1 hown hK hP 0 rfl rfl 3 (by decide) (hts _ fl_X1_add_18) (fun _ h9 => h9) rfl dX1_add_20 ?_
  refine lv_iload_n hx hb dX1_add_23 rfl (lv_at hl 0 rfl) ?_
  refine r_const hx hb dX1_add_24 ?_
  refine r_ast hx hb hK hP hD hS 3 rfl rfl ⟨by omega, by omega, by omega⟩ dX1_add_25 (fun H locs hP hD hS => ?_)
  replace hP : va_P D vwCl [oD d lt mn vs, ai (cy 0) (d 1) 24 (ud pt lt q), ai (cy 0) (d 2) 24 (ud tk lt t), ai (cy 0) (d 3) 24 (ud mr lt 0), ai (cy 0) (d 4) 10 od, ai (cy 0) (d 5) 10 pl, ai (cy 0) (d 6) 4 rm, ai (cy 0) (d 7) 10 cd] H := hP
  replace hD : va_D A [oD d lt mn vs, ai (cy 0) (d 1) 24 (ud pt lt q), ai (cy 0) (d 2) 24 (ud tk lt t), ai (cy 0) (d 3) 24 (ud mr lt 0), ai (cy 0) (d 4) 10 od, ai (cy 0) (d 5) 10 pl, ai (cy 0) (d 6) 4 rm, ai (cy 0) (d 7) 10 cd] := hD
  refine lv_aload_n hx hb dX1_add_26 rfl (lv_at hl 1 rfl) ?_
  refine lv_dup hx hb dX1_add_27 rfl ?_
  refine va_get (D := D) (C := RX1) (T := TX1) (N := 10) (ci := 1) (v := .int (iI lt)) hx hb hts iw_X1_add_1 hown hK hP 0 rfl rfl 0 (by decide) (hts _ fl_X1_add_43) (fun _ h9 => h9) rfl dX1_add_28 ?_
  refine r_const hx hb dX1_add_31 ?_
  refine r_add hx hb dX1_add_32 ?_
  refine va_put (D := D) (C := RX1) (T := TX1) (N := 10) (ci := 1) (v := .int (iI (lt + 1))) (ty := .int) hx hb hts iw_X1_add_1 tyX1 tyX1_ok nmX1 hown hK hP hD hS 0 rfl rfl 0 (by decide) (hts _ fl_X1_add_43) (fun _ h9 => h9) rfl (by decide +kernel) rfl rfl (Nat.le_of_ble_eq_true rfl) dX1_add_33 (fun H locs hP hD hS => ?_)
  replace hP : va_P D vwCl [oD d (lt + 1) mn vs, ai (cy 0) (d 1) 24 (ud pt lt q), ai (cy 0) (d 2) 24 (ud tk lt t), ai (cy 0) (d 3) 24 (ud mr lt 0), ai (cy 0) (d 4) 10 od, ai (cy 0) (d 5) 10 pl, ai (cy 0) (d 6) 4 rm, ai (cy 0) (d 7) 10 cd] H := hP
  replace hD : va_D A [oD d (lt + 1) mn vs, ai (cy 0) (d 1) 24 (ud pt lt q), ai (cy 0) (d 2) 24 (ud tk lt t), ai (cy 0) (d 3) 24 (ud mr lt 0), ai (cy 0) (d 4) 10 od, ai (cy 0) (d 5) 10 pl, ai (cy 0) (d 6) 4 rm, ai (cy 0) (d 7) 10 cd] := hD
  refine lv_aload_n hx hb dX1_add_36 rfl (lv_at hl 1 rfl) ?_
  refine lv_dup hx hb dX1_add_37 rfl ?_
  refine va_get (D := D) (C := RX1) (T := TX1) (N := 10) (ci := 1) (v := .int (iI vs)) hx hb hts iw_X1_add_1 hown hK hP 0 rfl rfl 9 (by decide) (hts _ fl_X1_add_46) (fun _ h9 => h9) rfl dX1_add_38 ?_
  refine r_const hx hb dX1_add_41 ?_
  refine r_add hx hb dX1_add_42 ?_
  refine va_put (D := D) (C := RX1) (T := TX1) (N := 10) (ci := 1) (v := .int (iI (vs + 1))) (ty := .int) hx hb hts iw_X1_add_1 tyX1 tyX1_ok nmX1 hown hK hP hD hS 0 rfl rfl 9 (by decide) (hts _ fl_X1_add_46) (fun _ h9 => h9) rfl (by decide +kernel) rfl rfl (Nat.le_of_ble_eq_true rfl) dX1_add_43 (fun H locs hP hD hS => ?_)
  replace hP : va_P D vwCl [oD d (lt + 1) mn (vs + 1), ai (cy 0) (d 1) 24 (ud pt lt q), ai (cy 0) (d 2) 24 (ud tk lt t), ai (cy 0) (d 3) 24 (ud mr lt 0), ai (cy 0) (d 4) 10 od, ai (cy 0) (d 5) 10 pl, ai (cy 0) (d 6) 4 rm, ai (cy 0) (d 7) 10 cd] H := hP
  replace hD : va_D A [oD d (lt + 1) mn (vs + 1), ai (cy 0) (d 1) 24 (ud pt lt q), ai (cy 0) (d 2) 24 (ud tk lt t), ai (cy 0) (d 3) 24 (ud mr lt 0), ai (cy 0) (d 4) 10 od, ai (cy 0) (d 5) 10 pl, ai (cy 0) (d 6) 4 rm, ai (cy 0) (d 7) 10 cd] := hD
  refine lv_iload_n hx hb dX1_add_46 rfl (lv_at hl 0 rfl) ?_
  exact hret [0, 1, 2, 3, 4, 5, 6, 7] () dX1_add_47 hP hD hS (by decide) rfl (rfl)
abbrev rm_X1_mark : Room := { frames := 0, cells := 0, slots := 0, locals := 0 }
theorem fl_X1_mark_18 : Cond.fieldLink RX1 18 "WalkPasses$Desk" "misreads" "[I" ∈ wsX1_mark := by decide +kernel
theorem fl_X1_mark_46 : Cond.fieldLink RX1 46 "WalkPasses$Desk" "version" "I" ∈ wsX1_mark := by decide +kernel
theorem iw_X1_mark_1 : ∀ w ∈ u_ws RX1 TX1 10, w ∈ wsX1_mark := by decide +kernel
set_option maxHeartbeats 4000000 in
set_option maxRecDepth 100000 in
theorem k_X1_mark (l : Launch) (D : va_G) (cy : Nat → ClassId) (d : Nat → Nat) (z : Nat) (lt mn vs : Int) (pt tk mr od pl rm cd : Int → Int) (i v : Int) (hI : DI lt mn pt tk mr od pl rm cd) (hi : 0 ≤ i ∧ i < lt) : CtV l yX1_mark wsX1_mark rm_X1_mark D (tyL cy) [.ref (d 0), .int (iI i), .int (iI v)] [oD d lt mn vs, ai (cy 0) (d 1) 24 pt, ai (cy 0) (d 2) 24 tk, ai (cy 0) (d 3) 24 mr, ai (cy 0) (d 4) 10 od, ai (cy 0) (d 5) 10 pl, ai (cy 0) (d 6) 4 rm, ai (cy 0) (d 7) 10 cd] z (fun (u : Unit) => True) (fun (u : Unit) => [oD d lt mn (vs + 1), ai (cy 0) (d 1) 24 pt, ai (cy 0) (d 2) 24 tk, ai (cy 0) (d 3) 24 (ud mr i v), ai (cy 0) (d 4) 10 od, ai (cy 0) (d 5) 10 pl, ai (cy 0) (d 6) 4 rm, ai (cy 0) (d 7) 10 cd]) 0 0 := by
  refine ct_v (cc := cX1_mark) (maxL := 3) (by decide) rfl (Nat.le_of_ble_eq_true rfl) ?_
  intro p e s m args below meth c A Q H locs ls hx hb hml hown hin hts hK hN hP hD hS hA hl hret
  replace hl : lv_has ls 3 [(0, .ref (d 0)), (1, .int (iI i)), (2, .int (iI v))] := hl
  replace hown : s.vm.findClass RX1 = some m.cls := hown
  obtain ⟨⟨⟨hlt0, hlt1⟩, hmn0, hmn1⟩, ⟨hpt, htk, hmr⟩, ⟨hod, hpl, hpo, hop⟩, hrm, hcd⟩ := id hI
  refine lv_aload_n hx hb dX1_mark_0 rfl (lv_at hl 0 rfl) ?_
  refine va_get (D := D) (C := RX1) (T := TX1) (N := 10) (ci := 1) (v := .ref (d 3)) hx hb hts iw_X1_mark_1 hown hK hP 0 rfl rfl 3 (by decide) (hts _ fl_X1_mark_18) (fun _ h9 => h9) rfl dX1_mark_1 ?_
  refine lv_iload_n hx hb dX1_mark_4 rfl (lv_at hl 1 rfl) ?_
  refine lv_iload_n hx hb dX1_mark_5 rfl (lv_at hl 2 rfl) ?_
  refine r_ast hx hb hK hP hD hS 3 rfl rfl ⟨by omega, by omega, by omega⟩ dX1_mark_6 (fun H locs hP hD hS => ?_)
  replace hP : va_P D vwCl [oD d lt mn vs, ai (cy 0) (d 1) 24 pt, ai (cy 0) (d 2) 24 tk, ai (cy 0) (d 3) 24 (ud mr i v), ai (cy 0) (d 4) 10 od, ai (cy 0) (d 5) 10 pl, ai (cy 0) (d 6) 4 rm, ai (cy 0) (d 7) 10 cd] H := hP
  replace hD : va_D A [oD d lt mn vs, ai (cy 0) (d 1) 24 pt, ai (cy 0) (d 2) 24 tk, ai (cy 0) (d 3) 24 (ud mr i v), ai (cy 0) (d 4) 10 od, ai (cy 0) (d 5) 10 pl, ai (cy 0) (d 6) 4 rm, ai (cy 0) (d 7) 10 cd] := hD
  refine lv_aload_n hx hb dX1_mark_7 rfl (lv_at hl 0 rfl) ?_
  refine lv_dup hx hb dX1_mark_8 rfl ?_
  refine va_get (D := D) (C := RX1) (T := TX1) (N := 10) (ci := 1) (v := .int (iI vs)) hx hb hts iw_X1_mark_1 hown hK hP 0 rfl rfl 9 (by decide) (hts _ fl_X1_mark_46) (fun _ h9 => h9) rfl dX1_mark_9 ?_
  refine r_const hx hb dX1_mark_12 ?_
  refine r_add hx hb dX1_mark_13 ?_
  refine va_put (D := D) (C := RX1) (T := TX1) (N := 10) (ci := 1) (v := .int (iI (vs + 1))) (ty := .int) hx hb hts iw_X1_mark_1 tyX1 tyX1_ok nmX1 hown hK hP hD hS 0 rfl rfl 9 (by decide) (hts _ fl_X1_mark_46) (fun _ h9 => h9) rfl (by decide +kernel) rfl rfl (Nat.le_of_ble_eq_true rfl) dX1_mark_14 (fun H locs hP hD hS => ?_)
  replace hP : va_P D vwCl [oD d lt mn (vs + 1), ai (cy 0) (d 1) 24 pt, ai (cy 0) (d 2) 24 tk, ai (cy 0) (d 3) 24 (ud mr i v), ai (cy 0) (d 4) 10 od, ai (cy 0) (d 5) 10 pl, ai (cy 0) (d 6) 4 rm, ai (cy 0) (d 7) 10 cd] H := hP
  replace hD : va_D A [oD d lt mn (vs + 1), ai (cy 0) (d 1) 24 pt, ai (cy 0) (d 2) 24 tk, ai (cy 0) (d 3) 24 (ud mr i v), ai (cy 0) (d 4) 10 od, ai (cy 0) (d 5) 10 pl, ai (cy 0) (d 6) 4 rm, ai (cy 0) (d 7) 10 cd] := hD
  exact hret [0, 1, 2, 3, 4, 5, 6, 7] () dX1_mark_17 hP hD hS (by decide) rfl (by trivial)
abbrev rm_X1_setMany : Room := { frames := 0, cells := 0, slots := 0, locals := 0 }
theorem fl_X1_setMany_27 : Cond.fieldLink RX1 27 "WalkPasses$Desk" "many" "I" ∈ wsX1_setMany := by decide +kernel
theorem fl_X1_setMany_46 : Cond.fieldLink RX1 46 "WalkPasses$Desk" "version" "I" ∈ wsX1_setMany := by decide +kernel
theorem iw_X1_setMany_1 : ∀ w ∈ u_ws RX1 TX1 10, w ∈ wsX1_setMany := by decide +kernel
set_option maxHeartbeats 4000000 in
set_option maxRecDepth 100000 in
theorem k_X1_setMany (l : Launch) (D : va_G) (cy : Nat → ClassId) (d : Nat → Nat) (z : Nat) (lt mn vs : Int) (pt tk mr od pl rm cd : Int → Int) (v : Int) : CtV l yX1_setMany wsX1_setMany rm_X1_setMany D (tyL cy) [.ref (d 0), .int (iI v)] [oD d lt mn vs, ai (cy 0) (d 1) 24 pt, ai (cy 0) (d 2) 24 tk, ai (cy 0) (d 3) 24 mr, ai (cy 0) (d 4) 10 od, ai (cy 0) (d 5) 10 pl, ai (cy 0) (d 6) 4 rm, ai (cy 0) (d 7) 10 cd] z (fun (u : Unit) => True) (fun (u : Unit) => [oD d lt v (vs + 1), ai (cy 0) (d 1) 24 pt, ai (cy 0) (d 2) 24 tk, ai (cy 0) (d 3) 24 mr, ai (cy 0) (d 4) 10 od, ai (cy 0) (d 5) 10 pl, ai (cy 0) (d 6) 4 rm, ai (cy 0) (d 7) 10 cd]) 0 0 := by
  refine ct_v (cc := cX1_setMany) (maxL := 2) (by decide) rfl (Nat.le_of_ble_eq_true rfl) ?_
  intro p e s m args below meth c A Q H locs ls hx hb hml hown hin hts hK hN hP hD hS hA hl hret
  replace hl : lv_has ls 2 [(0, .ref (d 0)), (1, .int (iI v))] := hl
  replace hown : s.vm.findClass RX1 = some m.cls := hown
  refine lv_aload_n hx hb dX1_setMany_0 rfl (lv_at hl 0 rfl) ?_
  refine lv_iload_n hx hb dX1_setMany_1 rfl (lv_at hl 1 rfl) ?_
  refine va_put (D := D) (C := RX1) (T := TX1) (N := 10) (ci := 1) (v := .int (iI v)) (ty := .int) hx hb hts iw_X1_setMany_1 tyX1 tyX1_ok nmX1 hown hK hP hD hS 0 rfl rfl 6 (by decide) (hts _ fl_X1_setMany_27) (fun _ h9 => h9) rfl (by decide +kernel) rfl rfl (Nat.le_of_ble_eq_true rfl) dX1_setMany_2 (fun H locs hP hD hS => ?_)
  replace hP : va_P D vwCl [oD d lt v vs, ai (cy 0) (d 1) 24 pt, ai (cy 0) (d 2) 24 tk, ai (cy 0) (d 3) 24 mr, ai (cy 0) (d 4) 10 od, ai (cy 0) (d 5) 10 pl, ai (cy 0) (d 6) 4 rm, ai (cy 0) (d 7) 10 cd] H := hP
  replace hD : va_D A [oD d lt v vs, ai (cy 0) (d 1) 24 pt, ai (cy 0) (d 2) 24 tk, ai (cy 0) (d 3) 24 mr, ai (cy 0) (d 4) 10 od, ai (cy 0) (d 5) 10 pl, ai (cy 0) (d 6) 4 rm, ai (cy 0) (d 7) 10 cd] := hD
  refine lv_aload_n hx hb dX1_setMany_5 rfl (lv_at hl 0 rfl) ?_
  refine lv_dup hx hb dX1_setMany_6 rfl ?_
  refine va_get (D := D) (C := RX1) (T := TX1) (N := 10) (ci := 1) (v := .int (iI vs)) hx hb hts iw_X1_setMany_1 hown hK hP 0 rfl rfl 9 (by decide) (hts _ fl_X1_setMany_46) (fun _ h9 => h9) rfl dX1_setMany_7 ?_
  refine r_const hx hb dX1_setMany_10 ?_
  refine r_add hx hb dX1_setMany_11 ?_
  refine va_put (D := D) (C := RX1) (T := TX1) (N := 10) (ci := 1) (v := .int (iI (vs + 1))) (ty := .int) hx hb hts iw_X1_setMany_1 tyX1 tyX1_ok nmX1 hown hK hP hD hS 0 rfl rfl 9 (by decide) (hts _ fl_X1_setMany_46) (fun _ h9 => h9) rfl (by decide +kernel) rfl rfl (Nat.le_of_ble_eq_true rfl) dX1_setMany_12 (fun H locs hP hD hS => ?_)
  replace hP : va_P D vwCl [oD d lt v (vs + 1), ai (cy 0) (d 1) 24 pt, ai (cy 0) (d 2) 24 tk, ai (cy 0) (d 3) 24 mr, ai (cy 0) (d 4) 10 od, ai (cy 0) (d 5) 10 pl, ai (cy 0) (d 6) 4 rm, ai (cy 0) (d 7) 10 cd] H := hP
  replace hD : va_D A [oD d lt v (vs + 1), ai (cy 0) (d 1) 24 pt, ai (cy 0) (d 2) 24 tk, ai (cy 0) (d 3) 24 mr, ai (cy 0) (d 4) 10 od, ai (cy 0) (d 5) 10 pl, ai (cy 0) (d 6) 4 rm, ai (cy 0) (d 7) 10 cd] := hD
  exact hret [0, 1, 2, 3, 4, 5, 6, 7] () dX1_setMany_15 hP hD hS (by decide) rfl (by trivial)
abbrev rm_X1_setRoom : Room := { frames := 0, cells := 0, slots := 0, locals := 0 }
theorem fl_X1_setRoom_31 : Cond.fieldLink RX1 31 "WalkPasses$Desk" "rooms" "[I" ∈ wsX1_setRoom := by decide +kernel
theorem fl_X1_setRoom_46 : Cond.fieldLink RX1 46 "WalkPasses$Desk" "version" "I" ∈ wsX1_setRoom := by decide +kernel
theorem iw_X1_setRoom_1 : ∀ w ∈ u_ws RX1 TX1 10, w ∈ wsX1_setRoom := by decide +kernel
set_option maxHeartbeats 4000000 in
set_option maxRecDepth 100000 in
theorem k_X1_setRoom (l : Launch) (D : va_G) (cy : Nat → ClassId) (d : Nat → Nat) (z : Nat) (lt mn vs : Int) (pt tk mr od pl rm cd : Int → Int) (i v : Int) (hi : 0 ≤ i ∧ i < 4) : CtV l yX1_setRoom wsX1_setRoom rm_X1_setRoom D (tyL cy) [.ref (d 0), .int (iI i), .int (iI v)] [oD d lt mn vs, ai (cy 0) (d 1) 24 pt, ai (cy 0) (d 2) 24 tk, ai (cy 0) (d 3) 24 mr, ai (cy 0) (d 4) 10 od, ai (cy 0) (d 5) 10 pl, ai (cy 0) (d 6) 4 rm, ai (cy 0) (d 7) 10 cd] z (fun (u : Unit) => True) (fun (u : Unit) => [oD d lt mn (vs + 1), ai (cy 0) (d 1) 24 pt, ai (cy 0) (d 2) 24 tk, ai (cy 0) (d 3) 24 mr, ai (cy 0) (d 4) 10 od, ai (cy 0) (d 5) 10 pl, ai (cy 0) (d 6) 4 (ud rm i v), ai (cy 0) (d 7) 10 cd]) 0 0 := by
  refine ct_v (cc := cX1_setRoom) (maxL := 3) (by decide) rfl (Nat.le_of_ble_eq_true rfl) ?_
  intro p e s m args below meth c A Q H locs ls hx hb hml hown hin hts hK hN hP hD hS hA hl hret
  replace hl : lv_has ls 3 [(0, .ref (d 0)), (1, .int (iI i)), (2, .int (iI v))] := hl
  replace hown : s.vm.findClass RX1 = some m.cls := hown
  refine lv_aload_n hx hb dX1_setRoom_0 rfl (lv_at hl 0 rfl) ?_
  refine va_get (D := D) (C := RX1) (T := TX1) (N := 10) (ci := 1) (v := .ref (d 6)) hx hb hts iw_X1_setRoom_1 hown hK hP 0 rfl rfl 7 (by decide) (hts _ fl_X1_setRoom_31) (fun _ h9 => h9) rfl dX1_setRoom_1 ?_
  refine lv_iload_n hx hb dX1_setRoom_4 rfl (lv_at hl 1 rfl) ?_
  refine lv_iload_n hx hb dX1_setRoom_5 rfl (lv_at hl 2 rfl) ?_
  refine r_ast hx hb hK hP hD hS 6 rfl rfl ⟨by omega, by omega, by omega⟩ dX1_setRoom_6 (fun H locs hP hD hS => ?_)
  replace hP : va_P D vwCl [oD d lt mn vs, ai (cy 0) (d 1) 24 pt, ai (cy 0) (d 2) 24 tk, ai (cy 0) (d 3) 24 mr, ai (cy 0) (d 4) 10 od, ai (cy 0) (d 5) 10 pl, ai (cy 0) (d 6) 4 (ud rm i v), ai (cy 0) (d 7) 10 cd] H := hP
  replace hD : va_D A [oD d lt mn vs, ai (cy 0) (d 1) 24 pt, ai (cy 0) (d 2) 24 tk, ai (cy 0) (d 3) 24 mr, ai (cy 0) (d 4) 10 od, ai (cy 0) (d 5) 10 pl, ai (cy 0) (d 6) 4 (ud rm i v), ai (cy 0) (d 7) 10 cd] := hD
  refine lv_aload_n hx hb dX1_setRoom_7 rfl (lv_at hl 0 rfl) ?_
  refine lv_dup hx hb dX1_setRoom_8 rfl ?_
  refine va_get (D := D) (C := RX1) (T := TX1) (N := 10) (ci := 1) (v := .int (iI vs)) hx hb hts iw_X1_setRoom_1 hown hK hP 0 rfl rfl 9 (by decide) (hts _ fl_X1_setRoom_46) (fun _ h9 => h9) rfl dX1_setRoom_9 ?_
  refine r_const hx hb dX1_setRoom_12 ?_
  refine r_add hx hb dX1_setRoom_13 ?_
  refine va_put (D := D) (C := RX1) (T := TX1) (N := 10) (ci := 1) (v := .int (iI (vs + 1))) (ty := .int) hx hb hts iw_X1_setRoom_1 tyX1 tyX1_ok nmX1 hown hK hP hD hS 0 rfl rfl 9 (by decide) (hts _ fl_X1_setRoom_46) (fun _ h9 => h9) rfl (by decide +kernel) rfl rfl (Nat.le_of_ble_eq_true rfl) dX1_setRoom_14 (fun H locs hP hD hS => ?_)
  replace hP : va_P D vwCl [oD d lt mn (vs + 1), ai (cy 0) (d 1) 24 pt, ai (cy 0) (d 2) 24 tk, ai (cy 0) (d 3) 24 mr, ai (cy 0) (d 4) 10 od, ai (cy 0) (d 5) 10 pl, ai (cy 0) (d 6) 4 (ud rm i v), ai (cy 0) (d 7) 10 cd] H := hP
  replace hD : va_D A [oD d lt mn (vs + 1), ai (cy 0) (d 1) 24 pt, ai (cy 0) (d 2) 24 tk, ai (cy 0) (d 3) 24 mr, ai (cy 0) (d 4) 10 od, ai (cy 0) (d 5) 10 pl, ai (cy 0) (d 6) 4 (ud rm i v), ai (cy 0) (d 7) 10 cd] := hD
  exact hret [0, 1, 2, 3, 4, 5, 6, 7] () dX1_setRoom_17 hP hD hS (by decide) rfl (by trivial)
abbrev rm_X1_remove : Room := { frames := 0, cells := 0, slots := 0, locals := 0 }
theorem fl_X1_remove_9 : Cond.fieldLink RX1 9 "WalkPasses$Desk" "points" "[I" ∈ wsX1_remove := by decide +kernel
theorem fl_X1_remove_15 : Cond.fieldLink RX1 15 "WalkPasses$Desk" "thicks" "[I" ∈ wsX1_remove := by decide +kernel
theorem fl_X1_remove_18 : Cond.fieldLink RX1 18 "WalkPasses$Desk" "misreads" "[I" ∈ wsX1_remove := by decide +kernel
theorem fl_X1_remove_43 : Cond.fieldLink RX1 43 "WalkPasses$Desk" "letters" "I" ∈ wsX1_remove := by decide +kernel
theorem fl_X1_remove_46 : Cond.fieldLink RX1 46 "WalkPasses$Desk" "version" "I" ∈ wsX1_remove := by decide +kernel
theorem iw_X1_remove_1 : ∀ w ∈ u_ws RX1 TX1 10, w ∈ wsX1_remove := by decide +kernel
set_option maxHeartbeats 4000000 in
set_option maxRecDepth 100000 in
theorem k_X1_remove (l : Launch) (D : va_G) (cy : Nat → ClassId) (d : Nat → Nat) (z : Nat) (lt mn vs : Int) (pt tk mr od pl rm cd : Int → Int) (i : Int) (hI : DI lt mn pt tk mr od pl rm cd) (hi : 0 ≤ i ∧ i < lt) : CtV l yX1_remove wsX1_remove rm_X1_remove D (tyL cy) [.ref (d 0), .int (iI i)] [oD d lt mn vs, ai (cy 0) (d 1) 24 pt, ai (cy 0) (d 2) 24 tk, ai (cy 0) (d 3) 24 mr, ai (cy 0) (d 4) 10 od, ai (cy 0) (d 5) 10 pl, ai (cy 0) (d 6) 4 rm, ai (cy 0) (d 7) 10 cd] z (fun (u : Unit) => True) (fun (u : Unit) => [oD d (lt - 1) mn (vs + 1), ai (cy 0) (d 1) 24 (shf pt i (lt - 1)), ai (cy 0) (d 2) 24 (shf tk i (lt - 1)), ai (cy 0) (d 3) 24 (shf mr i (lt - 1)), ai (cy 0) (d 4) 10 od, ai (cy 0) (d 5) 10 pl, ai (cy 0) (d 6) 4 rm, ai (cy 0) (d 7) 10 cd]) 0 0 := by
  refine ct_v (cc := cX1_remove) (maxL := 3) (by decide) rfl (Nat.le_of_ble_eq_true rfl) ?_
  intro p e s m args below meth c A Q H locs ls hx hb hml hown hin hts hK hN hP hD hS hA hl hret
  replace hl : lv_has ls 3 [(0, .ref (d 0)), (1, .int (iI i))] := hl
  replace hown : s.vm.findClass RX1 = some m.cls := hown
  obtain ⟨⟨⟨hlt0, hlt1⟩, hmn0, hmn1⟩, ⟨hpt, htk, hmr⟩, ⟨hod, hpl, hpo, hop⟩, hrm, hcd⟩ := id hI
  refine lv_aload_n hx hb dX1_remove_0 rfl (lv_at hl 0 rfl) ?_
  refine lv_dup hx hb dX1_remove_1 rfl ?_
  refine va_get (D := D) (C := RX1) (T := TX1) (N := 10) (ci := 1) (v := .int (iI lt)) hx hb hts iw_X1_remove_1 hown hK hP 0 rfl rfl 0 (by decide) (hts _ fl_X1_remove_43) (fun _ h9 => h9) rfl dX1_remove_2 ?_
  refine r_const hx hb dX1_remove_5 ?_
  refine r_sub hx hb dX1_remove_6 ?_
  refine va_put (D := D) (C := RX1) (T := TX1) (N := 10) (ci := 1) (v := .int (iI (lt - 1))) (ty := .int) hx hb hts iw_X1_remove_1 tyX1 tyX1_ok nmX1 hown hK hP hD hS 0 rfl rfl 0 (by decide) (hts _ fl_X1_remove_43) (fun _ h9 => h9) rfl (by decide +kernel) rfl rfl (Nat.le_of_ble_eq_true rfl) dX1_remove_7 (fun H locs hP hD hS => ?_)
  replace hP : va_P D vwCl [oD d (lt - 1) mn vs, ai (cy 0) (d 1) 24 pt, ai (cy 0) (d 2) 24 tk, ai (cy 0) (d 3) 24 mr, ai (cy 0) (d 4) 10 od, ai (cy 0) (d 5) 10 pl, ai (cy 0) (d 6) 4 rm, ai (cy 0) (d 7) 10 cd] H := hP
  replace hD : va_D A [oD d (lt - 1) mn vs, ai (cy 0) (d 1) 24 pt, ai (cy 0) (d 2) 24 tk, ai (cy 0) (d 3) 24 mr, ai (cy 0) (d 4) 10 od, ai (cy 0) (d 5) 10 pl, ai (cy 0) (d 6) 4 rm, ai (cy 0) (d 7) 10 cd] := hD
  refine lv_iload_n hx hb dX1_remove_10 rfl (lv_at hl 1 rfl) ?_
  refine lv_istore_n (lv' := [(2, .int (iI i)), (0, .ref (d 0)), (1, .int (iI i))]) hx hb dX1_remove_11 rfl hl (by decide) rfl (fun ls hl => ?_)
  have lp_12 : ∀ (fu : Nat) (j : Int) (B1 : Int → Int) (B2 : Int → Int) (B3 : Int → Int), (i ≤ j ∧ j ≤ lt - 1) → (B1 = shf pt i j) → (B2 = shf tk i j) → (B3 = shf mr i j) → (lt - 1 - j).toNat < fu → ∀ (H : Heap) (locs : List Loc), va_P D vwCl [oD d (lt - 1) mn vs, ai (cy 0) (d 1) 24 B1, ai (cy 0) (d 2) 24 B2, ai (cy 0) (d 3) 24 B3, ai (cy 0) (d 4) 10 od, ai (cy 0) (d 5) 10 pl, ai (cy 0) (d 6) 4 rm, ai (cy 0) (d 7) 10 cd] H → va_D A [oD d (lt - 1) mn vs, ai (cy 0) (d 1) 24 B1, ai (cy 0) (d 2) 24 B2, ai (cy 0) (d 3) 24 B3, ai (cy 0) (d 4) 10 od, ai (cy 0) (d 5) 10 pl, ai (cy 0) (d 6) 4 rm, ai (cy 0) (d 7) 10 cd] → va_S A s.heap H locs → ∀ (ls : Array Slot), lv_has ls 3 [(0, .ref (d 0)), (1, .int (iI i)), (2, .int (iI j))] → W p l e rm_X1_remove s m args below meth c H locs 0 0 Q (F0 m 12 ls []) := by
    intro fu
    induction fu with
    | zero =>
      intro j B1 B2 B3 h1 e1 e2 e3 hm
      exact absurd hm (Nat.not_lt_zero _)
    | succ fu ih_12 =>
      intro j B1 B2 B3 h1 e1 e2 e3 hm H locs hP hD hS ls hl
      refine lv_iload_n hx hb dX1_remove_12 rfl (lv_at hl 2 rfl) ?_
      refine lv_aload_n hx hb dX1_remove_13 rfl (lv_at hl 0 rfl) ?_
      refine va_get (D := D) (C := RX1) (T := TX1) (N := 10) (ci := 1) (v := .int (iI (lt - 1))) hx hb hts iw_X1_remove_1 hown hK hP 0 rfl rfl 0 (by decide) (hts _ fl_X1_remove_43) (fun _ h9 => h9) rfl dX1_remove_14 ?_
      refine r_ge hx hb 68 dX1_remove_17 (by decide) ⟨by omega, by omega⟩ ⟨by omega, by omega⟩ (fun c_17 => ?_) (fun c_17 => ?_)
      ·
        refine lv_aload_n hx hb dX1_remove_68 rfl (lv_at hl 0 rfl) ?_
        refine lv_dup hx hb dX1_remove_69 rfl ?_
        refine va_get (D := D) (C := RX1) (T := TX1) (N := 10) (ci := 1) (v := .int (iI vs)) hx hb hts iw_X1_remove_1 hown hK hP 0 rfl rfl 9 (by decide) (hts _ fl_X1_remove_46) (fun _ h9 => h9) rfl dX1_remove_70 ?_
        refine r_const hx hb dX1_remove_73 ?_
        refine r_add hx hb dX1_remove_74 ?_
        refine va_put (D := D) (C := RX1) (T := TX1) (N := 10) (ci := 1) (v := .int (iI (vs + 1))) (ty := .int) hx hb hts iw_X1_remove_1 tyX1 tyX1_ok nmX1 hown hK hP hD hS 0 rfl rfl 9 (by decide) (hts _ fl_X1_remove_46) (fun _ h9 => h9) rfl (by decide +kernel) rfl rfl (Nat.le_of_ble_eq_true rfl) dX1_remove_75 (fun H locs hP hD hS => ?_)
        replace hP : va_P D vwCl [oD d (lt - 1) mn (vs + 1), ai (cy 0) (d 1) 24 B1, ai (cy 0) (d 2) 24 B2, ai (cy 0) (d 3) 24 B3, ai (cy 0) (d 4) 10 od, ai (cy 0) (d 5) 10 pl, ai (cy 0) (d 6) 4 rm, ai (cy 0) (d 7) 10 cd] H := hP
        replace hD : va_D A [oD d (lt - 1) mn (vs + 1), ai (cy 0) (d 1) 24 B1, ai (cy 0) (d 2) 24 B2, ai (cy 0) (d 3) 24 B3, ai (cy 0) (d 4) 10 od, ai (cy 0) (d 5) 10 pl, ai (cy 0) (d 6) 4 rm, ai (cy 0) (d 7) 10 cd] := hD
        obtain rfl : j = lt - 1 := by omega
        subst e1 e2 e3
        exact hret [0, 1, 2, 3, 4, 5, 6, 7] () dX1_remove_78 hP hD hS (by decide) rfl (by trivial)
      ·
        refine lv_aload_n hx hb dX1_remove_20 rfl (lv_at hl 0 rfl) ?_
        refine va_get (D := D) (C := RX1) (T := TX1) (N := 10) (ci := 1) (v := .ref (d 1)) hx hb hts iw_X1_remove_1 hown hK hP 0 rfl rfl 1 (by decide) (hts _ fl_X1_remove_9) (fun _ h9 => h9) rfl dX1_remove_21 ?_
        refine lv_iload_n hx hb dX1_remove_24 rfl (lv_at hl 2 rfl) ?_
        refine lv_aload_n hx hb dX1_remove_25 rfl (lv_at hl 0 rfl) ?_
        refine va_get (D := D) (C := RX1) (T := TX1) (N := 10) (ci := 1) (v := .ref (d 1)) hx hb hts iw_X1_remove_1 hown hK hP 0 rfl rfl 1 (by decide) (hts _ fl_X1_remove_9) (fun _ h9 => h9) rfl dX1_remove_26 ?_
        refine lv_iload_n hx hb dX1_remove_29 rfl (lv_at hl 2 rfl) ?_
        refine r_const hx hb dX1_remove_30 ?_
        refine r_add hx hb dX1_remove_31 ?_
        refine r_ald hx hb hK hP 1 rfl rfl ⟨by omega, by omega, by omega⟩ dX1_remove_32 ?_
        refine r_ast hx hb hK hP hD hS 1 rfl rfl ⟨by omega, by omega, by omega⟩ dX1_remove_33 (fun H locs hP hD hS => ?_)
        replace hP : va_P D vwCl [oD d (lt - 1) mn vs, ai (cy 0) (d 1) 24 (ud B1 j (B1 (j + 1))), ai (cy 0) (d 2) 24 B2, ai (cy 0) (d 3) 24 B3, ai (cy 0) (d 4) 10 od, ai (cy 0) (d 5) 10 pl, ai (cy 0) (d 6) 4 rm, ai (cy 0) (d 7) 10 cd] H := hP
        replace hD : va_D A [oD d (lt - 1) mn vs, ai (cy 0) (d 1) 24 (ud B1 j (B1 (j + 1))), ai (cy 0) (d 2) 24 B2, ai (cy 0) (d 3) 24 B3, ai (cy 0) (d 4) 10 od, ai (cy 0) (d 5) 10 pl, ai (cy 0) (d 6) 4 rm, ai (cy 0) (d 7) 10 cd] := hD
        refine lv_aload_n hx hb dX1_remove_34 rfl (lv_at hl 0 rfl) ?_
        refine va_get (D := D) (C := RX1) (T := TX1) (N := 10) (ci := 1) (v := .ref (d 2)) hx hb hts iw_X1_remove_1 hown hK hP 0 rfl rfl 2 (by decide) (hts _ fl_X1_remove_15) (fun _ h9 => h9) rfl dX1_remove_35 ?_
        refine lv_iload_n hx hb dX1_remove_38 rfl (lv_at hl 2 rfl) ?_
        refine lv_aload_n hx hb dX1_remove_39 rfl (lv_at hl 0 rfl) ?_
        refine va_get (D := D) (C := RX1) (T := TX1) (N := 10) (ci := 1) (v := .ref (d 2)) hx hb hts iw_X1_remove_1 hown hK hP 0 rfl rfl 2 (by decide) (hts _ fl_X1_remove_15) (fun _ h9 => h9) rfl dX1_remove_40 ?_
        refine lv_iload_n hx hb dX1_remove_43 rfl (lv_at hl 2 rfl) ?_
        refine r_const hx hb dX1_remove_44 ?_
        refine r_add hx hb dX1_remove_45 ?_
        refine r_ald hx hb hK hP 2 rfl rfl ⟨by omega, by omega, by omega⟩ dX1_remove_46 ?_
        refine r_ast hx hb hK hP hD hS 2 rfl rfl ⟨by omega, by omega, by omega⟩ dX1_remove_47 (fun H locs hP hD hS => ?_)
        replace hP : va_P D vwCl [oD d (lt - 1) mn vs, ai (cy 0) (d 1) 24 (ud B1 j (B1 (j + 1))), ai (cy 0) (d 2) 24 (ud B2 j (B2 (j + 1))), ai (cy 0) (d 3) 24 B3, ai (cy 0) (d 4) 10 od, ai (cy 0) (d 5) 10 pl, ai (cy 0) (d 6) 4 rm, ai (cy 0) (d 7) 10 cd] H := hP
        replace hD : va_D A [oD d (lt - 1) mn vs, ai (cy 0) (d 1) 24 (ud B1 j (B1 (j + 1))), ai (cy 0) (d 2) 24 (ud B2 j (B2 (j + 1))), ai (cy 0) (d 3) 24 B3, ai (cy 0) (d 4) 10 od, ai (cy 0) (d 5) 10 pl, ai (cy 0) (d 6) 4 rm, ai (cy 0) (d 7) 10 cd] := hD
        refine lv_aload_n hx hb dX1_remove_48 rfl (lv_at hl 0 rfl) ?_
        refine va_get (D := D) (C := RX1) (T := TX1) (N := 10) (ci := 1) (v := .ref (d 3)) hx hb hts iw_X1_remove_1 hown hK hP 0 rfl rfl 3 (by decide) (hts _ fl_X1_remove_18) (fun _ h9 => h9) rfl dX1_remove_49 ?_
        refine lv_iload_n hx hb dX1_remove_52 rfl (lv_at hl 2 rfl) ?_
        refine lv_aload_n hx hb dX1_remove_53 rfl (lv_at hl 0 rfl) ?_
        refine va_get (D := D) (C := RX1) (T := TX1) (N := 10) (ci := 1) (v := .ref (d 3)) hx hb hts iw_X1_remove_1 hown hK hP 0 rfl rfl 3 (by decide) (hts _ fl_X1_remove_18) (fun _ h9 => h9) rfl dX1_remove_54 ?_
        refine lv_iload_n hx hb dX1_remove_57 rfl (lv_at hl 2 rfl) ?_
        refine r_const hx hb dX1_remove_58 ?_
        refine r_add hx hb dX1_remove_59 ?_
        refine r_ald hx hb hK hP 3 rfl rfl ⟨by omega, by omega, by omega⟩ dX1_remove_60 ?_
        refine r_ast hx hb hK hP hD hS 3 rfl rfl ⟨by omega, by omega, by omega⟩ dX1_remove_61 (fun H locs hP hD hS => ?_)
        replace hP : va_P D vwCl [oD d (lt - 1) mn vs, ai (cy 0) (d 1) 24 (ud B1 j (B1 (j + 1))), ai (cy 0) (d 2) 24 (ud B2 j (B2 (j + 1))), ai (cy 0) (d 3) 24 (ud B3 j (B3 (j + 1))), ai (cy 0) (d 4) 10 od, ai (cy 0) (d 5) 10 pl, ai (cy 0) (d 6) 4 rm, ai (cy 0) (d 7) 10 cd] H := hP
        replace hD : va_D A [oD d (lt - 1) mn vs, ai (cy 0) (d 1) 24 (ud B1 j (B1 (j + 1))), ai (cy 0) (d 2) 24 (ud B2 j (B2 (j + 1))), ai (cy 0) (d 3) 24 (ud B3 j (B3 (j + 1))), ai (cy 0) (d 4) 10 od, ai (cy 0) (d 5) 10 pl, ai (cy 0) (d 6) 4 rm, ai (cy 0) (d 7) 10 cd] := hD
        refine r_inc (k := 2) (lv' := [(2, .int (iI (j + 1))), (0, .ref (d 0)), (1, .int (iI i))]) hx hb dX1_remove_62 hl rfl (by decide) rfl (fun ls hl => ?_)
        refine lv_goto (tgt := 12) hx hb dX1_remove_65 (by decide) ?_
        exact ih_12 (j + 1) (ud B1 j (B1 (j + 1))) (ud B2 j (B2 (j + 1))) (ud B3 j (B3 (j + 1))) (by omega) (by rw [e1, shf_at (F := pt) (a := i) (n := j) (j := j + 1) (by omega), shf_s h1.1]) (by rw [e2, shf_at (F := tk) (a := i) (n := j) (j := j + 1) (by omega), shf_s h1.1]) (by rw [e3, shf_at (F := mr) (a := i) (n := j) (j := j + 1) (by omega), shf_s h1.1]) (by omega) H locs (pick_P hP (is := [0, 1, 2, 3, 4, 5, 6, 7]) rfl) (hD.sub [0, 1, 2, 3, 4, 5, 6, 7] (by decide) rfl) hS ls (lv_sub hl [1, 2, 0] rfl)
  exact lp_12 _ i pt tk mr (by omega) ((shf_0 _ _).symm) ((shf_0 _ _).symm) ((shf_0 _ _).symm) (Nat.lt_succ_self _) H locs (pick_P hP (is := [0, 1, 2, 3, 4, 5, 6, 7]) rfl) (hD.sub [0, 1, 2, 3, 4, 5, 6, 7] (by decide) rfl) hS ls (lv_sub hl [1, 2, 0] rfl)
abbrev rm_X1_swap : Room := { frames := 0, cells := 0, slots := 0, locals := 0 }
theorem fl_X1_swap_21 : Cond.fieldLink RX1 21 "WalkPasses$Desk" "order" "[I" ∈ wsX1_swap := by decide +kernel
theorem fl_X1_swap_24 : Cond.fieldLink RX1 24 "WalkPasses$Desk" "places" "[I" ∈ wsX1_swap := by decide +kernel
theorem fl_X1_swap_46 : Cond.fieldLink RX1 46 "WalkPasses$Desk" "version" "I" ∈ wsX1_swap := by decide +kernel
theorem iw_X1_swap_1 : ∀ w ∈ u_ws RX1 TX1 10, w ∈ wsX1_swap := by decide +kernel
set_option maxHeartbeats 4000000 in
set_option maxRecDepth 100000 in
theorem k_X1_swap (l : Launch) (D : va_G) (cy : Nat → ClassId) (d : Nat → Nat) (z : Nat) (lt mn vs : Int) (pt tk mr od pl rm cd : Int → Int) (qa qb : Int) (hI : DI lt mn pt tk mr od pl rm cd) (ha : 0 ≤ qa ∧ qa ≤ 9) (hb9 : 0 ≤ qb ∧ qb ≤ 9) : CtV l yX1_swap wsX1_swap rm_X1_swap D (tyL cy) [.ref (d 0), .int (iI qa), .int (iI qb)] [oD d lt mn vs, ai (cy 0) (d 1) 24 pt, ai (cy 0) (d 2) 24 tk, ai (cy 0) (d 3) 24 mr, ai (cy 0) (d 4) 10 od, ai (cy 0) (d 5) 10 pl, ai (cy 0) (d 6) 4 rm, ai (cy 0) (d 7) 10 cd] z (fun (u : Unit) => True) (fun (u : Unit) => [oD d lt mn (vs + 1), ai (cy 0) (d 1) 24 pt, ai (cy 0) (d 2) 24 tk, ai (cy 0) (d 3) 24 mr, ai (cy 0) (d 4) 10 (ud (ud od ((ud (ud pl qa (pl qb)) qb (pl qa)) qa) qa) ((ud (ud pl qa (pl qb)) qb (pl qa)) qb) qb), ai (cy 0) (d 5) 10 (ud (ud pl qa (pl qb)) qb (pl qa)), ai (cy 0) (d 6) 4 rm, ai (cy 0) (d 7) 10 cd]) 0 0 := by
  refine ct_v (cc := cX1_swap) (maxL := 4) (by decide) rfl (Nat.le_of_ble_eq_true rfl) ?_
  intro p e s m args below meth c A Q H locs ls hx hb hml hown hin hts hK hN hP hD hS hA hl hret
  replace hl : lv_has ls 4 [(0, .ref (d 0)), (1, .int (iI qa)), (2, .int (iI qb))] := hl
  replace hown : s.vm.findClass RX1 = some m.cls := hown
  obtain ⟨⟨⟨hlt0, hlt1⟩, hmn0, hmn1⟩, ⟨hpt, htk, hmr⟩, ⟨hod, hpl, hpo, hop⟩, hrm, hcd⟩ := id hI
  have hq := ud_b (a := qb) (v := pl qa) (ud_b (a := qa) (v := pl qb) hpl (hpl qb).1 (hpl qb).2) (hpl qa).1 (hpl qa).2
  have hqa := hq qa
  have hqb := hq qb
  refine lv_aload_n hx hb dX1_swap_0 rfl (lv_at hl 0 rfl) ?_
  refine va_get (D := D) (C := RX1) (T := TX1) (N := 10) (ci := 1) (v := .ref (d 5)) hx hb hts iw_X1_swap_1 hown hK hP 0 rfl rfl 5 (by decide) (hts _ fl_X1_swap_24) (fun _ h9 => h9) rfl dX1_swap_1 ?_
  refine lv_iload_n hx hb dX1_swap_4 rfl (lv_at hl 1 rfl) ?_
  refine r_ald hx hb hK hP 5 rfl rfl ⟨by omega, by omega, by omega⟩ dX1_swap_5 ?_
  have b_5 := hpl qa
  refine lv_istore_n (lv' := [(3, .int (iI (pl qa))), (0, .ref (d 0)), (1, .int (iI qa)), (2, .int (iI qb))]) hx hb dX1_swap_6 rfl hl (by decide) rfl (fun ls hl => ?_)
  refine lv_aload_n hx hb dX1_swap_7 rfl (lv_at hl 1 rfl) ?_
  refine va_get (D := D) (C := RX1) (T := TX1) (N := 10) (ci := 1) (v := .ref (d 5)) hx hb hts iw_X1_swap_1 hown hK hP 0 rfl rfl 5 (by decide) (hts _ fl_X1_swap_24) (fun _ h9 => h9) rfl dX1_swap_8 ?_
  refine lv_iload_n hx hb dX1_swap_11 rfl (lv_at hl 2 rfl) ?_
  refine lv_aload_n hx hb dX1_swap_12 rfl (lv_at hl 1 rfl) ?_
  refine va_get (D := D) (C := RX1) (T := TX1) (N := 10) (ci := 1) (v := .ref (d 5)) hx hb hts iw_X1_swap_1 hown hK hP 0 rfl rfl 5 (by decide) (hts _ fl_X1_swap_24) (fun _ h9 => h9) rfl dX1_swap_13 ?_
  refine lv_iload_n hx hb dX1_swap_16 rfl (lv_at hl 3 rfl) ?_
  refine r_ald hx hb hK hP 5 rfl rfl ⟨by omega, by omega, by omega⟩ dX1_swap_17 ?_
  have b_17 := hpl qb
  refine r_ast hx hb hK hP hD hS 5 rfl rfl ⟨by omega, by omega, by omega⟩ dX1_swap_18 (fun H locs hP hD hS => ?_)
  replace hP : va_P D vwCl [oD d lt mn vs, ai (cy 0) (d 1) 24 pt, ai (cy 0) (d 2) 24 tk, ai (cy 0) (d 3) 24 mr, ai (cy 0) (d 4) 10 od, ai (cy 0) (d 5) 10 (ud pl qa (pl qb)), ai (cy 0) (d 6) 4 rm, ai (cy 0) (d 7) 10 cd] H := hP
  replace hD : va_D A [oD d lt mn vs, ai (cy 0) (d 1) 24 pt, ai (cy 0) (d 2) 24 tk, ai (cy 0) (d 3) 24 mr, ai (cy 0) (d 4) 10 od, ai (cy 0) (d 5) 10 (ud pl qa (pl qb)), ai (cy 0) (d 6) 4 rm, ai (cy 0) (d 7) 10 cd] := hD
  refine lv_aload_n hx hb dX1_swap_19 rfl (lv_at hl 1 rfl) ?_
  refine va_get (D := D) (C := RX1) (T := TX1) (N := 10) (ci := 1) (v := .ref (d 5)) hx hb hts iw_X1_swap_1 hown hK hP 0 rfl rfl 5 (by decide) (hts _ fl_X1_swap_24) (fun _ h9 => h9) rfl dX1_swap_20 ?_
  refine lv_iload_n hx hb dX1_swap_23 rfl (lv_at hl 3 rfl) ?_
  refine lv_iload_n hx hb dX1_swap_24 rfl (lv_at hl 0 rfl) ?_
  refine r_ast hx hb hK hP hD hS 5 rfl rfl ⟨by omega, by omega, by omega⟩ dX1_swap_25 (fun H locs hP hD hS => ?_)
  replace hP : va_P D vwCl [oD d lt mn vs, ai (cy 0) (d 1) 24 pt, ai (cy 0) (d 2) 24 tk, ai (cy 0) (d 3) 24 mr, ai (cy 0) (d 4) 10 od, ai (cy 0) (d 5) 10 (ud (ud pl qa (pl qb)) qb (pl qa)), ai (cy 0) (d 6) 4 rm, ai (cy 0) (d 7) 10 cd] H := hP
  replace hD : va_D A [oD d lt mn vs, ai (cy 0) (d 1) 24 pt, ai (cy 0) (d 2) 24 tk, ai (cy 0) (d 3) 24 mr, ai (cy 0) (d 4) 10 od, ai (cy 0) (d 5) 10 (ud (ud pl qa (pl qb)) qb (pl qa)), ai (cy 0) (d 6) 4 rm, ai (cy 0) (d 7) 10 cd] := hD
  refine lv_aload_n hx hb dX1_swap_26 rfl (lv_at hl 1 rfl) ?_
  refine va_get (D := D) (C := RX1) (T := TX1) (N := 10) (ci := 1) (v := .ref (d 4)) hx hb hts iw_X1_swap_1 hown hK hP 0 rfl rfl 4 (by decide) (hts _ fl_X1_swap_21) (fun _ h9 => h9) rfl dX1_swap_27 ?_
  refine lv_aload_n hx hb dX1_swap_30 rfl (lv_at hl 1 rfl) ?_
  refine va_get (D := D) (C := RX1) (T := TX1) (N := 10) (ci := 1) (v := .ref (d 5)) hx hb hts iw_X1_swap_1 hown hK hP 0 rfl rfl 5 (by decide) (hts _ fl_X1_swap_24) (fun _ h9 => h9) rfl dX1_swap_31 ?_
  refine lv_iload_n hx hb dX1_swap_34 rfl (lv_at hl 2 rfl) ?_
  refine r_ald hx hb hK hP 5 rfl rfl ⟨by omega, by omega, by omega⟩ dX1_swap_35 ?_
  refine lv_iload_n hx hb dX1_swap_36 rfl (lv_at hl 2 rfl) ?_
  refine r_ast hx hb hK hP hD hS 4 rfl rfl ⟨by omega, by omega, by omega⟩ dX1_swap_37 (fun H locs hP hD hS => ?_)
  replace hP : va_P D vwCl [oD d lt mn vs, ai (cy 0) (d 1) 24 pt, ai (cy 0) (d 2) 24 tk, ai (cy 0) (d 3) 24 mr, ai (cy 0) (d 4) 10 (ud od ((ud (ud pl qa (pl qb)) qb (pl qa)) qa) qa), ai (cy 0) (d 5) 10 (ud (ud pl qa (pl qb)) qb (pl qa)), ai (cy 0) (d 6) 4 rm, ai (cy 0) (d 7) 10 cd] H := hP
  replace hD : va_D A [oD d lt mn vs, ai (cy 0) (d 1) 24 pt, ai (cy 0) (d 2) 24 tk, ai (cy 0) (d 3) 24 mr, ai (cy 0) (d 4) 10 (ud od ((ud (ud pl qa (pl qb)) qb (pl qa)) qa) qa), ai (cy 0) (d 5) 10 (ud (ud pl qa (pl qb)) qb (pl qa)), ai (cy 0) (d 6) 4 rm, ai (cy 0) (d 7) 10 cd] := hD
  refine lv_aload_n hx hb dX1_swap_38 rfl (lv_at hl 1 rfl) ?_
  refine va_get (D := D) (C := RX1) (T := TX1) (N := 10) (ci := 1) (v := .ref (d 4)) hx hb hts iw_X1_swap_1 hown hK hP 0 rfl rfl 4 (by decide) (hts _ fl_X1_swap_21) (fun _ h9 => h9) rfl dX1_swap_39 ?_
  refine lv_aload_n hx hb dX1_swap_42 rfl (lv_at hl 1 rfl) ?_
  refine va_get (D := D) (C := RX1) (T := TX1) (N := 10) (ci := 1) (v := .ref (d 5)) hx hb hts iw_X1_swap_1 hown hK hP 0 rfl rfl 5 (by decide) (hts _ fl_X1_swap_24) (fun _ h9 => h9) rfl dX1_swap_43 ?_
  refine lv_iload_n hx hb dX1_swap_46 rfl (lv_at hl 3 rfl) ?_
  refine r_ald hx hb hK hP 5 rfl rfl ⟨by omega, by omega, by omega⟩ dX1_swap_47 ?_
  refine lv_iload_n hx hb dX1_swap_48 rfl (lv_at hl 3 rfl) ?_
  refine r_ast hx hb hK hP hD hS 4 rfl rfl ⟨by omega, by omega, by omega⟩ dX1_swap_49 (fun H locs hP hD hS => ?_)
  replace hP : va_P D vwCl [oD d lt mn vs, ai (cy 0) (d 1) 24 pt, ai (cy 0) (d 2) 24 tk, ai (cy 0) (d 3) 24 mr, ai (cy 0) (d 4) 10 (ud (ud od ((ud (ud pl qa (pl qb)) qb (pl qa)) qa) qa) ((ud (ud pl qa (pl qb)) qb (pl qa)) qb) qb), ai (cy 0) (d 5) 10 (ud (ud pl qa (pl qb)) qb (pl qa)), ai (cy 0) (d 6) 4 rm, ai (cy 0) (d 7) 10 cd] H := hP
  replace hD : va_D A [oD d lt mn vs, ai (cy 0) (d 1) 24 pt, ai (cy 0) (d 2) 24 tk, ai (cy 0) (d 3) 24 mr, ai (cy 0) (d 4) 10 (ud (ud od ((ud (ud pl qa (pl qb)) qb (pl qa)) qa) qa) ((ud (ud pl qa (pl qb)) qb (pl qa)) qb) qb), ai (cy 0) (d 5) 10 (ud (ud pl qa (pl qb)) qb (pl qa)), ai (cy 0) (d 6) 4 rm, ai (cy 0) (d 7) 10 cd] := hD
  refine lv_aload_n hx hb dX1_swap_50 rfl (lv_at hl 1 rfl) ?_
  refine lv_dup hx hb dX1_swap_51 rfl ?_
  refine va_get (D := D) (C := RX1) (T := TX1) (N := 10) (ci := 1) (v := .int (iI vs)) hx hb hts iw_X1_swap_1 hown hK hP 0 rfl rfl 9 (by decide) (hts _ fl_X1_swap_46) (fun _ h9 => h9) rfl dX1_swap_52 ?_
  refine r_const hx hb dX1_swap_55 ?_
  refine r_add hx hb dX1_swap_56 ?_
  refine va_put (D := D) (C := RX1) (T := TX1) (N := 10) (ci := 1) (v := .int (iI (vs + 1))) (ty := .int) hx hb hts iw_X1_swap_1 tyX1 tyX1_ok nmX1 hown hK hP hD hS 0 rfl rfl 9 (by decide) (hts _ fl_X1_swap_46) (fun _ h9 => h9) rfl (by decide +kernel) rfl rfl (Nat.le_of_ble_eq_true rfl) dX1_swap_57 (fun H locs hP hD hS => ?_)
  replace hP : va_P D vwCl [oD d lt mn (vs + 1), ai (cy 0) (d 1) 24 pt, ai (cy 0) (d 2) 24 tk, ai (cy 0) (d 3) 24 mr, ai (cy 0) (d 4) 10 (ud (ud od ((ud (ud pl qa (pl qb)) qb (pl qa)) qa) qa) ((ud (ud pl qa (pl qb)) qb (pl qa)) qb) qb), ai (cy 0) (d 5) 10 (ud (ud pl qa (pl qb)) qb (pl qa)), ai (cy 0) (d 6) 4 rm, ai (cy 0) (d 7) 10 cd] H := hP
  replace hD : va_D A [oD d lt mn (vs + 1), ai (cy 0) (d 1) 24 pt, ai (cy 0) (d 2) 24 tk, ai (cy 0) (d 3) 24 mr, ai (cy 0) (d 4) 10 (ud (ud od ((ud (ud pl qa (pl qb)) qb (pl qa)) qa) qa) ((ud (ud pl qa (pl qb)) qb (pl qa)) qb) qb), ai (cy 0) (d 5) 10 (ud (ud pl qa (pl qb)) qb (pl qa)), ai (cy 0) (d 6) 4 rm, ai (cy 0) (d 7) 10 cd] := hD
  exact hret [0, 1, 2, 3, 4, 5, 6, 7] () dX1_swap_60 hP hD hS (by decide) rfl (by trivial)
abbrev rm_X1_codeDensely : Room := { frames := 1, cells := 0, slots := 0, locals := 22 }
theorem fl_X1_codeDensely_21 : Cond.fieldLink RX1 21 "WalkPasses$Desk" "order" "[I" ∈ wsX1_codeDensely := by decide +kernel
theorem fl_X1_codeDensely_34 : Cond.fieldLink RX1 34 "WalkPasses$Desk" "codes" "[I" ∈ wsX1_codeDensely := by decide +kernel
theorem iw_X1_codeDensely_1 : ∀ w ∈ u_ws RX1 TX1 10, w ∈ wsX1_codeDensely := by decide +kernel
set_option maxHeartbeats 4000000 in
set_option maxRecDepth 100000 in
theorem k_X1_codeDensely (l : Launch) (D : va_G) (cy : Nat → ClassId) (d : Nat → Nat) (z : Nat) (lt mn vs : Int) (pt tk mr od pl rm cd : Int → Int) (hI : DI lt mn pt tk mr od pl rm cd) : CtI l yX1_codeDensely wsX1_codeDensely rm_X1_codeDensely D (tyL cy) [.ref (d 0)] [oD d lt mn vs, ai (cy 0) (d 1) 24 pt, ai (cy 0) (d 2) 24 tk, ai (cy 0) (d 3) 24 mr, ai (cy 0) (d 4) 10 od, ai (cy 0) (d 5) 10 pl, ai (cy 0) (d 6) 4 rm, ai (cy 0) (d 7) 10 cd] z (fun (r : Int) (u : Unit) => r = denN (hasI pt lt) od 10) (fun (u : Unit) => [oD d lt mn vs, ai (cy 0) (d 1) 24 pt, ai (cy 0) (d 2) 24 tk, ai (cy 0) (d 3) 24 mr, ai (cy 0) (d 4) 10 od, ai (cy 0) (d 5) 10 pl, ai (cy 0) (d 6) 4 rm, ai (cy 0) (d 7) 10 (denC (hasI pt lt) od cd 10)]) 0 0 := by
  refine ct_i (cc := cX1_codeDensely) (maxL := 4) (by decide) rfl (Nat.le_of_ble_eq_true rfl) ?_
  intro p e s m args below meth c A Q H locs ls hx hb hml hown hin hts hK hN hP hD hS hA hl hret
  replace hl : lv_has ls 4 [(0, .ref (d 0))] := hl
  replace hown : s.vm.findClass RX1 = some m.cls := hown
  obtain ⟨⟨⟨hlt0, hlt1⟩, hmn0, hmn1⟩, ⟨hpt, htk, hmr⟩, ⟨hod, hpl, hpo, hop⟩, hrm, hcd⟩ := id hI
  refine r_const hx hb dX1_codeDensely_0 ?_
  refine lv_istore_n (lv' := [(1, .int (iI 0)), (0, .ref (d 0))]) hx hb dX1_codeDensely_1 rfl hl (by decide) rfl (fun ls hl => ?_)
  refine r_const hx hb dX1_codeDensely_2 ?_
  refine lv_istore_n (lv' := [(2, .int (iI 0)), (1, .int (iI 0)), (0, .ref (d 0))]) hx hb dX1_codeDensely_3 rfl hl (by decide) rfl (fun ls hl => ?_)
  have lp_4 : ∀ (fu : Nat) (x : Int) (i : Int) (B : Int → Int), (0 ≤ i ∧ i ≤ 10) → (x = denN (hasI pt lt) od i.toNat) → (B = denC (hasI pt lt) od cd i.toNat) → (10 - i).toNat < fu → ∀ (H : Heap) (locs : List Loc), va_P D vwCl [oD d lt mn vs, ai (cy 0) (d 1) 24 pt, ai (cy 0) (d 2) 24 tk, ai (cy 0) (d 3) 24 mr, ai (cy 0) (d 4) 10 od, ai (cy 0) (d 5) 10 pl, ai (cy 0) (d 6) 4 rm, ai (cy 0) (d 7) 10 B] H → va_D A [oD d lt mn vs, ai (cy 0) (d 1) 24 pt, ai (cy 0) (d 2) 24 tk, ai (cy 0) (d 3) 24 mr, ai (cy 0) (d 4) 10 od, ai (cy 0) (d 5) 10 pl, ai (cy 0) (d 6) 4 rm, ai (cy 0) (d 7) 10 B] → va_S A s.heap H locs → ∀ (ls : Array Slot), lv_has ls 4 [(0, .ref (d 0)), (1, .int (iI x)), (2, .int (iI i))] → W p l e rm_X1_codeDensely s m args below meth c H locs 0 0 Q (F0 m 4 ls []) := by
    intro fu
    induction fu with
    | zero =>
      intro x i B h1 h2 h3 hm
      exact absurd hm (Nat.not_lt_zero _)
    | succ fu ih_4 =>
      intro x i B h1 h2 h3 hm H locs hP hD hS ls hl
      have hx0 := denN_b (hasI pt lt) od i.toNat
      refine lv_iload_n hx hb dX1_codeDensely_4 rfl (lv_at hl 2 rfl) ?_
      refine r_bip hx hb (10) dX1_codeDensely_5 (by decide) ?_
      refine r_ge hx hb 41 dX1_codeDensely_7 (by decide) ⟨by omega, by omega⟩ ⟨by omega, by omega⟩ (fun c_7 => ?_) (fun c_7 => ?_)
      ·
        refine lv_iload_n hx hb dX1_codeDensely_41 rfl (lv_at hl 1 rfl) ?_
        obtain rfl : i = 10 := by omega
        subst h3
        exact hret [0, 1, 2, 3, 4, 5, 6, 7] () dX1_codeDensely_42 hP hD hS (by decide) rfl (h2)
      ·
        refine lv_aload_n hx hb dX1_codeDensely_10 rfl (lv_at hl 0 rfl) ?_
        refine va_get (D := D) (C := RX1) (T := TX1) (N := 10) (ci := 1) (v := .ref (d 4)) hx hb hts iw_X1_codeDensely_1 hown hK hP 0 rfl rfl 4 (by decide) (hts _ fl_X1_codeDensely_21) (fun _ h9 => h9) rfl dX1_codeDensely_11 ?_
        refine lv_iload_n hx hb dX1_codeDensely_14 rfl (lv_at hl 2 rfl) ?_
        refine r_ald hx hb hK hP 4 rfl rfl ⟨by omega, by omega, by omega⟩ dX1_codeDensely_15 ?_
        have b_15 := hod i
        refine lv_istore_n (lv' := [(3, .int (iI (od i))), (0, .ref (d 0)), (1, .int (iI x)), (2, .int (iI i))]) hx hb dX1_codeDensely_16 rfl hl (by decide) rfl (fun ls hl => ?_)
        refine lv_aload_n hx hb dX1_codeDensely_17 rfl (lv_at hl 1 rfl) ?_
        refine lv_iload_n hx hb dX1_codeDensely_18 rfl (lv_at hl 0 rfl) ?_
        have M_19 := k_X1_hasLetterAt l D cy d H.size lt mn vs pt tk mr od pl rm B (od i) (⟨⟨hlt0, hlt1⟩, hpt⟩) (⟨by omega, by omega⟩)
        refine kV_i (wr := []) (As := [.int (iI (od i))]) (rest := []) (q := (RX1, TX1, 10)) (ci := 1) ⟨hx, hb, hml, hown, hts⟩ M_19 0 rfl rfl (cwV 1 hts gX1_codeDensely_X1_hasLetterAt rfl rfl rfl (by decide +kernel) ⟨Nat.le_of_ble_eq_true rfl, Nat.le_of_ble_eq_true rfl⟩) hN hK hP hD hS hA [0, 1, 2, 3, 4, 5, 6, 7] [] rfl rfl (by decide) (by decide) (by decide) rfl hl.1 rfl (Nat.le_of_ble_eq_true rfl) dX1_codeDensely_19 ⟨Nat.le_of_ble_eq_true rfl, Nat.le_of_ble_eq_true rfl⟩ (fun r_19 u_19 H locs hw_19 hP hD hS => ?_)
        replace hP : va_P D vwCl [oD d lt mn vs, ai (cy 0) (d 1) 24 pt, ai (cy 0) (d 2) 24 tk, ai (cy 0) (d 3) 24 mr, ai (cy 0) (d 4) 10 od, ai (cy 0) (d 5) 10 pl, ai (cy 0) (d 6) 4 rm, ai (cy 0) (d 7) 10 B] H := hP
        replace hD : va_D A [oD d lt mn vs, ai (cy 0) (d 1) 24 pt, ai (cy 0) (d 2) 24 tk, ai (cy 0) (d 3) 24 mr, ai (cy 0) (d 4) 10 od, ai (cy 0) (d 5) 10 pl, ai (cy 0) (d 6) 4 rm, ai (cy 0) (d 7) 10 B] := hD
        have hb0 := hasI_b pt lt (od i)
        refine r_eq0 hx hb 35 dX1_codeDensely_22 (by decide) ⟨by omega, by omega⟩ (fun c_22 => ?_) (fun c_22 => ?_)
        ·
          refine r_inc (k := 3) (lv' := [(2, .int (iI (i + 1))), (3, .int (iI (od i))), (0, .ref (d 0)), (1, .int (iI x))]) hx hb dX1_codeDensely_35 hl rfl (by decide) rfl (fun ls hl => ?_)
          refine lv_goto (tgt := 4) hx hb dX1_codeDensely_38 (by decide) ?_
          have hb1 := hasI_b pt lt (od i)
          exact ih_4 x (i + 1) B (by omega) (by rw [denN_s h1.1]; split <;> omega) (by rw [denC_s h1.1]; split <;> first | (rw [h3, h2]; done) | (exact h3) | omega) (by omega) H locs (pick_P hP (is := [0, 1, 2, 3, 4, 5, 6, 7]) rfl) (hD.sub [0, 1, 2, 3, 4, 5, 6, 7] (by decide) rfl) hS ls (lv_sub hl [2, 3, 0] rfl)
        ·
          refine lv_aload_n hx hb dX1_codeDensely_25 rfl (lv_at hl 1 rfl) ?_
          refine va_get (D := D) (C := RX1) (T := TX1) (N := 10) (ci := 1) (v := .ref (d 7)) hx hb hts iw_X1_codeDensely_1 hown hK hP 0 rfl rfl 8 (by decide) (hts _ fl_X1_codeDensely_34) (fun _ h9 => h9) rfl dX1_codeDensely_26 ?_
          refine lv_iload_n hx hb dX1_codeDensely_29 rfl (lv_at hl 0 rfl) ?_
          refine lv_iload_n hx hb dX1_codeDensely_30 rfl (lv_at hl 2 rfl) ?_
          refine r_ast hx hb hK hP hD hS 7 rfl rfl ⟨by omega, by omega, by omega⟩ dX1_codeDensely_31 (fun H locs hP hD hS => ?_)
          replace hP : va_P D vwCl [oD d lt mn vs, ai (cy 0) (d 1) 24 pt, ai (cy 0) (d 2) 24 tk, ai (cy 0) (d 3) 24 mr, ai (cy 0) (d 4) 10 od, ai (cy 0) (d 5) 10 pl, ai (cy 0) (d 6) 4 rm, ai (cy 0) (d 7) 10 (ud B (od i) x)] H := hP
          replace hD : va_D A [oD d lt mn vs, ai (cy 0) (d 1) 24 pt, ai (cy 0) (d 2) 24 tk, ai (cy 0) (d 3) 24 mr, ai (cy 0) (d 4) 10 od, ai (cy 0) (d 5) 10 pl, ai (cy 0) (d 6) 4 rm, ai (cy 0) (d 7) 10 (ud B (od i) x)] := hD
          refine r_inc (k := 2) (lv' := [(1, .int (iI (x + 1))), (3, .int (iI (od i))), (0, .ref (d 0)), (2, .int (iI i))]) hx hb dX1_codeDensely_32 hl rfl (by decide) rfl (fun ls hl => ?_)
          refine r_inc (k := 3) (lv' := [(2, .int (iI (i + 1))), (1, .int (iI (x + 1))), (3, .int (iI (od i))), (0, .ref (d 0))]) hx hb dX1_codeDensely_35 hl rfl (by decide) rfl (fun ls hl => ?_)
          refine lv_goto (tgt := 4) hx hb dX1_codeDensely_38 (by decide) ?_
          have hb1 := hasI_b pt lt (od i)
          exact ih_4 (x + 1) (i + 1) (ud B (od i) x) (by omega) (by rw [denN_s h1.1]; split <;> omega) (by rw [denC_s h1.1]; split <;> first | (rw [h3, h2]; done) | (exact h3) | omega) (by omega) H locs (pick_P hP (is := [0, 1, 2, 3, 4, 5, 6, 7]) rfl) (hD.sub [0, 1, 2, 3, 4, 5, 6, 7] (by decide) rfl) hS ls (lv_sub hl [3, 1, 0] rfl)
  exact lp_4 _ 0 0 cd (by omega) (rfl) (rfl) (Nat.lt_succ_self _) H locs (pick_P hP (is := [0, 1, 2, 3, 4, 5, 6, 7]) rfl) (hD.sub [0, 1, 2, 3, 4, 5, 6, 7] (by decide) rfl) hS ls (lv_sub hl [2, 1, 0] rfl)
abbrev rm_X1_codesRise : Room := { frames := 1, cells := 0, slots := 0, locals := 22 }
theorem fl_X1_codesRise_21 : Cond.fieldLink RX1 21 "WalkPasses$Desk" "order" "[I" ∈ wsX1_codesRise := by decide +kernel
theorem fl_X1_codesRise_34 : Cond.fieldLink RX1 34 "WalkPasses$Desk" "codes" "[I" ∈ wsX1_codesRise := by decide +kernel
theorem iw_X1_codesRise_1 : ∀ w ∈ u_ws RX1 TX1 10, w ∈ wsX1_codesRise := by decide +kernel
set_option maxHeartbeats 4000000 in
set_option maxRecDepth 100000 in
theorem k_X1_codesRise (l : Launch) (D : va_G) (cy : Nat → ClassId) (d : Nat → Nat) (z : Nat) (lt mn vs : Int) (pt tk mr od pl rm cd : Int → Int) (hI : DI lt mn pt tk mr od pl rm cd) : CtI l yX1_codesRise wsX1_codesRise rm_X1_codesRise D (tyL cy) [.ref (d 0)] [oD d lt mn vs, ai (cy 0) (d 1) 24 pt, ai (cy 0) (d 2) 24 tk, ai (cy 0) (d 3) 24 mr, ai (cy 0) (d 4) 10 od, ai (cy 0) (d 5) 10 pl, ai (cy 0) (d 6) 4 rm, ai (cy 0) (d 7) 10 cd] z (fun (r : Int) (u : Unit) => r = rise (hasI pt lt) od cd 10 0 (-1)) (fun (u : Unit) => [oD d lt mn vs, ai (cy 0) (d 1) 24 pt, ai (cy 0) (d 2) 24 tk, ai (cy 0) (d 3) 24 mr, ai (cy 0) (d 4) 10 od, ai (cy 0) (d 5) 10 pl, ai (cy 0) (d 6) 4 rm, ai (cy 0) (d 7) 10 cd]) 0 0 := by
  refine ct_z (cc := cX1_codesRise) (maxL := 4) (by decide) rfl (Nat.le_of_ble_eq_true rfl) ?_
  intro p e s m args below meth c A Q H locs ls hx hb hml hown hin hts hK hN hP hD hS hA hl hret
  replace hl : lv_has ls 4 [(0, .ref (d 0))] := hl
  replace hown : s.vm.findClass RX1 = some m.cls := hown
  obtain ⟨⟨⟨hlt0, hlt1⟩, hmn0, hmn1⟩, ⟨hpt, htk, hmr⟩, ⟨hod, hpl, hpo, hop⟩, hrm, hcd⟩ := id hI
  refine r_const hx hb dX1_codesRise_0 ?_
  refine lv_istore_n (lv' := [(1, .int (iI (-1))), (0, .ref (d 0))]) hx hb dX1_codesRise_1 rfl hl (by decide) rfl (fun ls hl => ?_)
  refine r_const hx hb dX1_codesRise_2 ?_
  refine lv_istore_n (lv' := [(2, .int (iI 0)), (1, .int (iI (-1))), (0, .ref (d 0))]) hx hb dX1_codesRise_3 rfl hl (by decide) rfl (fun ls hl => ?_)
  have lp_4 : ∀ (fu : Nat) (x : Int) (i : Int), (0 ≤ i ∧ i ≤ 10) → (-1 ≤ x ∧ x ≤ 63) → (rise (hasI pt lt) od cd (10 - i).toNat i x = rise (hasI pt lt) od cd 10 0 (-1)) → (10 - i).toNat < fu → ∀ (H : Heap) (locs : List Loc), va_P D vwCl [oD d lt mn vs, ai (cy 0) (d 1) 24 pt, ai (cy 0) (d 2) 24 tk, ai (cy 0) (d 3) 24 mr, ai (cy 0) (d 4) 10 od, ai (cy 0) (d 5) 10 pl, ai (cy 0) (d 6) 4 rm, ai (cy 0) (d 7) 10 cd] H → va_D A [oD d lt mn vs, ai (cy 0) (d 1) 24 pt, ai (cy 0) (d 2) 24 tk, ai (cy 0) (d 3) 24 mr, ai (cy 0) (d 4) 10 od, ai (cy 0) (d 5) 10 pl, ai (cy 0) (d 6) 4 rm, ai (cy 0) (d 7) 10 cd] → va_S A s.heap H locs → ∀ (ls : Array Slot), lv_has ls 4 [(0, .ref (d 0)), (1, .int (iI x)), (2, .int (iI i))] → W p l e rm_X1_codesRise s m args below meth c H locs 0 0 Q (F0 m 4 ls []) := by
    intro fu
    induction fu with
    | zero =>
      intro x i h1 h3 h2 hm
      exact absurd hm (Nat.not_lt_zero _)
    | succ fu ih_4 =>
      intro x i h1 h3 h2 hm H locs hP hD hS ls hl
      refine lv_iload_n hx hb dX1_codesRise_4 rfl (lv_at hl 2 rfl) ?_
      refine r_bip hx hb (10) dX1_codesRise_5 (by decide) ?_
      refine r_ge hx hb 50 dX1_codesRise_7 (by decide) ⟨by omega, by omega⟩ ⟨by omega, by omega⟩ (fun c_7 => ?_) (fun c_7 => ?_)
      ·
        refine r_const hx hb dX1_codesRise_50 ?_
        exact hret [0, 1, 2, 3, 4, 5, 6, 7] () dX1_codesRise_51 hP hD hS (by decide) rfl (by omega) (by rw [← h2, show (10 - i).toNat = 0 by omega]; rfl)
      ·
        refine lv_aload_n hx hb dX1_codesRise_10 rfl (lv_at hl 0 rfl) ?_
        refine va_get (D := D) (C := RX1) (T := TX1) (N := 10) (ci := 1) (v := .ref (d 4)) hx hb hts iw_X1_codesRise_1 hown hK hP 0 rfl rfl 4 (by decide) (hts _ fl_X1_codesRise_21) (fun _ h9 => h9) rfl dX1_codesRise_11 ?_
        refine lv_iload_n hx hb dX1_codesRise_14 rfl (lv_at hl 2 rfl) ?_
        refine r_ald hx hb hK hP 4 rfl rfl ⟨by omega, by omega, by omega⟩ dX1_codesRise_15 ?_
        have b_15 := hod i
        refine lv_istore_n (lv' := [(3, .int (iI (od i))), (0, .ref (d 0)), (1, .int (iI x)), (2, .int (iI i))]) hx hb dX1_codesRise_16 rfl hl (by decide) rfl (fun ls hl => ?_)
        refine lv_aload_n hx hb dX1_codesRise_17 rfl (lv_at hl 1 rfl) ?_
        refine lv_iload_n hx hb dX1_codesRise_18 rfl (lv_at hl 0 rfl) ?_
        have M_19 := k_X1_hasLetterAt l D cy d H.size lt mn vs pt tk mr od pl rm cd (od i) (⟨⟨hlt0, hlt1⟩, hpt⟩) (⟨by omega, by omega⟩)
        refine kV_i (wr := []) (As := [.int (iI (od i))]) (rest := []) (q := (RX1, TX1, 10)) (ci := 1) ⟨hx, hb, hml, hown, hts⟩ M_19 0 rfl rfl (cwV 1 hts gX1_codesRise_X1_hasLetterAt rfl rfl rfl (by decide +kernel) ⟨Nat.le_of_ble_eq_true rfl, Nat.le_of_ble_eq_true rfl⟩) hN hK hP hD hS hA [0, 1, 2, 3, 4, 5, 6, 7] [] rfl rfl (by decide) (by decide) (by decide) rfl hl.1 rfl (Nat.le_of_ble_eq_true rfl) dX1_codesRise_19 ⟨Nat.le_of_ble_eq_true rfl, Nat.le_of_ble_eq_true rfl⟩ (fun r_19 u_19 H locs hw_19 hP hD hS => ?_)
        replace hP : va_P D vwCl [oD d lt mn vs, ai (cy 0) (d 1) 24 pt, ai (cy 0) (d 2) 24 tk, ai (cy 0) (d 3) 24 mr, ai (cy 0) (d 4) 10 od, ai (cy 0) (d 5) 10 pl, ai (cy 0) (d 6) 4 rm, ai (cy 0) (d 7) 10 cd] H := hP
        replace hD : va_D A [oD d lt mn vs, ai (cy 0) (d 1) 24 pt, ai (cy 0) (d 2) 24 tk, ai (cy 0) (d 3) 24 mr, ai (cy 0) (d 4) 10 od, ai (cy 0) (d 5) 10 pl, ai (cy 0) (d 6) 4 rm, ai (cy 0) (d 7) 10 cd] := hD
        have hb0 := hasI_b pt lt (od i)
        refine r_eq0 hx hb 44 dX1_codesRise_22 (by decide) ⟨by omega, by omega⟩ (fun c_22 => ?_) (fun c_22 => ?_)
        ·
          refine r_inc (k := 3) (lv' := [(2, .int (iI (i + 1))), (3, .int (iI (od i))), (0, .ref (d 0)), (1, .int (iI x))]) hx hb dX1_codesRise_44 hl rfl (by decide) rfl (fun ls hl => ?_)
          refine lv_goto (tgt := 4) hx hb dX1_codesRise_47 (by decide) ?_
          exact ih_4 x (i + 1) (by omega) (by omega) (by have h9 := rise_s (hs := hasI pt lt) (od := od) (cd := cd) (i := i) (a := x) (by omega); rw [h2] at h9; rw [h9]; split <;> first | rfl | (split <;> first | rfl | omega) | omega) (by omega) H locs (pick_P hP (is := [0, 1, 2, 3, 4, 5, 6, 7]) rfl) (hD.sub [0, 1, 2, 3, 4, 5, 6, 7] (by decide) rfl) hS ls (lv_sub hl [2, 3, 0] rfl)
        ·
          refine lv_aload_n hx hb dX1_codesRise_25 rfl (lv_at hl 1 rfl) ?_
          refine va_get (D := D) (C := RX1) (T := TX1) (N := 10) (ci := 1) (v := .ref (d 7)) hx hb hts iw_X1_codesRise_1 hown hK hP 0 rfl rfl 8 (by decide) (hts _ fl_X1_codesRise_34) (fun _ h9 => h9) rfl dX1_codesRise_26 ?_
          refine lv_iload_n hx hb dX1_codesRise_29 rfl (lv_at hl 0 rfl) ?_
          refine r_ald hx hb hK hP 7 rfl rfl ⟨by omega, by omega, by omega⟩ dX1_codesRise_30 ?_
          have b_30 := hcd (od i)
          refine lv_iload_n hx hb dX1_codesRise_31 rfl (lv_at hl 2 rfl) ?_
          refine r_gt hx hb 37 dX1_codesRise_32 (by decide) ⟨by omega, by omega⟩ ⟨by omega, by omega⟩ (fun c_32 => ?_) (fun c_32 => ?_)
          ·
            refine lv_aload_n hx hb dX1_codesRise_37 rfl (lv_at hl 1 rfl) ?_
            refine va_get (D := D) (C := RX1) (T := TX1) (N := 10) (ci := 1) (v := .ref (d 7)) hx hb hts iw_X1_codesRise_1 hown hK hP 0 rfl rfl 8 (by decide) (hts _ fl_X1_codesRise_34) (fun _ h9 => h9) rfl dX1_codesRise_38 ?_
            refine lv_iload_n hx hb dX1_codesRise_41 rfl (lv_at hl 0 rfl) ?_
            refine r_ald hx hb hK hP 7 rfl rfl ⟨by omega, by omega, by omega⟩ dX1_codesRise_42 ?_
            have b_42 := hcd (od i)
            refine lv_istore_n (lv' := [(1, .int (iI (cd (od i)))), (3, .int (iI (od i))), (0, .ref (d 0)), (2, .int (iI i))]) hx hb dX1_codesRise_43 rfl hl (by decide) rfl (fun ls hl => ?_)
            refine r_inc (k := 3) (lv' := [(2, .int (iI (i + 1))), (1, .int (iI (cd (od i)))), (3, .int (iI (od i))), (0, .ref (d 0))]) hx hb dX1_codesRise_44 hl rfl (by decide) rfl (fun ls hl => ?_)
            refine lv_goto (tgt := 4) hx hb dX1_codesRise_47 (by decide) ?_
            exact ih_4 (cd (od i)) (i + 1) (by omega) (by omega) (by have h9 := rise_s (hs := hasI pt lt) (od := od) (cd := cd) (i := i) (a := x) (by omega); rw [h2] at h9; rw [h9]; split <;> first | rfl | (split <;> first | rfl | omega) | omega) (by omega) H locs (pick_P hP (is := [0, 1, 2, 3, 4, 5, 6, 7]) rfl) (hD.sub [0, 1, 2, 3, 4, 5, 6, 7] (by decide) rfl) hS ls (lv_sub hl [3, 1, 0] rfl)
          ·
            refine r_const hx hb dX1_codesRise_35 ?_
            exact hret [0, 1, 2, 3, 4, 5, 6, 7] () dX1_codesRise_36 hP hD hS (by decide) rfl (by omega) (by rw [← h2, rise_s (by omega), if_pos (by omega), if_pos (by omega)])
  exact lp_4 _ (-1) 0 (by omega) (by omega) (rfl) (Nat.lt_succ_self _) H locs (pick_P hP (is := [0, 1, 2, 3, 4, 5, 6, 7]) rfl) (hD.sub [0, 1, 2, 3, 4, 5, 6, 7] (by decide) rfl) hS ls (lv_sub hl [2, 1, 0] rfl)
abbrev rm_X1_takeCodes : Room := { frames := 1, cells := 0, slots := 0, locals := 22 }
theorem fl_X1_takeCodes_34 : Cond.fieldLink RX1 34 "WalkPasses$Desk" "codes" "[I" ∈ wsX1_takeCodes := by decide +kernel
theorem iw_X1_takeCodes_1 : ∀ w ∈ u_ws RX1 TX1 10, w ∈ wsX1_takeCodes := by decide +kernel
set_option maxHeartbeats 4000000 in
set_option maxRecDepth 100000 in
theorem k_X1_takeCodes (l : Launch) (D : va_G) (cy : Nat → ClassId) (d : Nat → Nat) (a : Nat) (z : Nat) (lt mn vs : Int) (pt tk mr od pl rm cd : Int → Int) (pn : Int → Int) (hI : DI lt mn pt tk mr od pl rm cd) : CtV l yX1_takeCodes wsX1_takeCodes rm_X1_takeCodes D (tyL cy) [.ref (d 0), .ref (a)] [oD d lt mn vs, ai (cy 0) (d 1) 24 pt, ai (cy 0) (d 2) 24 tk, ai (cy 0) (d 3) 24 mr, ai (cy 0) (d 4) 10 od, ai (cy 0) (d 5) 10 pl, ai (cy 0) (d 6) 4 rm, ai (cy 0) (d 7) 10 cd, ai (cy 0) a 10 pn] z (fun (u : Unit) => True) (fun (u : Unit) => [oD d lt mn vs, ai (cy 0) (d 1) 24 pt, ai (cy 0) (d 2) 24 tk, ai (cy 0) (d 3) 24 mr, ai (cy 0) (d 4) 10 od, ai (cy 0) (d 5) 10 pl, ai (cy 0) (d 6) 4 rm, ai (cy 0) (d 7) 10 (tkC (hasI pt lt) pn cd 10), ai (cy 0) a 10 pn]) 0 0 := by
  refine ct_v (cc := cX1_takeCodes) (maxL := 3) (by decide) rfl (Nat.le_of_ble_eq_true rfl) ?_
  intro p e s m args below meth c A Q H locs ls hx hb hml hown hin hts hK hN hP hD hS hA hl hret
  replace hl : lv_has ls 3 [(0, .ref (d 0)), (1, .ref (a))] := hl
  replace hown : s.vm.findClass RX1 = some m.cls := hown
  obtain ⟨⟨⟨hlt0, hlt1⟩, hmn0, hmn1⟩, ⟨hpt, htk, hmr⟩, ⟨hod, hpl, hpo, hop⟩, hrm, hcd⟩ := id hI
  refine r_const hx hb dX1_takeCodes_0 ?_
  refine lv_istore_n (lv' := [(2, .int (iI 0)), (0, .ref (d 0)), (1, .ref (a))]) hx hb dX1_takeCodes_1 rfl hl (by decide) rfl (fun ls hl => ?_)
  have lp_2 : ∀ (fu : Nat) (i : Int) (B : Int → Int), (0 ≤ i ∧ i ≤ 10) → (B = tkC (hasI pt lt) pn cd i) → (10 - i).toNat < fu → ∀ (H : Heap) (locs : List Loc), va_P D vwCl [oD d lt mn vs, ai (cy 0) (d 1) 24 pt, ai (cy 0) (d 2) 24 tk, ai (cy 0) (d 3) 24 mr, ai (cy 0) (d 4) 10 od, ai (cy 0) (d 5) 10 pl, ai (cy 0) (d 6) 4 rm, ai (cy 0) (d 7) 10 B, ai (cy 0) a 10 pn] H → va_D A [oD d lt mn vs, ai (cy 0) (d 1) 24 pt, ai (cy 0) (d 2) 24 tk, ai (cy 0) (d 3) 24 mr, ai (cy 0) (d 4) 10 od, ai (cy 0) (d 5) 10 pl, ai (cy 0) (d 6) 4 rm, ai (cy 0) (d 7) 10 B, ai (cy 0) a 10 pn] → va_S A s.heap H locs → ∀ (ls : Array Slot), lv_has ls 3 [(0, .ref (d 0)), (1, .ref (a)), (2, .int (iI i))] → W p l e rm_X1_takeCodes s m args below meth c H locs 0 0 Q (F0 m 2 ls []) := by
    intro fu
    induction fu with
    | zero =>
      intro i B h1 h2 hm
      exact absurd hm (Nat.not_lt_zero _)
    | succ fu ih_2 =>
      intro i B h1 h2 hm H locs hP hD hS ls hl
      refine lv_iload_n hx hb dX1_takeCodes_2 rfl (lv_at hl 2 rfl) ?_
      refine r_bip hx hb (10) dX1_takeCodes_3 (by decide) ?_
      refine r_ge hx hb 31 dX1_takeCodes_5 (by decide) ⟨by omega, by omega⟩ ⟨by omega, by omega⟩ (fun c_5 => ?_) (fun c_5 => ?_)
      ·
        obtain rfl : i = 10 := by omega
        subst h2
        exact hret [0, 1, 2, 3, 4, 5, 6, 7, 8] () dX1_takeCodes_31 hP hD hS (by decide) rfl (by trivial)
      ·
        refine lv_aload_n hx hb dX1_takeCodes_8 rfl (lv_at hl 0 rfl) ?_
        refine lv_iload_n hx hb dX1_takeCodes_9 rfl (lv_at hl 2 rfl) ?_
        have M_10 := k_X1_hasLetterAt l D cy d H.size lt mn vs pt tk mr od pl rm B i (⟨⟨hlt0, hlt1⟩, hpt⟩) (⟨by omega, by omega⟩)
        refine kV_i (wr := [ai (cy 0) a 10 pn]) (As := [.int (iI i)]) (rest := []) (q := (RX1, TX1, 10)) (ci := 1) ⟨hx, hb, hml, hown, hts⟩ M_10 0 rfl rfl (cwV 1 hts gX1_takeCodes_X1_hasLetterAt rfl rfl rfl (by decide +kernel) ⟨Nat.le_of_ble_eq_true rfl, Nat.le_of_ble_eq_true rfl⟩) hN hK hP hD hS hA [0, 1, 2, 3, 4, 5, 6, 7] [8] rfl rfl (by decide) (by decide) (by decide) rfl hl.1 rfl (Nat.le_of_ble_eq_true rfl) dX1_takeCodes_10 ⟨Nat.le_of_ble_eq_true rfl, Nat.le_of_ble_eq_true rfl⟩ (fun r_10 u_10 H locs hw_10 hP hD hS => ?_)
        replace hP : va_P D vwCl [ai (cy 0) a 10 pn, oD d lt mn vs, ai (cy 0) (d 1) 24 pt, ai (cy 0) (d 2) 24 tk, ai (cy 0) (d 3) 24 mr, ai (cy 0) (d 4) 10 od, ai (cy 0) (d 5) 10 pl, ai (cy 0) (d 6) 4 rm, ai (cy 0) (d 7) 10 B] H := hP
        replace hD : va_D A [ai (cy 0) a 10 pn, oD d lt mn vs, ai (cy 0) (d 1) 24 pt, ai (cy 0) (d 2) 24 tk, ai (cy 0) (d 3) 24 mr, ai (cy 0) (d 4) 10 od, ai (cy 0) (d 5) 10 pl, ai (cy 0) (d 6) 4 rm, ai (cy 0) (d 7) 10 B] := hD
        have hb0 := hasI_b pt lt i
        refine r_eq0 hx hb 25 dX1_takeCodes_13 (by decide) ⟨by omega, by omega⟩ (fun c_13 => ?_) (fun c_13 => ?_)
        ·
          refine r_inc (k := 2) (lv' := [(2, .int (iI (i + 1))), (0, .ref (d 0)), (1, .ref (a))]) hx hb dX1_takeCodes_25 hl rfl (by decide) rfl (fun ls hl => ?_)
          refine lv_goto (tgt := 2) hx hb dX1_takeCodes_28 (by decide) ?_
          have hb1 := hasI_b pt lt i
          exact ih_2 (i + 1) B (by omega) (by first | (rw [h2, tkC_y h1.1 (by omega)]; done) | (rw [h2, tkC_n (by omega)]; done)) (by omega) H locs (pick_P hP (is := [1, 2, 3, 4, 5, 6, 7, 8, 0]) rfl) (hD.sub [1, 2, 3, 4, 5, 6, 7, 8, 0] (by decide) rfl) hS ls (lv_sub hl [1, 2, 0] rfl)
        ·
          refine lv_aload_n hx hb dX1_takeCodes_16 rfl (lv_at hl 0 rfl) ?_
          refine va_get (D := D) (C := RX1) (T := TX1) (N := 10) (ci := 1) (v := .ref (d 7)) hx hb hts iw_X1_takeCodes_1 hown hK hP 1 rfl rfl 8 (by decide) (hts _ fl_X1_takeCodes_34) (fun _ h9 => h9) rfl dX1_takeCodes_17 ?_
          refine lv_iload_n hx hb dX1_takeCodes_20 rfl (lv_at hl 2 rfl) ?_
          refine lv_aload_n hx hb dX1_takeCodes_21 rfl (lv_at hl 1 rfl) ?_
          refine lv_iload_n hx hb dX1_takeCodes_22 rfl (lv_at hl 2 rfl) ?_
          refine r_ald hx hb hK hP 0 rfl rfl ⟨by omega, by omega, by omega⟩ dX1_takeCodes_23 ?_
          refine r_ast hx hb hK hP hD hS 8 rfl rfl ⟨by omega, by omega, by omega⟩ dX1_takeCodes_24 (fun H locs hP hD hS => ?_)
          replace hP : va_P D vwCl [ai (cy 0) a 10 pn, oD d lt mn vs, ai (cy 0) (d 1) 24 pt, ai (cy 0) (d 2) 24 tk, ai (cy 0) (d 3) 24 mr, ai (cy 0) (d 4) 10 od, ai (cy 0) (d 5) 10 pl, ai (cy 0) (d 6) 4 rm, ai (cy 0) (d 7) 10 (ud B i (pn i))] H := hP
          replace hD : va_D A [ai (cy 0) a 10 pn, oD d lt mn vs, ai (cy 0) (d 1) 24 pt, ai (cy 0) (d 2) 24 tk, ai (cy 0) (d 3) 24 mr, ai (cy 0) (d 4) 10 od, ai (cy 0) (d 5) 10 pl, ai (cy 0) (d 6) 4 rm, ai (cy 0) (d 7) 10 (ud B i (pn i))] := hD
          refine r_inc (k := 2) (lv' := [(2, .int (iI (i + 1))), (0, .ref (d 0)), (1, .ref (a))]) hx hb dX1_takeCodes_25 hl rfl (by decide) rfl (fun ls hl => ?_)
          refine lv_goto (tgt := 2) hx hb dX1_takeCodes_28 (by decide) ?_
          have hb1 := hasI_b pt lt i
          exact ih_2 (i + 1) (ud B i (pn i)) (by omega) (by first | (rw [h2, tkC_y h1.1 (by omega)]; done) | (rw [h2, tkC_n (by omega)]; done)) (by omega) H locs (pick_P hP (is := [1, 2, 3, 4, 5, 6, 7, 8, 0]) rfl) (hD.sub [1, 2, 3, 4, 5, 6, 7, 8, 0] (by decide) rfl) hS ls (lv_sub hl [1, 2, 0] rfl)
  exact lp_2 _ 0 cd (by omega) ((tkC_0 _ _ _).symm) (Nat.lt_succ_self _) H locs (pick_P hP (is := [0, 1, 2, 3, 4, 5, 6, 7, 8]) rfl) (hD.sub [0, 1, 2, 3, 4, 5, 6, 7, 8] (by decide) rfl) hS ls (lv_sub hl [1, 2, 0] rfl)
abbrev rm_X1_copyRow : Room := { frames := 1, cells := 0, slots := 0, locals := 40 }
set_option maxHeartbeats 4000000 in
set_option maxRecDepth 100000 in
theorem k_X1_copyRow (l : Launch) (D : va_G) (cy : Nat → ClassId) (a b : Nat) (z : Nat) (n : Nat) (F G : Int → Int) (hn : n ≤ 1000) : CtV l yX1_copyRow wsX1_copyRow rm_X1_copyRow D (tyL cy) [.ref (a), .ref (b)] [ai (cy 0) a n F, ai (cy 0) b n G] z (fun (u : Unit) => True) (fun (u : Unit) => [ai (cy 0) a n F, ai (cy 0) b n F]) 0 0 := by
  refine ct_v (cc := cX1_copyRow) (maxL := 2) (by decide) rfl (Nat.le_of_ble_eq_true rfl) ?_
  intro p e s m args below meth c A Q H locs ls hx hb hml hown hin hts hK hN hP hD hS hA hl hret
  replace hl : lv_has ls 2 [(0, .ref (a)), (1, .ref (b))] := hl
  replace hown : s.vm.findClass RX1 = some m.cls := hown
  refine lv_aload_n hx hb dX1_copyRow_0 rfl (lv_at hl 0 rfl) ?_
  refine r_const hx hb dX1_copyRow_1 ?_
  refine lv_aload_n hx hb dX1_copyRow_2 rfl (lv_at hl 1 rfl) ?_
  refine r_const hx hb dX1_copyRow_3 ?_
  refine lv_aload_n hx hb dX1_copyRow_4 rfl (lv_at hl 1 rfl) ?_
  refine r_len hx hb hK hP 1 0 rfl rfl dX1_copyRow_5 ?_
  refine r_copy (own := RX1) (index := 61) hx hb (by rw [hml]; exact hl.1.symm) hown (hts _ (by decide +kernel)) (hts _ (by decide +kernel)) (hts _ (by decide +kernel)) (hts _ (by decide +kernel)) hK hP hD hS 0 1 rfl rfl rfl ⟨by omega, by omega, by omega, ⟨by omega, by omega⟩, by omega, by omega⟩ (Nat.le_of_ble_eq_true rfl) (Nat.le_of_ble_eq_true rfl) dX1_copyRow_6 (fun H locs hP hD hS => ?_)
  replace hP : va_P D vwCl [ai (cy 0) a n F, ai (cy 0) b n (cpy F G 0 0 (n : Int))] H := hP
  replace hD : va_D A [ai (cy 0) a n F, ai (cy 0) b n (cpy F G 0 0 (n : Int))] := hD
  replace hP := reF (q := 1) F hP rfl (fun j q1 q2 => by unfold cpy; rw [if_pos (by omega), show (0 : Int) + (j - 0) = j by omega])
  replace hD := reD (q := 1) F hD rfl
  exact hret [0, 1] () dX1_copyRow_9 hP hD hS (by decide) rfl (by trivial)
abbrev rm_X1_copyFrom : Room := { frames := 2, cells := 0, slots := 0, locals := 61 }
theorem fl_X1_copyFrom_9 : Cond.fieldLink RX1 9 "WalkPasses$Desk" "points" "[I" ∈ wsX1_copyFrom := by decide +kernel
theorem fl_X1_copyFrom_15 : Cond.fieldLink RX1 15 "WalkPasses$Desk" "thicks" "[I" ∈ wsX1_copyFrom := by decide +kernel
theorem fl_X1_copyFrom_18 : Cond.fieldLink RX1 18 "WalkPasses$Desk" "misreads" "[I" ∈ wsX1_copyFrom := by decide +kernel
theorem fl_X1_copyFrom_21 : Cond.fieldLink RX1 21 "WalkPasses$Desk" "order" "[I" ∈ wsX1_copyFrom := by decide +kernel
theorem fl_X1_copyFrom_24 : Cond.fieldLink RX1 24 "WalkPasses$Desk" "places" "[I" ∈ wsX1_copyFrom := by decide +kernel
theorem fl_X1_copyFrom_27 : Cond.fieldLink RX1 27 "WalkPasses$Desk" "many" "I" ∈ wsX1_copyFrom := by decide +kernel
theorem fl_X1_copyFrom_31 : Cond.fieldLink RX1 31 "WalkPasses$Desk" "rooms" "[I" ∈ wsX1_copyFrom := by decide +kernel
theorem fl_X1_copyFrom_34 : Cond.fieldLink RX1 34 "WalkPasses$Desk" "codes" "[I" ∈ wsX1_copyFrom := by decide +kernel
theorem fl_X1_copyFrom_43 : Cond.fieldLink RX1 43 "WalkPasses$Desk" "letters" "I" ∈ wsX1_copyFrom := by decide +kernel
theorem fl_X1_copyFrom_46 : Cond.fieldLink RX1 46 "WalkPasses$Desk" "version" "I" ∈ wsX1_copyFrom := by decide +kernel
theorem iw_X1_copyFrom_1 : ∀ w ∈ u_ws RX1 TX1 10, w ∈ wsX1_copyFrom := by decide +kernel
set_option maxHeartbeats 4000000 in
set_option maxRecDepth 100000 in
theorem k_X1_copyFrom (l : Launch) (D : va_G) (cy : Nat → ClassId) (d o : Nat → Nat) (z : Nat) (lt mn vs : Int) (pt tk mr od pl rm cd : Int → Int) (lt2 mn2 vs2 : Int) (pt2 tk2 mr2 od2 pl2 rm2 cd2 : Int → Int) : CtV l yX1_copyFrom wsX1_copyFrom rm_X1_copyFrom D (tyL cy) [.ref (d 0), .ref (o 0)] [oD d lt mn vs, ai (cy 0) (d 1) 24 pt, ai (cy 0) (d 2) 24 tk, ai (cy 0) (d 3) 24 mr, ai (cy 0) (d 4) 10 od, ai (cy 0) (d 5) 10 pl, ai (cy 0) (d 6) 4 rm, ai (cy 0) (d 7) 10 cd, oD o lt2 mn2 vs2, ai (cy 0) (o 1) 24 pt2, ai (cy 0) (o 2) 24 tk2, ai (cy 0) (o 3) 24 mr2, ai (cy 0) (o 4) 10 od2, ai (cy 0) (o 5) 10 pl2, ai (cy 0) (o 6) 4 rm2, ai (cy 0) (o 7) 10 cd2] z (fun (u : Unit) => True) (fun (u : Unit) => [oD d lt2 mn2 (vs + 1), ai (cy 0) (d 1) 24 pt2, ai (cy 0) (d 2) 24 tk2, ai (cy 0) (d 3) 24 mr2, ai (cy 0) (d 4) 10 od2, ai (cy 0) (d 5) 10 pl2, ai (cy 0) (d 6) 4 rm2, ai (cy 0) (d 7) 10 cd2, oD o lt2 mn2 vs2, ai (cy 0) (o 1) 24 pt2, ai (cy 0) (o 2) 24 tk2, ai (cy 0) (o 3) 24 mr2, ai (cy 0) (o 4) 10 od2, ai (cy 0) (o 5) 10 pl2, ai (cy 0) (o 6) 4 rm2, ai (cy 0) (o 7) 10 cd2]) 0 0 := by
  refine ct_v (cc := cX1_copyFrom) (maxL := 2) (by decide) rfl (Nat.le_of_ble_eq_true rfl) ?_
  intro p e s m args below meth c A Q H locs ls hx hb hml hown hin hts hK hN hP hD hS hA hl hret
  replace hl : lv_has ls 2 [(0, .ref (d 0)), (1, .ref (o 0))] := hl
  replace hown : s.vm.findClass RX1 = some m.cls := hown
  refine lv_aload_n hx hb dX1_copyFrom_0 rfl (lv_at hl 0 rfl) ?_
  refine lv_aload_n hx hb dX1_copyFrom_1 rfl (lv_at hl 1 rfl) ?_
  refine va_get (D := D) (C := RX1) (T := TX1) (N := 10) (ci := 1) (v := .int (iI lt2)) hx hb hts iw_X1_copyFrom_1 hown hK hP 8 rfl rfl 0 (by decide) (hts _ fl_X1_copyFrom_43) (fun _ h9 => h9) rfl dX1_copyFrom_2 ?_
  refine va_put (D := D) (C := RX1) (T := TX1) (N := 10) (ci := 1) (v := .int (iI lt2)) (ty := .int) hx hb hts iw_X1_copyFrom_1 tyX1 tyX1_ok nmX1 hown hK hP hD hS 0 rfl rfl 0 (by decide) (hts _ fl_X1_copyFrom_43) (fun _ h9 => h9) rfl (by decide +kernel) rfl rfl (Nat.le_of_ble_eq_true rfl) dX1_copyFrom_5 (fun H locs hP hD hS => ?_)
  replace hP : va_P D vwCl [oD d lt2 mn vs, ai (cy 0) (d 1) 24 pt, ai (cy 0) (d 2) 24 tk, ai (cy 0) (d 3) 24 mr, ai (cy 0) (d 4) 10 od, ai (cy 0) (d 5) 10 pl, ai (cy 0) (d 6) 4 rm, ai (cy 0) (d 7) 10 cd, oD o lt2 mn2 vs2, ai (cy 0) (o 1) 24 pt2, ai (cy 0) (o 2) 24 tk2, ai (cy 0) (o 3) 24 mr2, ai (cy 0) (o 4) 10 od2, ai (cy 0) (o 5) 10 pl2, ai (cy 0) (o 6) 4 rm2, ai (cy 0) (o 7) 10 cd2] H := hP
  replace hD : va_D A [oD d lt2 mn vs, ai (cy 0) (d 1) 24 pt, ai (cy 0) (d 2) 24 tk, ai (cy 0) (d 3) 24 mr, ai (cy 0) (d 4) 10 od, ai (cy 0) (d 5) 10 pl, ai (cy 0) (d 6) 4 rm, ai (cy 0) (d 7) 10 cd, oD o lt2 mn2 vs2, ai (cy 0) (o 1) 24 pt2, ai (cy 0) (o 2) 24 tk2, ai (cy 0) (o 3) 24 mr2, ai (cy 0) (o 4) 10 od2, ai (cy 0) (o 5) 10 pl2, ai (cy 0) (o 6) 4 rm2, ai (cy 0) (o 7) 10 cd2] := hD
  refine lv_aload_n hx hb dX1_copyFrom_8 rfl (lv_at hl 1 rfl) ?_
  refine va_get (D := D) (C := RX1) (T := TX1) (N := 10) (ci := 1) (v := .ref (o 1)) hx hb hts iw_X1_copyFrom_1 hown hK hP 8 rfl rfl 1 (by decide) (hts _ fl_X1_copyFrom_9) (fun _ h9 => h9) rfl dX1_copyFrom_9 ?_
  refine lv_aload_n hx hb dX1_copyFrom_12 rfl (lv_at hl 0 rfl) ?_
  refine va_get (D := D) (C := RX1) (T := TX1) (N := 10) (ci := 1) (v := .ref (d 1)) hx hb hts iw_X1_copyFrom_1 hown hK hP 0 rfl rfl 1 (by decide) (hts _ fl_X1_copyFrom_9) (fun _ h9 => h9) rfl dX1_copyFrom_13 ?_
  have M_16 := k_X1_copyRow l D cy (o 1) (d 1) H.size 24 pt2 pt (by decide)
  refine kS_v (wr := [oD d lt2 mn vs, ai (cy 0) (d 2) 24 tk, ai (cy 0) (d 3) 24 mr, ai (cy 0) (d 4) 10 od, ai (cy 0) (d 5) 10 pl, ai (cy 0) (d 6) 4 rm, ai (cy 0) (d 7) 10 cd, oD o lt2 mn2 vs2, ai (cy 0) (o 2) 24 tk2, ai (cy 0) (o 3) 24 mr2, ai (cy 0) (o 4) 10 od2, ai (cy 0) (o 5) 10 pl2, ai (cy 0) (o 6) 4 rm2, ai (cy 0) (o 7) 10 cd2]) (As := [.ref (o 1), .ref (d 1)]) (rest := []) ⟨hx, hb, hml, hown, hts⟩ M_16 (va_cwS 2 hts gX1_copyFrom_X1_copyRow rfl rfl rfl (by decide +kernel) ⟨Nat.le_of_ble_eq_true rfl, Nat.le_of_ble_eq_true rfl⟩) hN hK hP hD hS hA [9, 1] [0, 2, 3, 4, 5, 6, 7, 8, 10, 11, 12, 13, 14, 15] rfl rfl (by decide) (by decide) (by decide) rfl hl.1 rfl (Nat.le_of_ble_eq_true rfl) dX1_copyFrom_16 ⟨Nat.le_of_ble_eq_true rfl, Nat.le_of_ble_eq_true rfl⟩ (fun u_16 H locs hw_16 hP hD hS => ?_)
  replace hP : va_P D vwCl [oD d lt2 mn vs, ai (cy 0) (d 2) 24 tk, ai (cy 0) (d 3) 24 mr, ai (cy 0) (d 4) 10 od, ai (cy 0) (d 5) 10 pl, ai (cy 0) (d 6) 4 rm, ai (cy 0) (d 7) 10 cd, oD o lt2 mn2 vs2, ai (cy 0) (o 2) 24 tk2, ai (cy 0) (o 3) 24 mr2, ai (cy 0) (o 4) 10 od2, ai (cy 0) (o 5) 10 pl2, ai (cy 0) (o 6) 4 rm2, ai (cy 0) (o 7) 10 cd2, ai (cy 0) (o 1) 24 pt2, ai (cy 0) (d 1) 24 pt2] H := hP
  replace hD : va_D A [oD d lt2 mn vs, ai (cy 0) (d 2) 24 tk, ai (cy 0) (d 3) 24 mr, ai (cy 0) (d 4) 10 od, ai (cy 0) (d 5) 10 pl, ai (cy 0) (d 6) 4 rm, ai (cy 0) (d 7) 10 cd, oD o lt2 mn2 vs2, ai (cy 0) (o 2) 24 tk2, ai (cy 0) (o 3) 24 mr2, ai (cy 0) (o 4) 10 od2, ai (cy 0) (o 5) 10 pl2, ai (cy 0) (o 6) 4 rm2, ai (cy 0) (o 7) 10 cd2, ai (cy 0) (o 1) 24 pt2, ai (cy 0) (d 1) 24 pt2] := hD
  refine lv_aload_n hx hb dX1_copyFrom_19 rfl (lv_at hl 1 rfl) ?_
  refine va_get (D := D) (C := RX1) (T := TX1) (N := 10) (ci := 1) (v := .ref (o 2)) hx hb hts iw_X1_copyFrom_1 hown hK hP 7 rfl rfl 2 (by decide) (hts _ fl_X1_copyFrom_15) (fun _ h9 => h9) rfl dX1_copyFrom_20 ?_
  refine lv_aload_n hx hb dX1_copyFrom_23 rfl (lv_at hl 0 rfl) ?_
  refine va_get (D := D) (C := RX1) (T := TX1) (N := 10) (ci := 1) (v := .ref (d 2)) hx hb hts iw_X1_copyFrom_1 hown hK hP 0 rfl rfl 2 (by decide) (hts _ fl_X1_copyFrom_15) (fun _ h9 => h9) rfl dX1_copyFrom_24 ?_
  have M_27 := k_X1_copyRow l D cy (o 2) (d 2) H.size 24 tk2 tk (by decide)
  refine kS_v (wr := [oD d lt2 mn vs, ai (cy 0) (d 3) 24 mr, ai (cy 0) (d 4) 10 od, ai (cy 0) (d 5) 10 pl, ai (cy 0) (d 6) 4 rm, ai (cy 0) (d 7) 10 cd, oD o lt2 mn2 vs2, ai (cy 0) (o 3) 24 mr2, ai (cy 0) (o 4) 10 od2, ai (cy 0) (o 5) 10 pl2, ai (cy 0) (o 6) 4 rm2, ai (cy 0) (o 7) 10 cd2, ai (cy 0) (o 1) 24 pt2, ai (cy 0) (d 1) 24 pt2]) (As := [.ref (o 2), .ref (d 2)]) (rest := []) ⟨hx, hb, hml, hown, hts⟩ M_27 (va_cwS 2 hts gX1_copyFrom_X1_copyRow rfl rfl rfl (by decide +kernel) ⟨Nat.le_of_ble_eq_true rfl, Nat.le_of_ble_eq_true rfl⟩) hN hK hP hD hS hA [8, 1] [0, 2, 3, 4, 5, 6, 7, 9, 10, 11, 12, 13, 14, 15] rfl rfl (by decide) (by decide) (by decide) rfl hl.1 rfl (Nat.le_of_ble_eq_true rfl) dX1_copyFrom_27 ⟨Nat.le_of_ble_eq_true rfl, Nat.le_of_ble_eq_true rfl⟩ (fun u_27 H locs hw_27 hP hD hS => ?_)
  replace hP : va_P D vwCl [oD d lt2 mn vs, ai (cy 0) (d 3) 24 mr, ai (cy 0) (d 4) 10 od, ai (cy 0) (d 5) 10 pl, ai (cy 0) (d 6) 4 rm, ai (cy 0) (d 7) 10 cd, oD o lt2 mn2 vs2, ai (cy 0) (o 3) 24 mr2, ai (cy 0) (o 4) 10 od2, ai (cy 0) (o 5) 10 pl2, ai (cy 0) (o 6) 4 rm2, ai (cy 0) (o 7) 10 cd2, ai (cy 0) (o 1) 24 pt2, ai (cy 0) (d 1) 24 pt2, ai (cy 0) (o 2) 24 tk2, ai (cy 0) (d 2) 24 tk2] H := hP
  replace hD : va_D A [oD d lt2 mn vs, ai (cy 0) (d 3) 24 mr, ai (cy 0) (d 4) 10 od, ai (cy 0) (d 5) 10 pl, ai (cy 0) (d 6) 4 rm, ai (cy 0) (d 7) 10 cd, oD o lt2 mn2 vs2, ai (cy 0) (o 3) 24 mr2, ai (cy 0) (o 4) 10 od2, ai (cy 0) (o 5) 10 pl2, ai (cy 0) (o 6) 4 rm2, ai (cy 0) (o 7) 10 cd2, ai (cy 0) (o 1) 24 pt2, ai (cy 0) (d 1) 24 pt2, ai (cy 0) (o 2) 24 tk2, ai (cy 0) (d 2) 24 tk2] := hD
  refine lv_aload_n hx hb dX1_copyFrom_30 rfl (lv_at hl 1 rfl) ?_
  refine va_get (D := D) (C := RX1) (T := TX1) (N := 10) (ci := 1) (v := .ref (o 3)) hx hb hts iw_X1_copyFrom_1 hown hK hP 6 rfl rfl 3 (by decide) (hts _ fl_X1_copyFrom_18) (fun _ h9 => h9) rfl dX1_copyFrom_31 ?_
  refine lv_aload_n hx hb dX1_copyFrom_34 rfl (lv_at hl 0 rfl) ?_
  refine va_get (D := D) (C := RX1) (T := TX1) (N := 10) (ci := 1) (v := .ref (d 3)) hx hb hts iw_X1_copyFrom_1 hown hK hP 0 rfl rfl 3 (by decide) (hts _ fl_X1_copyFrom_18) (fun _ h9 => h9) rfl dX1_copyFrom_35 ?_
  have M_38 := k_X1_copyRow l D cy (o 3) (d 3) H.size 24 mr2 mr (by decide)
  refine kS_v (wr := [oD d lt2 mn vs, ai (cy 0) (d 4) 10 od, ai (cy 0) (d 5) 10 pl, ai (cy 0) (d 6) 4 rm, ai (cy 0) (d 7) 10 cd, oD o lt2 mn2 vs2, ai (cy 0) (o 4) 10 od2, ai (cy 0) (o 5) 10 pl2, ai (cy 0) (o 6) 4 rm2, ai (cy 0) (o 7) 10 cd2, ai (cy 0) (o 1) 24 pt2, ai (cy 0) (d 1) 24 pt2, ai (cy 0) (o 2) 24 tk2, ai (cy 0) (d 2) 24 tk2]) (As := [.ref (o 3), .ref (d 3)]) (rest := []) ⟨hx, hb, hml, hown, hts⟩ M_38 (va_cwS 2 hts gX1_copyFrom_X1_copyRow rfl rfl rfl (by decide +kernel) ⟨Nat.le_of_ble_eq_true rfl, Nat.le_of_ble_eq_true rfl⟩) hN hK hP hD hS hA [7, 1] [0, 2, 3, 4, 5, 6, 8, 9, 10, 11, 12, 13, 14, 15] rfl rfl (by decide) (by decide) (by decide) rfl hl.1 rfl (Nat.le_of_ble_eq_true rfl) dX1_copyFrom_38 ⟨Nat.le_of_ble_eq_true rfl, Nat.le_of_ble_eq_true rfl⟩ (fun u_38 H locs hw_38 hP hD hS => ?_)
  replace hP : va_P D vwCl [oD d lt2 mn vs, ai (cy 0) (d 4) 10 od, ai (cy 0) (d 5) 10 pl, ai (cy 0) (d 6) 4 rm, ai (cy 0) (d 7) 10 cd, oD o lt2 mn2 vs2, ai (cy 0) (o 4) 10 od2, ai (cy 0) (o 5) 10 pl2, ai (cy 0) (o 6) 4 rm2, ai (cy 0) (o 7) 10 cd2, ai (cy 0) (o 1) 24 pt2, ai (cy 0) (d 1) 24 pt2, ai (cy 0) (o 2) 24 tk2, ai (cy 0) (d 2) 24 tk2, ai (cy 0) (o 3) 24 mr2, ai (cy 0) (d 3) 24 mr2] H := hP
  replace hD : va_D A [oD d lt2 mn vs, ai (cy 0) (d 4) 10 od, ai (cy 0) (d 5) 10 pl, ai (cy 0) (d 6) 4 rm, ai (cy 0) (d 7) 10 cd, oD o lt2 mn2 vs2, ai (cy 0) (o 4) 10 od2, ai (cy 0) (o 5) 10 pl2, ai (cy 0) (o 6) 4 rm2, ai (cy 0) (o 7) 10 cd2, ai (cy 0) (o 1) 24 pt2, ai (cy 0) (d 1) 24 pt2, ai (cy 0) (o 2) 24 tk2, ai (cy 0) (d 2) 24 tk2, ai (cy 0) (o 3) 24 mr2, ai (cy 0) (d 3) 24 mr2] := hD
  refine lv_aload_n hx hb dX1_copyFrom_41 rfl (lv_at hl 1 rfl) ?_
  refine va_get (D := D) (C := RX1) (T := TX1) (N := 10) (ci := 1) (v := .ref (o 4)) hx hb hts iw_X1_copyFrom_1 hown hK hP 5 rfl rfl 4 (by decide) (hts _ fl_X1_copyFrom_21) (fun _ h9 => h9) rfl dX1_copyFrom_42 ?_
  refine lv_aload_n hx hb dX1_copyFrom_45 rfl (lv_at hl 0 rfl) ?_
  refine va_get (D := D) (C := RX1) (T := TX1) (N := 10) (ci := 1) (v := .ref (d 4)) hx hb hts iw_X1_copyFrom_1 hown hK hP 0 rfl rfl 4 (by decide) (hts _ fl_X1_copyFrom_21) (fun _ h9 => h9) rfl dX1_copyFrom_46 ?_
  have M_49 := k_X1_copyRow l D cy (o 4) (d 4) H.size 10 od2 od (by decide)
  refine kS_v (wr := [oD d lt2 mn vs, ai (cy 0) (d 5) 10 pl, ai (cy 0) (d 6) 4 rm, ai (cy 0) (d 7) 10 cd, oD o lt2 mn2 vs2, ai (cy 0) (o 5) 10 pl2, ai (cy 0) (o 6) 4 rm2, ai (cy 0) (o 7) 10 cd2, ai (cy 0) (o 1) 24 pt2, ai (cy 0) (d 1) 24 pt2, ai (cy 0) (o 2) 24 tk2, ai (cy 0) (d 2) 24 tk2, ai (cy 0) (o 3) 24 mr2, ai (cy 0) (d 3) 24 mr2]) (As := [.ref (o 4), .ref (d 4)]) (rest := []) ⟨hx, hb, hml, hown, hts⟩ M_49 (va_cwS 2 hts gX1_copyFrom_X1_copyRow rfl rfl rfl (by decide +kernel) ⟨Nat.le_of_ble_eq_true rfl, Nat.le_of_ble_eq_true rfl⟩) hN hK hP hD hS hA [6, 1] [0, 2, 3, 4, 5, 7, 8, 9, 10, 11, 12, 13, 14, 15] rfl rfl (by decide) (by decide) (by decide) rfl hl.1 rfl (Nat.le_of_ble_eq_true rfl) dX1_copyFrom_49 ⟨Nat.le_of_ble_eq_true rfl, Nat.le_of_ble_eq_true rfl⟩ (fun u_49 H locs hw_49 hP hD hS => ?_)
  replace hP : va_P D vwCl [oD d lt2 mn vs, ai (cy 0) (d 5) 10 pl, ai (cy 0) (d 6) 4 rm, ai (cy 0) (d 7) 10 cd, oD o lt2 mn2 vs2, ai (cy 0) (o 5) 10 pl2, ai (cy 0) (o 6) 4 rm2, ai (cy 0) (o 7) 10 cd2, ai (cy 0) (o 1) 24 pt2, ai (cy 0) (d 1) 24 pt2, ai (cy 0) (o 2) 24 tk2, ai (cy 0) (d 2) 24 tk2, ai (cy 0) (o 3) 24 mr2, ai (cy 0) (d 3) 24 mr2, ai (cy 0) (o 4) 10 od2, ai (cy 0) (d 4) 10 od2] H := hP
  replace hD : va_D A [oD d lt2 mn vs, ai (cy 0) (d 5) 10 pl, ai (cy 0) (d 6) 4 rm, ai (cy 0) (d 7) 10 cd, oD o lt2 mn2 vs2, ai (cy 0) (o 5) 10 pl2, ai (cy 0) (o 6) 4 rm2, ai (cy 0) (o 7) 10 cd2, ai (cy 0) (o 1) 24 pt2, ai (cy 0) (d 1) 24 pt2, ai (cy 0) (o 2) 24 tk2, ai (cy 0) (d 2) 24 tk2, ai (cy 0) (o 3) 24 mr2, ai (cy 0) (d 3) 24 mr2, ai (cy 0) (o 4) 10 od2, ai (cy 0) (d 4) 10 od2] := hD
  refine lv_aload_n hx hb dX1_copyFrom_52 rfl (lv_at hl 1 rfl) ?_
  refine va_get (D := D) (C := RX1) (T := TX1) (N := 10) (ci := 1) (v := .ref (o 5)) hx hb hts iw_X1_copyFrom_1 hown hK hP 4 rfl rfl 5 (by decide) (hts _ fl_X1_copyFrom_24) (fun _ h9 => h9) rfl dX1_copyFrom_53 ?_
  refine lv_aload_n hx hb dX1_copyFrom_56 rfl (lv_at hl 0 rfl) ?_
  refine va_get (D := D) (C := RX1) (T := TX1) (N := 10) (ci := 1) (v := .ref (d 5)) hx hb hts iw_X1_copyFrom_1 hown hK hP 0 rfl rfl 5 (by decide) (hts _ fl_X1_copyFrom_24) (fun _ h9 => h9) rfl dX1_copyFrom_57 ?_
  have M_60 := k_X1_copyRow l D cy (o 5) (d 5) H.size 10 pl2 pl (by decide)
  refine kS_v (wr := [oD d lt2 mn vs, ai (cy 0) (d 6) 4 rm, ai (cy 0) (d 7) 10 cd, oD o lt2 mn2 vs2, ai (cy 0) (o 6) 4 rm2, ai (cy 0) (o 7) 10 cd2, ai (cy 0) (o 1) 24 pt2, ai (cy 0) (d 1) 24 pt2, ai (cy 0) (o 2) 24 tk2, ai (cy 0) (d 2) 24 tk2, ai (cy 0) (o 3) 24 mr2, ai (cy 0) (d 3) 24 mr2, ai (cy 0) (o 4) 10 od2, ai (cy 0) (d 4) 10 od2]) (As := [.ref (o 5), .ref (d 5)]) (rest := []) ⟨hx, hb, hml, hown, hts⟩ M_60 (va_cwS 2 hts gX1_copyFrom_X1_copyRow rfl rfl rfl (by decide +kernel) ⟨Nat.le_of_ble_eq_true rfl, Nat.le_of_ble_eq_true rfl⟩) hN hK hP hD hS hA [5, 1] [0, 2, 3, 4, 6, 7, 8, 9, 10, 11, 12, 13, 14, 15] rfl rfl (by decide) (by decide) (by decide) rfl hl.1 rfl (Nat.le_of_ble_eq_true rfl) dX1_copyFrom_60 ⟨Nat.le_of_ble_eq_true rfl, Nat.le_of_ble_eq_true rfl⟩ (fun u_60 H locs hw_60 hP hD hS => ?_)
  replace hP : va_P D vwCl [oD d lt2 mn vs, ai (cy 0) (d 6) 4 rm, ai (cy 0) (d 7) 10 cd, oD o lt2 mn2 vs2, ai (cy 0) (o 6) 4 rm2, ai (cy 0) (o 7) 10 cd2, ai (cy 0) (o 1) 24 pt2, ai (cy 0) (d 1) 24 pt2, ai (cy 0) (o 2) 24 tk2, ai (cy 0) (d 2) 24 tk2, ai (cy 0) (o 3) 24 mr2, ai (cy 0) (d 3) 24 mr2, ai (cy 0) (o 4) 10 od2, ai (cy 0) (d 4) 10 od2, ai (cy 0) (o 5) 10 pl2, ai (cy 0) (d 5) 10 pl2] H := hP
  replace hD : va_D A [oD d lt2 mn vs, ai (cy 0) (d 6) 4 rm, ai (cy 0) (d 7) 10 cd, oD o lt2 mn2 vs2, ai (cy 0) (o 6) 4 rm2, ai (cy 0) (o 7) 10 cd2, ai (cy 0) (o 1) 24 pt2, ai (cy 0) (d 1) 24 pt2, ai (cy 0) (o 2) 24 tk2, ai (cy 0) (d 2) 24 tk2, ai (cy 0) (o 3) 24 mr2, ai (cy 0) (d 3) 24 mr2, ai (cy 0) (o 4) 10 od2, ai (cy 0) (d 4) 10 od2, ai (cy 0) (o 5) 10 pl2, ai (cy 0) (d 5) 10 pl2] := hD
  refine lv_aload_n hx hb dX1_copyFrom_63 rfl (lv_at hl 0 rfl) ?_
  refine lv_aload_n hx hb dX1_copyFrom_64 rfl (lv_at hl 1 rfl) ?_
  refine va_get (D := D) (C := RX1) (T := TX1) (N := 10) (ci := 1) (v := .int (iI mn2)) hx hb hts iw_X1_copyFrom_1 hown hK hP 3 rfl rfl 6 (by decide) (hts _ fl_X1_copyFrom_27) (fun _ h9 => h9) rfl dX1_copyFrom_65 ?_
  refine va_put (D := D) (C := RX1) (T := TX1) (N := 10) (ci := 1) (v := .int (iI mn2)) (ty := .int) hx hb hts iw_X1_copyFrom_1 tyX1 tyX1_ok nmX1 hown hK hP hD hS 0 rfl rfl 6 (by decide) (hts _ fl_X1_copyFrom_27) (fun _ h9 => h9) rfl (by decide +kernel) rfl rfl (Nat.le_of_ble_eq_true rfl) dX1_copyFrom_68 (fun H locs hP hD hS => ?_)
  replace hP : va_P D vwCl [oD d lt2 mn2 vs, ai (cy 0) (d 6) 4 rm, ai (cy 0) (d 7) 10 cd, oD o lt2 mn2 vs2, ai (cy 0) (o 6) 4 rm2, ai (cy 0) (o 7) 10 cd2, ai (cy 0) (o 1) 24 pt2, ai (cy 0) (d 1) 24 pt2, ai (cy 0) (o 2) 24 tk2, ai (cy 0) (d 2) 24 tk2, ai (cy 0) (o 3) 24 mr2, ai (cy 0) (d 3) 24 mr2, ai (cy 0) (o 4) 10 od2, ai (cy 0) (d 4) 10 od2, ai (cy 0) (o 5) 10 pl2, ai (cy 0) (d 5) 10 pl2] H := hP
  replace hD : va_D A [oD d lt2 mn2 vs, ai (cy 0) (d 6) 4 rm, ai (cy 0) (d 7) 10 cd, oD o lt2 mn2 vs2, ai (cy 0) (o 6) 4 rm2, ai (cy 0) (o 7) 10 cd2, ai (cy 0) (o 1) 24 pt2, ai (cy 0) (d 1) 24 pt2, ai (cy 0) (o 2) 24 tk2, ai (cy 0) (d 2) 24 tk2, ai (cy 0) (o 3) 24 mr2, ai (cy 0) (d 3) 24 mr2, ai (cy 0) (o 4) 10 od2, ai (cy 0) (d 4) 10 od2, ai (cy 0) (o 5) 10 pl2, ai (cy 0) (d 5) 10 pl2] := hD
  refine lv_aload_n hx hb dX1_copyFrom_71 rfl (lv_at hl 1 rfl) ?_
  refine va_get (D := D) (C := RX1) (T := TX1) (N := 10) (ci := 1) (v := .ref (o 6)) hx hb hts iw_X1_copyFrom_1 hown hK hP 3 rfl rfl 7 (by decide) (hts _ fl_X1_copyFrom_31) (fun _ h9 => h9) rfl dX1_copyFrom_72 ?_
  refine lv_aload_n hx hb dX1_copyFrom_75 rfl (lv_at hl 0 rfl) ?_
  refine va_get (D := D) (C := RX1) (T := TX1) (N := 10) (ci := 1) (v := .ref (d 6)) hx hb hts iw_X1_copyFrom_1 hown hK hP 0 rfl rfl 7 (by decide) (hts _ fl_X1_copyFrom_31) (fun _ h9 => h9) rfl dX1_copyFrom_76 ?_
  have M_79 := k_X1_copyRow l D cy (o 6) (d 6) H.size 4 rm2 rm (by decide)
  refine kS_v (wr := [oD d lt2 mn2 vs, ai (cy 0) (d 7) 10 cd, oD o lt2 mn2 vs2, ai (cy 0) (o 7) 10 cd2, ai (cy 0) (o 1) 24 pt2, ai (cy 0) (d 1) 24 pt2, ai (cy 0) (o 2) 24 tk2, ai (cy 0) (d 2) 24 tk2, ai (cy 0) (o 3) 24 mr2, ai (cy 0) (d 3) 24 mr2, ai (cy 0) (o 4) 10 od2, ai (cy 0) (d 4) 10 od2, ai (cy 0) (o 5) 10 pl2, ai (cy 0) (d 5) 10 pl2]) (As := [.ref (o 6), .ref (d 6)]) (rest := []) ⟨hx, hb, hml, hown, hts⟩ M_79 (va_cwS 2 hts gX1_copyFrom_X1_copyRow rfl rfl rfl (by decide +kernel) ⟨Nat.le_of_ble_eq_true rfl, Nat.le_of_ble_eq_true rfl⟩) hN hK hP hD hS hA [4, 1] [0, 2, 3, 5, 6, 7, 8, 9, 10, 11, 12, 13, 14, 15] rfl rfl (by decide) (by decide) (by decide) rfl hl.1 rfl (Nat.le_of_ble_eq_true rfl) dX1_copyFrom_79 ⟨Nat.le_of_ble_eq_true rfl, Nat.le_of_ble_eq_true rfl⟩ (fun u_79 H locs hw_79 hP hD hS => ?_)
  replace hP : va_P D vwCl [oD d lt2 mn2 vs, ai (cy 0) (d 7) 10 cd, oD o lt2 mn2 vs2, ai (cy 0) (o 7) 10 cd2, ai (cy 0) (o 1) 24 pt2, ai (cy 0) (d 1) 24 pt2, ai (cy 0) (o 2) 24 tk2, ai (cy 0) (d 2) 24 tk2, ai (cy 0) (o 3) 24 mr2, ai (cy 0) (d 3) 24 mr2, ai (cy 0) (o 4) 10 od2, ai (cy 0) (d 4) 10 od2, ai (cy 0) (o 5) 10 pl2, ai (cy 0) (d 5) 10 pl2, ai (cy 0) (o 6) 4 rm2, ai (cy 0) (d 6) 4 rm2] H := hP
  replace hD : va_D A [oD d lt2 mn2 vs, ai (cy 0) (d 7) 10 cd, oD o lt2 mn2 vs2, ai (cy 0) (o 7) 10 cd2, ai (cy 0) (o 1) 24 pt2, ai (cy 0) (d 1) 24 pt2, ai (cy 0) (o 2) 24 tk2, ai (cy 0) (d 2) 24 tk2, ai (cy 0) (o 3) 24 mr2, ai (cy 0) (d 3) 24 mr2, ai (cy 0) (o 4) 10 od2, ai (cy 0) (d 4) 10 od2, ai (cy 0) (o 5) 10 pl2, ai (cy 0) (d 5) 10 pl2, ai (cy 0) (o 6) 4 rm2, ai (cy 0) (d 6) 4 rm2] := hD
  refine lv_aload_n hx hb dX1_copyFrom_82 rfl (lv_at hl 1 rfl) ?_
  refine va_get (D := D) (C := RX1) (T := TX1) (N := 10) (ci := 1) (v := .ref (o 7)) hx hb hts iw_X1_copyFrom_1 hown hK hP 2 rfl rfl 8 (by decide) (hts _ fl_X1_copyFrom_34) (fun _ h9 => h9) rfl dX1_copyFrom_83 ?_
  refine lv_aload_n hx hb dX1_copyFrom_86 rfl (lv_at hl 0 rfl) ?_
  refine va_get (D := D) (C := RX1) (T := TX1) (N := 10) (ci := 1) (v := .ref (d 7)) hx hb hts iw_X1_copyFrom_1 hown hK hP 0 rfl rfl 8 (by decide) (hts _ fl_X1_copyFrom_34) (fun _ h9 => h9) rfl dX1_copyFrom_87 ?_
  have M_90 := k_X1_copyRow l D cy (o 7) (d 7) H.size 10 cd2 cd (by decide)
  refine kS_v (wr := [oD d lt2 mn2 vs, oD o lt2 mn2 vs2, ai (cy 0) (o 1) 24 pt2, ai (cy 0) (d 1) 24 pt2, ai (cy 0) (o 2) 24 tk2, ai (cy 0) (d 2) 24 tk2, ai (cy 0) (o 3) 24 mr2, ai (cy 0) (d 3) 24 mr2, ai (cy 0) (o 4) 10 od2, ai (cy 0) (d 4) 10 od2, ai (cy 0) (o 5) 10 pl2, ai (cy 0) (d 5) 10 pl2, ai (cy 0) (o 6) 4 rm2, ai (cy 0) (d 6) 4 rm2]) (As := [.ref (o 7), .ref (d 7)]) (rest := []) ⟨hx, hb, hml, hown, hts⟩ M_90 (va_cwS 2 hts gX1_copyFrom_X1_copyRow rfl rfl rfl (by decide +kernel) ⟨Nat.le_of_ble_eq_true rfl, Nat.le_of_ble_eq_true rfl⟩) hN hK hP hD hS hA [3, 1] [0, 2, 4, 5, 6, 7, 8, 9, 10, 11, 12, 13, 14, 15] rfl rfl (by decide) (by decide) (by decide) rfl hl.1 rfl (Nat.le_of_ble_eq_true rfl) dX1_copyFrom_90 ⟨Nat.le_of_ble_eq_true rfl, Nat.le_of_ble_eq_true rfl⟩ (fun u_90 H locs hw_90 hP hD hS => ?_)
  replace hP : va_P D vwCl [oD d lt2 mn2 vs, oD o lt2 mn2 vs2, ai (cy 0) (o 1) 24 pt2, ai (cy 0) (d 1) 24 pt2, ai (cy 0) (o 2) 24 tk2, ai (cy 0) (d 2) 24 tk2, ai (cy 0) (o 3) 24 mr2, ai (cy 0) (d 3) 24 mr2, ai (cy 0) (o 4) 10 od2, ai (cy 0) (d 4) 10 od2, ai (cy 0) (o 5) 10 pl2, ai (cy 0) (d 5) 10 pl2, ai (cy 0) (o 6) 4 rm2, ai (cy 0) (d 6) 4 rm2, ai (cy 0) (o 7) 10 cd2, ai (cy 0) (d 7) 10 cd2] H := hP
  replace hD : va_D A [oD d lt2 mn2 vs, oD o lt2 mn2 vs2, ai (cy 0) (o 1) 24 pt2, ai (cy 0) (d 1) 24 pt2, ai (cy 0) (o 2) 24 tk2, ai (cy 0) (d 2) 24 tk2, ai (cy 0) (o 3) 24 mr2, ai (cy 0) (d 3) 24 mr2, ai (cy 0) (o 4) 10 od2, ai (cy 0) (d 4) 10 od2, ai (cy 0) (o 5) 10 pl2, ai (cy 0) (d 5) 10 pl2, ai (cy 0) (o 6) 4 rm2, ai (cy 0) (d 6) 4 rm2, ai (cy 0) (o 7) 10 cd2, ai (cy 0) (d 7) 10 cd2] := hD
  refine lv_aload_n hx hb dX1_copyFrom_93 rfl (lv_at hl 0 rfl) ?_
  refine lv_dup hx hb dX1_copyFrom_94 rfl ?_
  refine va_get (D := D) (C := RX1) (T := TX1) (N := 10) (ci := 1) (v := .int (iI vs)) hx hb hts iw_X1_copyFrom_1 hown hK hP 0 rfl rfl 9 (by decide) (hts _ fl_X1_copyFrom_46) (fun _ h9 => h9) rfl dX1_copyFrom_95 ?_
  refine r_const hx hb dX1_copyFrom_98 ?_
  refine r_add hx hb dX1_copyFrom_99 ?_
  refine va_put (D := D) (C := RX1) (T := TX1) (N := 10) (ci := 1) (v := .int (iI (vs + 1))) (ty := .int) hx hb hts iw_X1_copyFrom_1 tyX1 tyX1_ok nmX1 hown hK hP hD hS 0 rfl rfl 9 (by decide) (hts _ fl_X1_copyFrom_46) (fun _ h9 => h9) rfl (by decide +kernel) rfl rfl (Nat.le_of_ble_eq_true rfl) dX1_copyFrom_100 (fun H locs hP hD hS => ?_)
  replace hP : va_P D vwCl [oD d lt2 mn2 (vs + 1), oD o lt2 mn2 vs2, ai (cy 0) (o 1) 24 pt2, ai (cy 0) (d 1) 24 pt2, ai (cy 0) (o 2) 24 tk2, ai (cy 0) (d 2) 24 tk2, ai (cy 0) (o 3) 24 mr2, ai (cy 0) (d 3) 24 mr2, ai (cy 0) (o 4) 10 od2, ai (cy 0) (d 4) 10 od2, ai (cy 0) (o 5) 10 pl2, ai (cy 0) (d 5) 10 pl2, ai (cy 0) (o 6) 4 rm2, ai (cy 0) (d 6) 4 rm2, ai (cy 0) (o 7) 10 cd2, ai (cy 0) (d 7) 10 cd2] H := hP
  replace hD : va_D A [oD d lt2 mn2 (vs + 1), oD o lt2 mn2 vs2, ai (cy 0) (o 1) 24 pt2, ai (cy 0) (d 1) 24 pt2, ai (cy 0) (o 2) 24 tk2, ai (cy 0) (d 2) 24 tk2, ai (cy 0) (o 3) 24 mr2, ai (cy 0) (d 3) 24 mr2, ai (cy 0) (o 4) 10 od2, ai (cy 0) (d 4) 10 od2, ai (cy 0) (o 5) 10 pl2, ai (cy 0) (d 5) 10 pl2, ai (cy 0) (o 6) 4 rm2, ai (cy 0) (d 6) 4 rm2, ai (cy 0) (o 7) 10 cd2, ai (cy 0) (d 7) 10 cd2] := hD
  exact hret [0, 3, 5, 7, 9, 11, 13, 15, 1, 2, 4, 6, 8, 10, 12, 14] () dX1_copyFrom_103 hP hD hS (by decide) rfl (by trivial)
end
section
abbrev rm_X2_begin : Room := { frames := 0, cells := 0, slots := 0, locals := 0 }
theorem fl_X2_begin_9 : Cond.fieldLink RX2 9 "WalkPasses$Passes" "order" "[I" ∈ wsX2_begin := by decide +kernel
theorem fl_X2_begin_15 : Cond.fieldLink RX2 15 "WalkPasses$Passes" "spilledAt" "[I" ∈ wsX2_begin := by decide +kernel
theorem fl_X2_begin_46 : Cond.fieldLink RX2 46 "WalkPasses$Passes" "coming" "I" ∈ wsX2_begin := by decide +kernel
theorem iw_X2_begin_1 : ∀ w ∈ u_ws RX1 TX1 10, w ∈ wsX2_begin := by decide +kernel
theorem iw_X2_begin_2 : ∀ w ∈ u_ws RX2 TX2 7, w ∈ wsX2_begin := by decide +kernel
set_option maxHeartbeats 4000000 in
set_option maxRecDepth 100000 in
theorem k_X2_begin (l : Launch) (D : va_G) (cy : Nat → ClassId) (ps d : Nat → Nat) (z : Nat) (cm : Int) (or sa so g0 g1 g2 g3 ht ld : Int → Int) (lt mn vs : Int) (pt tk mr od pl rm cd : Int → Int) (hI : DI lt mn pt tk mr od pl rm cd) : CtV l yX2_begin wsX2_begin rm_X2_begin D (tyL cy) [.ref (ps 0), .ref (d 0)] [oP ps cm, ai (cy 0) (ps 1) 24 or, ai (cy 0) (ps 2) 24 sa, ai (cy 0) (ps 3) 10 so, aq (cy 3) (ps 4) 4 (fun j => ps (5 + j)), ai (cy 0) (ps 5) 24 g0, ai (cy 0) (ps 6) 24 g1, ai (cy 0) (ps 7) 24 g2, ai (cy 0) (ps 8) 24 g3, ai (cy 0) (ps 9) 4 ht, ai (cy 0) (ps 10) 4 ld, oD d lt mn vs, ai (cy 0) (d 1) 24 pt, ai (cy 0) (d 2) 24 tk, ai (cy 0) (d 3) 24 mr, ai (cy 0) (d 4) 10 od, ai (cy 0) (d 5) 10 pl, ai (cy 0) (d 6) 4 rm, ai (cy 0) (d 7) 10 cd] z (fun (u : Int × (Int → Int) × (Int → Int)) => 0 ≤ u.1 ∧ lst u.2.1 u.1.toNat = rw0 mr lt ∧ ∀ l, 0 ≤ l → l < lt → u.2.2 l = mr l) (fun (u : Int × (Int → Int) × (Int → Int)) => [oP ps u.1, ai (cy 0) (ps 1) 24 u.2.1, ai (cy 0) (ps 2) 24 u.2.2, ai (cy 0) (ps 3) 10 so, aq (cy 3) (ps 4) 4 (fun j => ps (5 + j)), ai (cy 0) (ps 5) 24 g0, ai (cy 0) (ps 6) 24 g1, ai (cy 0) (ps 7) 24 g2, ai (cy 0) (ps 8) 24 g3, ai (cy 0) (ps 9) 4 ht, ai (cy 0) (ps 10) 4 ld, oD d lt mn vs, ai (cy 0) (d 1) 24 pt, ai (cy 0) (d 2) 24 tk, ai (cy 0) (d 3) 24 mr, ai (cy 0) (d 4) 10 od, ai (cy 0) (d 5) 10 pl, ai (cy 0) (d 6) 4 rm, ai (cy 0) (d 7) 10 cd]) 0 0 := by
  refine ct_v (cc := cX2_begin) (maxL := 3) (by decide) rfl (Nat.le_of_ble_eq_true rfl) ?_
  intro p e s m args below meth c A Q H locs ls hx hb hml hown hin hts hK hN hP hD hS hA hl hret
  replace hl : lv_has ls 3 [(0, .ref (ps 0)), (1, .ref (d 0))] := hl
  replace hown : s.vm.findClass RX2 = some m.cls := hown
  obtain ⟨⟨⟨hlt0, hlt1⟩, hmn0, hmn1⟩, ⟨hpt, htk, hmr⟩, ⟨hod, hpl, hpo, hop⟩, hrm, hcd⟩ := id hI
  refine lv_aload_n hx hb dX2_begin_0 rfl (lv_at hl 0 rfl) ?_
  refine r_const hx hb dX2_begin_1 ?_
  refine va_put (D := D) (C := RX2) (T := TX2) (N := 7) (ci := 2) (v := .int (iI 0)) (ty := .int) hx hb hts iw_X2_begin_2 tyX2 tyX2_ok nmX2 hown hK hP hD hS 0 rfl rfl 1 (by decide) (hts _ fl_X2_begin_46) (fun _ h9 => h9) rfl (by decide +kernel) rfl rfl (Nat.le_of_ble_eq_true rfl) dX2_begin_2 (fun H locs hP hD hS => ?_)
  replace hP : va_P D vwCl [oP ps 0, ai (cy 0) (ps 1) 24 or, ai (cy 0) (ps 2) 24 sa, ai (cy 0) (ps 3) 10 so, aq (cy 3) (ps 4) 4 (fun j => ps (5 + j)), ai (cy 0) (ps 5) 24 g0, ai (cy 0) (ps 6) 24 g1, ai (cy 0) (ps 7) 24 g2, ai (cy 0) (ps 8) 24 g3, ai (cy 0) (ps 9) 4 ht, ai (cy 0) (ps 10) 4 ld, oD d lt mn vs, ai (cy 0) (d 1) 24 pt, ai (cy 0) (d 2) 24 tk, ai (cy 0) (d 3) 24 mr, ai (cy 0) (d 4) 10 od, ai (cy 0) (d 5) 10 pl, ai (cy 0) (d 6) 4 rm, ai (cy 0) (d 7) 10 cd] H := hP
  replace hD : va_D A [oP ps 0, ai (cy 0) (ps 1) 24 or, ai (cy 0) (ps 2) 24 sa, ai (cy 0) (ps 3) 10 so, aq (cy 3) (ps 4) 4 (fun j => ps (5 + j)), ai (cy 0) (ps 5) 24 g0, ai (cy 0) (ps 6) 24 g1, ai (cy 0) (ps 7) 24 g2, ai (cy 0) (ps 8) 24 g3, ai (cy 0) (ps 9) 4 ht, ai (cy 0) (ps 10) 4 ld, oD d lt mn vs, ai (cy 0) (d 1) 24 pt, ai (cy 0) (d 2) 24 tk, ai (cy 0) (d 3) 24 mr, ai (cy 0) (d 4) 10 od, ai (cy 0) (d 5) 10 pl, ai (cy 0) (d 6) 4 rm, ai (cy 0) (d 7) 10 cd] := hD
  refine r_const hx hb dX2_begin_5 ?_
  refine lv_istore_n (lv' := [(2, .int (iI 0)), (0, .ref (ps 0)), (1, .ref (d 0))]) hx hb dX2_begin_6 rfl hl (by decide) rfl (fun ls hl => ?_)
  have lp_7 : ∀ (fu : Nat) (i : Int) (cn : Int) (B : Int → Int) (C : Int → Int), (0 ≤ i ∧ i ≤ lt) → (0 ≤ cn ∧ cn ≤ i) → (lst B cn.toNat = rw0 mr i) → (∀ l, 0 ≤ l → l < i → C l = mr l) → (lt - i).toNat < fu → ∀ (H : Heap) (locs : List Loc), va_P D vwCl [oP ps cn, ai (cy 0) (ps 1) 24 B, ai (cy 0) (ps 2) 24 C, ai (cy 0) (ps 3) 10 so, aq (cy 3) (ps 4) 4 (fun j => ps (5 + j)), ai (cy 0) (ps 5) 24 g0, ai (cy 0) (ps 6) 24 g1, ai (cy 0) (ps 7) 24 g2, ai (cy 0) (ps 8) 24 g3, ai (cy 0) (ps 9) 4 ht, ai (cy 0) (ps 10) 4 ld, oD d lt mn vs, ai (cy 0) (d 1) 24 pt, ai (cy 0) (d 2) 24 tk, ai (cy 0) (d 3) 24 mr, ai (cy 0) (d 4) 10 od, ai (cy 0) (d 5) 10 pl, ai (cy 0) (d 6) 4 rm, ai (cy 0) (d 7) 10 cd] H → va_D A [oP ps cn, ai (cy 0) (ps 1) 24 B, ai (cy 0) (ps 2) 24 C, ai (cy 0) (ps 3) 10 so, aq (cy 3) (ps 4) 4 (fun j => ps (5 + j)), ai (cy 0) (ps 5) 24 g0, ai (cy 0) (ps 6) 24 g1, ai (cy 0) (ps 7) 24 g2, ai (cy 0) (ps 8) 24 g3, ai (cy 0) (ps 9) 4 ht, ai (cy 0) (ps 10) 4 ld, oD d lt mn vs, ai (cy 0) (d 1) 24 pt, ai (cy 0) (d 2) 24 tk, ai (cy 0) (d 3) 24 mr, ai (cy 0) (d 4) 10 od, ai (cy 0) (d 5) 10 pl, ai (cy 0) (d 6) 4 rm, ai (cy 0) (d 7) 10 cd] → va_S A s.heap H locs → ∀ (ls : Array Slot), lv_has ls 3 [(0, .ref (ps 0)), (1, .ref (d 0)), (2, .int (iI i))] → W p l e rm_X2_begin s m args below meth c H locs 0 0 Q (F0 m 7 ls []) := by
    intro fu
    induction fu with
    | zero =>
      intro i cn B C h1 h0 h2 h3 hm
      exact absurd hm (Nat.not_lt_zero _)
    | succ fu ih_7 =>
      intro i cn B C h1 h0 h2 h3 hm H locs hP hD hS ls hl
      refine lv_iload_n hx hb dX2_begin_7 rfl (lv_at hl 2 rfl) ?_
      refine lv_aload_n hx hb dX2_begin_8 rfl (lv_at hl 1 rfl) ?_
      refine va_getN (D := D) (C := RX1) (T := TX1) (N := 10) (ci := 1) (v := .int (iI lt)) hx hb hts iw_X2_begin_1 hown hK hP 11 rfl rfl 0 (by decide) (nfX2_40 hN) (fun _ h9 => h9) rfl dX2_begin_9 ?_
      refine r_ge hx hb 62 dX2_begin_12 (by decide) ⟨by omega, by omega⟩ ⟨by omega, by omega⟩ (fun c_12 => ?_) (fun c_12 => ?_)
      ·
        exact hret [0, 1, 2, 3, 4, 5, 6, 7, 8, 9, 10, 11, 12, 13, 14, 15, 16, 17, 18] (cn, B, C) dX2_begin_62 hP hD hS (by decide) rfl (by rw [show lt = i by omega]; exact ⟨h0.1, h2, h3⟩)
      ·
        refine lv_aload_n hx hb dX2_begin_15 rfl (lv_at hl 0 rfl) ?_
        refine va_get (D := D) (C := RX2) (T := TX2) (N := 7) (ci := 2) (v := .ref (ps 2)) hx hb hts iw_X2_begin_2 hown hK hP 0 rfl rfl 2 (by decide) (hts _ fl_X2_begin_15) (fun _ h9 => h9) rfl dX2_begin_16 ?_
        refine lv_iload_n hx hb dX2_begin_19 rfl (lv_at hl 2 rfl) ?_
        refine lv_aload_n hx hb dX2_begin_20 rfl (lv_at hl 1 rfl) ?_
        refine va_getN (D := D) (C := RX1) (T := TX1) (N := 10) (ci := 1) (v := .ref (d 3)) hx hb hts iw_X2_begin_1 hown hK hP 11 rfl rfl 3 (by decide) (nfX2_64 hN) (fun _ h9 => h9) rfl dX2_begin_21 ?_
        refine lv_iload_n hx hb dX2_begin_24 rfl (lv_at hl 2 rfl) ?_
        refine r_ald hx hb hK hP 14 rfl rfl ⟨by omega, by omega, by omega⟩ dX2_begin_25 ?_
        have b_25 := hmr i
        refine r_ast hx hb hK hP hD hS 2 rfl rfl ⟨by omega, by omega, by omega⟩ dX2_begin_26 (fun H locs hP hD hS => ?_)
        replace hP : va_P D vwCl [oP ps cn, ai (cy 0) (ps 1) 24 B, ai (cy 0) (ps 2) 24 (ud C i (mr i)), ai (cy 0) (ps 3) 10 so, aq (cy 3) (ps 4) 4 (fun j => ps (5 + j)), ai (cy 0) (ps 5) 24 g0, ai (cy 0) (ps 6) 24 g1, ai (cy 0) (ps 7) 24 g2, ai (cy 0) (ps 8) 24 g3, ai (cy 0) (ps 9) 4 ht, ai (cy 0) (ps 10) 4 ld, oD d lt mn vs, ai (cy 0) (d 1) 24 pt, ai (cy 0) (d 2) 24 tk, ai (cy 0) (d 3) 24 mr, ai (cy 0) (d 4) 10 od, ai (cy 0) (d 5) 10 pl, ai (cy 0) (d 6) 4 rm, ai (cy 0) (d 7) 10 cd] H := hP
        replace hD : va_D A [oP ps cn, ai (cy 0) (ps 1) 24 B, ai (cy 0) (ps 2) 24 (ud C i (mr i)), ai (cy 0) (ps 3) 10 so, aq (cy 3) (ps 4) 4 (fun j => ps (5 + j)), ai (cy 0) (ps 5) 24 g0, ai (cy 0) (ps 6) 24 g1, ai (cy 0) (ps 7) 24 g2, ai (cy 0) (ps 8) 24 g3, ai (cy 0) (ps 9) 4 ht, ai (cy 0) (ps 10) 4 ld, oD d lt mn vs, ai (cy 0) (d 1) 24 pt, ai (cy 0) (d 2) 24 tk, ai (cy 0) (d 3) 24 mr, ai (cy 0) (d 4) 10 od, ai (cy 0) (d 5) 10 pl, ai (cy 0) (d 6) 4 rm, ai (cy 0) (d 7) 10 cd] := hD
        refine lv_aload_n hx hb dX2_begin_27 rfl (lv_at hl 1 rfl) ?_
        refine va_getN (D := D) (C := RX1) (T := TX1) (N := 10) (ci := 1) (v := .ref (d 3)) hx hb hts iw_X2_begin_1 hown hK hP 11 rfl rfl 3 (by decide) (nfX2_64 hN) (fun _ h9 => h9) rfl dX2_begin_28 ?_
        refine lv_iload_n hx hb dX2_begin_31 rfl (lv_at hl 2 rfl) ?_
        refine r_ald hx hb hK hP 14 rfl rfl ⟨by omega, by omega, by omega⟩ dX2_begin_32 ?_
        have b_32 := hmr i
        refine r_ne0 hx hb 56 dX2_begin_33 (by decide) ⟨by omega, by omega⟩ (fun c_33 => ?_) (fun c_33 => ?_)
        ·
          refine r_inc (k := 2) (lv' := [(2, .int (iI (i + 1))), (0, .ref (ps 0)), (1, .ref (d 0))]) hx hb dX2_begin_56 hl rfl (by decide) rfl (fun ls hl => ?_)
          refine lv_goto (tgt := 7) hx hb dX2_begin_59 (by decide) ?_
          exact ih_7 (i + 1) cn B (ud C i (mr i)) (by omega) (by omega) (by first | (rw [lst_push h0.1, h2, rw0_s h1.1, if_pos c_33]; done) | (rw [h2, rw0_s h1.1, if_neg c_33]; done)) (fun l q1 q2 => by by_cases e : l = i; (subst e; exact ud_at _ _ _); (rw [ud_ne e]; exact h3 l q1 (by omega))) (by omega) H locs (pick_P hP (is := [0, 1, 2, 3, 4, 5, 6, 7, 8, 9, 10, 11, 12, 13, 14, 15, 16, 17, 18]) rfl) (hD.sub [0, 1, 2, 3, 4, 5, 6, 7, 8, 9, 10, 11, 12, 13, 14, 15, 16, 17, 18] (by decide) rfl) hS ls (lv_sub hl [1, 2, 0] rfl)
        ·
          refine lv_aload_n hx hb dX2_begin_36 rfl (lv_at hl 0 rfl) ?_
          refine va_get (D := D) (C := RX2) (T := TX2) (N := 7) (ci := 2) (v := .ref (ps 1)) hx hb hts iw_X2_begin_2 hown hK hP 0 rfl rfl 0 (by decide) (hts _ fl_X2_begin_9) (fun _ h9 => h9) rfl dX2_begin_37 ?_
          refine lv_aload_n hx hb dX2_begin_40 rfl (lv_at hl 0 rfl) ?_
          refine va_get (D := D) (C := RX2) (T := TX2) (N := 7) (ci := 2) (v := .int (iI cn)) hx hb hts iw_X2_begin_2 hown hK hP 0 rfl rfl 1 (by decide) (hts _ fl_X2_begin_46) (fun _ h9 => h9) rfl dX2_begin_41 ?_
          refine lv_iload_n hx hb dX2_begin_44 rfl (lv_at hl 2 rfl) ?_
          refine r_ast hx hb hK hP hD hS 1 rfl rfl ⟨by omega, by omega, by omega⟩ dX2_begin_45 (fun H locs hP hD hS => ?_)
          replace hP : va_P D vwCl [oP ps cn, ai (cy 0) (ps 1) 24 (ud B cn i), ai (cy 0) (ps 2) 24 (ud C i (mr i)), ai (cy 0) (ps 3) 10 so, aq (cy 3) (ps 4) 4 (fun j => ps (5 + j)), ai (cy 0) (ps 5) 24 g0, ai (cy 0) (ps 6) 24 g1, ai (cy 0) (ps 7) 24 g2, ai (cy 0) (ps 8) 24 g3, ai (cy 0) (ps 9) 4 ht, ai (cy 0) (ps 10) 4 ld, oD d lt mn vs, ai (cy 0) (d 1) 24 pt, ai (cy 0) (d 2) 24 tk, ai (cy 0) (d 3) 24 mr, ai (cy 0) (d 4) 10 od, ai (cy 0) (d 5) 10 pl, ai (cy 0) (d 6) 4 rm, ai (cy 0) (d 7) 10 cd] H := hP
          replace hD : va_D A [oP ps cn, ai (cy 0) (ps 1) 24 (ud B cn i), ai (cy 0) (ps 2) 24 (ud C i (mr i)), ai (cy 0) (ps 3) 10 so, aq (cy 3) (ps 4) 4 (fun j => ps (5 + j)), ai (cy 0) (ps 5) 24 g0, ai (cy 0) (ps 6) 24 g1, ai (cy 0) (ps 7) 24 g2, ai (cy 0) (ps 8) 24 g3, ai (cy 0) (ps 9) 4 ht, ai (cy 0) (ps 10) 4 ld, oD d lt mn vs, ai (cy 0) (d 1) 24 pt, ai (cy 0) (d 2) 24 tk, ai (cy 0) (d 3) 24 mr, ai (cy 0) (d 4) 10 od, ai (cy 0) (d 5) 10 pl, ai (cy 0) (d 6) 4 rm, ai (cy 0) (d 7) 10 cd] := hD
          refine lv_aload_n hx hb dX2_begin_46 rfl (lv_at hl 0 rfl) ?_
          refine lv_dup hx hb dX2_begin_47 rfl ?_
          refine va_get (D := D) (C := RX2) (T := TX2) (N := 7) (ci := 2) (v := .int (iI cn)) hx hb hts iw_X2_begin_2 hown hK hP 0 rfl rfl 1 (by decide) (hts _ fl_X2_begin_46) (fun _ h9 => h9) rfl dX2_begin_48 ?_
          refine r_const hx hb dX2_begin_51 ?_
          refine r_add hx hb dX2_begin_52 ?_
          refine va_put (D := D) (C := RX2) (T := TX2) (N := 7) (ci := 2) (v := .int (iI (cn + 1))) (ty := .int) hx hb hts iw_X2_begin_2 tyX2 tyX2_ok nmX2 hown hK hP hD hS 0 rfl rfl 1 (by decide) (hts _ fl_X2_begin_46) (fun _ h9 => h9) rfl (by decide +kernel) rfl rfl (Nat.le_of_ble_eq_true rfl) dX2_begin_53 (fun H locs hP hD hS => ?_)
          replace hP : va_P D vwCl [oP ps (cn + 1), ai (cy 0) (ps 1) 24 (ud B cn i), ai (cy 0) (ps 2) 24 (ud C i (mr i)), ai (cy 0) (ps 3) 10 so, aq (cy 3) (ps 4) 4 (fun j => ps (5 + j)), ai (cy 0) (ps 5) 24 g0, ai (cy 0) (ps 6) 24 g1, ai (cy 0) (ps 7) 24 g2, ai (cy 0) (ps 8) 24 g3, ai (cy 0) (ps 9) 4 ht, ai (cy 0) (ps 10) 4 ld, oD d lt mn vs, ai (cy 0) (d 1) 24 pt, ai (cy 0) (d 2) 24 tk, ai (cy 0) (d 3) 24 mr, ai (cy 0) (d 4) 10 od, ai (cy 0) (d 5) 10 pl, ai (cy 0) (d 6) 4 rm, ai (cy 0) (d 7) 10 cd] H := hP
          replace hD : va_D A [oP ps (cn + 1), ai (cy 0) (ps 1) 24 (ud B cn i), ai (cy 0) (ps 2) 24 (ud C i (mr i)), ai (cy 0) (ps 3) 10 so, aq (cy 3) (ps 4) 4 (fun j => ps (5 + j)), ai (cy 0) (ps 5) 24 g0, ai (cy 0) (ps 6) 24 g1, ai (cy 0) (ps 7) 24 g2, ai (cy 0) (ps 8) 24 g3, ai (cy 0) (ps 9) 4 ht, ai (cy 0) (ps 10) 4 ld, oD d lt mn vs, ai (cy 0) (d 1) 24 pt, ai (cy 0) (d 2) 24 tk, ai (cy 0) (d 3) 24 mr, ai (cy 0) (d 4) 10 od, ai (cy 0) (d 5) 10 pl, ai (cy 0) (d 6) 4 rm, ai (cy 0) (d 7) 10 cd] := hD
          refine r_inc (k := 2) (lv' := [(2, .int (iI (i + 1))), (0, .ref (ps 0)), (1, .ref (d 0))]) hx hb dX2_begin_56 hl rfl (by decide) rfl (fun ls hl => ?_)
          refine lv_goto (tgt := 7) hx hb dX2_begin_59 (by decide) ?_
          exact ih_7 (i + 1) (cn + 1) (ud B cn i) (ud C i (mr i)) (by omega) (by omega) (by first | (rw [lst_push h0.1, h2, rw0_s h1.1, if_pos c_33]; done) | (rw [h2, rw0_s h1.1, if_neg c_33]; done)) (fun l q1 q2 => by by_cases e : l = i; (subst e; exact ud_at _ _ _); (rw [ud_ne e]; exact h3 l q1 (by omega))) (by omega) H locs (pick_P hP (is := [0, 1, 2, 3, 4, 5, 6, 7, 8, 9, 10, 11, 12, 13, 14, 15, 16, 17, 18]) rfl) (hD.sub [0, 1, 2, 3, 4, 5, 6, 7, 8, 9, 10, 11, 12, 13, 14, 15, 16, 17, 18] (by decide) rfl) hS ls (lv_sub hl [1, 2, 0] rfl)
  exact lp_7 _ 0 0 or sa (by omega) (by omega) (rfl) (fun l q1 q2 => by omega) (Nat.lt_succ_self _) H locs (pick_P hP (is := [0, 1, 2, 3, 4, 5, 6, 7, 8, 9, 10, 11, 12, 13, 14, 15, 16, 17, 18]) rfl) (hD.sub [0, 1, 2, 3, 4, 5, 6, 7, 8, 9, 10, 11, 12, 13, 14, 15, 16, 17, 18] (by decide) rfl) hS ls (lv_sub hl [1, 2, 0] rfl)
abbrev rm_X2_aim : Room := { frames := 1, cells := 0, slots := 0, locals := 22 }
theorem fl_X2_aim_18 : Cond.fieldLink RX2 18 "WalkPasses$Passes" "stackerOf" "[I" ∈ wsX2_aim := by decide +kernel
theorem iw_X2_aim_2 : ∀ w ∈ u_ws RX2 TX2 7, w ∈ wsX2_aim := by decide +kernel
set_option maxHeartbeats 4000000 in
set_option maxRecDepth 100000 in
theorem k_X2_aim (l : Launch) (D : va_G) (cy : Nat → ClassId) (ps : Nat → Nat) (a : Nat) (z : Nat) (cm : Int) (or sa so g0 g1 g2 g3 ht ld : Int → Int) (cd : Int → Int) (un mn : Int) (hcd : ∀ j, 0 ≤ cd j ∧ cd j ≤ 63) (hun : 1 ≤ un ∧ un ≤ 1000) (hmn : 2 ≤ mn ∧ mn ≤ 4) : CtV l yX2_aim wsX2_aim rm_X2_aim D (tyL cy) [.ref (ps 0), .ref (a), .int (iI un), .int (iI mn)] [oP ps cm, ai (cy 0) (ps 1) 24 or, ai (cy 0) (ps 2) 24 sa, ai (cy 0) (ps 3) 10 so, aq (cy 3) (ps 4) 4 (fun j => ps (5 + j)), ai (cy 0) (ps 5) 24 g0, ai (cy 0) (ps 6) 24 g1, ai (cy 0) (ps 7) 24 g2, ai (cy 0) (ps 8) 24 g3, ai (cy 0) (ps 9) 4 ht, ai (cy 0) (ps 10) 4 ld, ai (cy 0) a 10 cd] z (fun (u : Int → Int) => ∀ q, 0 ≤ q → q ≤ 9 → u q = cd q / un % mn ∧ 0 ≤ u q ∧ u q < mn) (fun (u : Int → Int) => [oP ps cm, ai (cy 0) (ps 1) 24 or, ai (cy 0) (ps 2) 24 sa, ai (cy 0) (ps 3) 10 u, aq (cy 3) (ps 4) 4 (fun j => ps (5 + j)), ai (cy 0) (ps 5) 24 g0, ai (cy 0) (ps 6) 24 g1, ai (cy 0) (ps 7) 24 g2, ai (cy 0) (ps 8) 24 g3, ai (cy 0) (ps 9) 4 ht, ai (cy 0) (ps 10) 4 ld, ai (cy 0) a 10 cd]) 0 0 := by
  refine ct_v (cc := cX2_aim) (maxL := 5) (by decide) rfl (Nat.le_of_ble_eq_true rfl) ?_
  intro p e s m args below meth c A Q H locs ls hx hb hml hown hin hts hK hN hP hD hS hA hl hret
  replace hl : lv_has ls 5 [(0, .ref (ps 0)), (1, .ref (a)), (2, .int (iI un)), (3, .int (iI mn))] := hl
  replace hown : s.vm.findClass RX2 = some m.cls := hown
  refine r_const hx hb dX2_aim_0 ?_
  refine lv_istore (lv' := [(4, .int (iI 0)), (0, .ref (ps 0)), (1, .ref (a)), (2, .int (iI un)), (3, .int (iI mn))]) hx hb dX2_aim_1 hl (by decide) rfl (fun ls hl => ?_)
  have lp_3 : ∀ (fu : Nat) (i : Int) (B : Int → Int), (0 ≤ i ∧ i ≤ 10) → (∀ q, 0 ≤ q → q < i → B q = cd q / un % mn ∧ 0 ≤ B q ∧ B q < mn) → (10 - i).toNat < fu → ∀ (H : Heap) (locs : List Loc), va_P D vwCl [oP ps cm, ai (cy 0) (ps 1) 24 or, ai (cy 0) (ps 2) 24 sa, ai (cy 0) (ps 3) 10 B, aq (cy 3) (ps 4) 4 (fun j => ps (5 + j)), ai (cy 0) (ps 5) 24 g0, ai (cy 0) (ps 6) 24 g1, ai (cy 0) (ps 7) 24 g2, ai (cy 0) (ps 8) 24 g3, ai (cy 0) (ps 9) 4 ht, ai (cy 0) (ps 10) 4 ld, ai (cy 0) a 10 cd] H → va_D A [oP ps cm, ai (cy 0) (ps 1) 24 or, ai (cy 0) (ps 2) 24 sa, ai (cy 0) (ps 3) 10 B, aq (cy 3) (ps 4) 4 (fun j => ps (5 + j)), ai (cy 0) (ps 5) 24 g0, ai (cy 0) (ps 6) 24 g1, ai (cy 0) (ps 7) 24 g2, ai (cy 0) (ps 8) 24 g3, ai (cy 0) (ps 9) 4 ht, ai (cy 0) (ps 10) 4 ld, ai (cy 0) a 10 cd] → va_S A s.heap H locs → ∀ (ls : Array Slot), lv_has ls 5 [(0, .ref (ps 0)), (1, .ref (a)), (2, .int (iI un)), (3, .int (iI mn)), (4, .int (iI i))] → W p l e rm_X2_aim s m args below meth c H locs 0 0 Q (F0 m 3 ls []) := by
    intro fu
    induction fu with
    | zero =>
      intro i B h1 h2 hm
      exact absurd hm (Nat.not_lt_zero _)
    | succ fu ih_3 =>
      intro i B h1 h2 hm H locs hP hD hS ls hl
      refine lv_iload hx hb dX2_aim_3 (lv_at hl 4 rfl) ?_
      refine r_bip hx hb (10) dX2_aim_5 (by decide) ?_
      refine r_ge hx hb 32 dX2_aim_7 (by decide) ⟨by omega, by omega⟩ ⟨by omega, by omega⟩ (fun c_7 => ?_) (fun c_7 => ?_)
      ·
        exact hret [0, 1, 2, 3, 4, 5, 6, 7, 8, 9, 10, 11] B dX2_aim_32 hP hD hS (by decide) rfl (fun q q1 q2 => h2 q q1 (by omega))
      ·
        refine lv_aload_n hx hb dX2_aim_10 rfl (lv_at hl 0 rfl) ?_
        refine va_get (D := D) (C := RX2) (T := TX2) (N := 7) (ci := 2) (v := .ref (ps 3)) hx hb hts iw_X2_aim_2 hown hK hP 0 rfl rfl 3 (by decide) (hts _ fl_X2_aim_18) (fun _ h9 => h9) rfl dX2_aim_11 ?_
        refine lv_iload hx hb dX2_aim_14 (lv_at hl 4 rfl) ?_
        refine lv_aload_n hx hb dX2_aim_16 rfl (lv_at hl 1 rfl) ?_
        refine lv_iload hx hb dX2_aim_17 (lv_at hl 4 rfl) ?_
        refine r_ald hx hb hK hP 11 rfl rfl ⟨by omega, by omega, by omega⟩ dX2_aim_19 ?_
        have b_19 := hcd i
        refine lv_iload_n hx hb dX2_aim_20 rfl (lv_at hl 2 rfl) ?_
        refine lv_iload_n hx hb dX2_aim_21 rfl (lv_at hl 3 rfl) ?_
        have M_22 := k_X5_figure l D cy  H.size (cd i) un mn (⟨by omega, by omega⟩) (⟨by omega, by omega⟩) (⟨by omega, by omega⟩)
        refine kSN_i (wr := [oP ps cm, ai (cy 0) (ps 1) 24 or, ai (cy 0) (ps 2) 24 sa, ai (cy 0) (ps 3) 10 B, aq (cy 3) (ps 4) 4 (fun j => ps (5 + j)), ai (cy 0) (ps 5) 24 g0, ai (cy 0) (ps 6) 24 g1, ai (cy 0) (ps 7) 24 g2, ai (cy 0) (ps 8) 24 g3, ai (cy 0) (ps 9) 4 ht, ai (cy 0) (ps 10) 4 ld, ai (cy 0) a 10 cd]) (As := [.int (iI (cd i)), .int (iI un), .int (iI mn)]) (rest := [.int (iI i), .ref (ps 3)]) ⟨hx, hb, hml, hown, hts⟩ M_22 ⟨va_cnB 3 hts gX2_aim_X5_figure_n67 rfl rfl rfl (nmX2_67 hN) (hts (.initialized RX5) (by decide +kernel)) (by decide +kernel) ⟨Nat.le_of_ble_eq_true rfl, Nat.le_of_ble_eq_true rfl⟩, hts (.static yX5_figure) (by decide +kernel), trivial⟩ hN hK hP hD hS hA [] [0, 1, 2, 3, 4, 5, 6, 7, 8, 9, 10, 11] rfl rfl (by decide) (by decide) (by decide) rfl hl.1 rfl (Nat.le_of_ble_eq_true rfl) dX2_aim_22 ⟨Nat.le_of_ble_eq_true rfl, Nat.le_of_ble_eq_true rfl⟩ (fun r_22 u_22 H locs hw_22 hP hD hS => ?_)
        replace hP : va_P D vwCl [oP ps cm, ai (cy 0) (ps 1) 24 or, ai (cy 0) (ps 2) 24 sa, ai (cy 0) (ps 3) 10 B, aq (cy 3) (ps 4) 4 (fun j => ps (5 + j)), ai (cy 0) (ps 5) 24 g0, ai (cy 0) (ps 6) 24 g1, ai (cy 0) (ps 7) 24 g2, ai (cy 0) (ps 8) 24 g3, ai (cy 0) (ps 9) 4 ht, ai (cy 0) (ps 10) 4 ld, ai (cy 0) a 10 cd] H := hP
        replace hD : va_D A [oP ps cm, ai (cy 0) (ps 1) 24 or, ai (cy 0) (ps 2) 24 sa, ai (cy 0) (ps 3) 10 B, aq (cy 3) (ps 4) 4 (fun j => ps (5 + j)), ai (cy 0) (ps 5) 24 g0, ai (cy 0) (ps 6) 24 g1, ai (cy 0) (ps 7) 24 g2, ai (cy 0) (ps 8) 24 g3, ai (cy 0) (ps 9) 4 ht, ai (cy 0) (ps 10) 4 ld, ai (cy 0) a 10 cd] := hD
        refine r_ast hx hb hK hP hD hS 3 rfl rfl ⟨by omega, by omega, by omega⟩ dX2_aim_25 (fun H locs hP hD hS => ?_)
        replace hP : va_P D vwCl [oP ps cm, ai (cy 0) (ps 1) 24 or, ai (cy 0) (ps 2) 24 sa, ai (cy 0) (ps 3) 10 (ud B i r_22), aq (cy 3) (ps 4) 4 (fun j => ps (5 + j)), ai (cy 0) (ps 5) 24 g0, ai (cy 0) (ps 6) 24 g1, ai (cy 0) (ps 7) 24 g2, ai (cy 0) (ps 8) 24 g3, ai (cy 0) (ps 9) 4 ht, ai (cy 0) (ps 10) 4 ld, ai (cy 0) a 10 cd] H := hP
        replace hD : va_D A [oP ps cm, ai (cy 0) (ps 1) 24 or, ai (cy 0) (ps 2) 24 sa, ai (cy 0) (ps 3) 10 (ud B i r_22), aq (cy 3) (ps 4) 4 (fun j => ps (5 + j)), ai (cy 0) (ps 5) 24 g0, ai (cy 0) (ps 6) 24 g1, ai (cy 0) (ps 7) 24 g2, ai (cy 0) (ps 8) 24 g3, ai (cy 0) (ps 9) 4 ht, ai (cy 0) (ps 10) 4 ld, ai (cy 0) a 10 cd] := hD
        refine r_inc (k := 4) (lv' := [(4, .int (iI (i + 1))), (0, .ref (ps 0)), (1, .ref (a)), (2, .int (iI un)), (3, .int (iI mn))]) hx hb dX2_aim_26 hl rfl (by decide) rfl (fun ls hl => ?_)
        refine lv_goto (tgt := 3) hx hb dX2_aim_29 (by decide) ?_
        exact ih_3 (i + 1) (ud B i r_22) (by omega) (fun l q1 q2 => by by_cases e : l = i; (subst e; rw [ud_at]; exact hw_22); (rw [ud_ne e]; exact h2 l q1 (by omega))) (by omega) H locs (pick_P hP (is := [0, 1, 2, 3, 4, 5, 6, 7, 8, 9, 10, 11]) rfl) (hD.sub [0, 1, 2, 3, 4, 5, 6, 7, 8, 9, 10, 11] (by decide) rfl) hS ls (lv_sub hl [1, 2, 3, 4, 0] rfl)
  exact lp_3 _ 0 so (by omega) (fun l q1 q2 => by omega) (Nat.lt_succ_self _) H locs (pick_P hP (is := [0, 1, 2, 3, 4, 5, 6, 7, 8, 9, 10, 11]) rfl) (hD.sub [0, 1, 2, 3, 4, 5, 6, 7, 8, 9, 10, 11] (by decide) rfl) hS ls (lv_sub hl [1, 2, 3, 4, 0] rfl)
abbrev rm_X2_stack : Room := { frames := 1, cells := 0, slots := 0, locals := 23 }
theorem fl_X2_stack_9 : Cond.fieldLink RX2 9 "WalkPasses$Passes" "order" "[I" ∈ wsX2_stack := by decide +kernel
theorem fl_X2_stack_15 : Cond.fieldLink RX2 15 "WalkPasses$Passes" "spilledAt" "[I" ∈ wsX2_stack := by decide +kernel
theorem fl_X2_stack_18 : Cond.fieldLink RX2 18 "WalkPasses$Passes" "stackerOf" "[I" ∈ wsX2_stack := by decide +kernel
theorem fl_X2_stack_23 : Cond.fieldLink RX2 23 "WalkPasses$Passes" "piles" "[[I" ∈ wsX2_stack := by decide +kernel
theorem fl_X2_stack_26 : Cond.fieldLink RX2 26 "WalkPasses$Passes" "heights" "[I" ∈ wsX2_stack := by decide +kernel
theorem fl_X2_stack_29 : Cond.fieldLink RX2 29 "WalkPasses$Passes" "loads" "[I" ∈ wsX2_stack := by decide +kernel
theorem fl_X2_stack_46 : Cond.fieldLink RX2 46 "WalkPasses$Passes" "coming" "I" ∈ wsX2_stack := by decide +kernel
theorem iw_X2_stack_1 : ∀ w ∈ u_ws RX1 TX1 10, w ∈ wsX2_stack := by decide +kernel
theorem iw_X2_stack_2 : ∀ w ∈ u_ws RX2 TX2 7, w ∈ wsX2_stack := by decide +kernel
set_option maxHeartbeats 4000000 in
set_option maxRecDepth 100000 in
theorem k_X2_stack (l : Launch) (D : va_G) (cy : Nat → ClassId) (ps d : Nat → Nat) (z : Nat) (cm : Int) (or sa so g0 g1 g2 g3 ht ld : Int → Int) (lt mn vs : Int) (pt tk mr od pl rm cd : Int → Int) (jj : Int) (hI : DI lt mn pt tk mr od pl rm cd) (hcm : 0 ≤ cm ∧ cm ≤ 24) (hor : ∀ i, 0 ≤ i → i < cm → 0 ≤ or i ∧ or i < lt) (hso : ∀ q, 0 ≤ q → q ≤ 9 → 0 ≤ so q ∧ so q < mn) : CtV l yX2_stack wsX2_stack rm_X2_stack D (tyL cy) [.ref (ps 0), .ref (d 0), .int (iI jj)] [oP ps cm, ai (cy 0) (ps 1) 24 or, ai (cy 0) (ps 2) 24 sa, ai (cy 0) (ps 3) 10 so, aq (cy 3) (ps 4) 4 (fun j => ps (5 + j)), ai (cy 0) (ps 5) 24 g0, ai (cy 0) (ps 6) 24 g1, ai (cy 0) (ps 7) 24 g2, ai (cy 0) (ps 8) 24 g3, ai (cy 0) (ps 9) 4 ht, ai (cy 0) (ps 10) 4 ld, oD d lt mn vs, ai (cy 0) (d 1) 24 pt, ai (cy 0) (d 2) 24 tk, ai (cy 0) (d 3) 24 mr, ai (cy 0) (d 4) 10 od, ai (cy 0) (d 5) 10 pl, ai (cy 0) (d 6) 4 rm, ai (cy 0) (d 7) 10 cd] z (fun (u : (Int → Int) × (Int → Int) × (Int → Int) × (Int → Int) × (Int → Int) × (Int → Int) × (Int → Int)) => StkP (fun l => so (pt l)) tk rm (lst or cm.toNat) jj sa u.1 u.2.1 u.2.2.1 u.2.2.2.1 u.2.2.2.2.1 u.2.2.2.2.2.1 u.2.2.2.2.2.2) (fun (u : (Int → Int) × (Int → Int) × (Int → Int) × (Int → Int) × (Int → Int) × (Int → Int) × (Int → Int)) => [oP ps cm, ai (cy 0) (ps 1) 24 or, ai (cy 0) (ps 2) 24 u.1, ai (cy 0) (ps 3) 10 so, aq (cy 3) (ps 4) 4 (fun j => ps (5 + j)), ai (cy 0) (ps 5) 24 u.2.1, ai (cy 0) (ps 6) 24 u.2.2.1, ai (cy 0) (ps 7) 24 u.2.2.2.1, ai (cy 0) (ps 8) 24 u.2.2.2.2.1, ai (cy 0) (ps 9) 4 u.2.2.2.2.2.1, ai (cy 0) (ps 10) 4 u.2.2.2.2.2.2, oD d lt mn vs, ai (cy 0) (d 1) 24 pt, ai (cy 0) (d 2) 24 tk, ai (cy 0) (d 3) 24 mr, ai (cy 0) (d 4) 10 od, ai (cy 0) (d 5) 10 pl, ai (cy 0) (d 6) 4 rm, ai (cy 0) (d 7) 10 cd]) 0 0 := by
  refine ct_v (cc := cX2_stack) (maxL := 7) (by decide) rfl (Nat.le_of_ble_eq_true rfl) ?_
  intro p e s m args below meth c A Q H locs ls hx hb hml hown hin hts hK hN hP hD hS hA hl hret
  replace hl : lv_has ls 7 [(0, .ref (ps 0)), (1, .ref (d 0)), (2, .int (iI jj))] := hl
  replace hown : s.vm.findClass RX2 = some m.cls := hown
  obtain ⟨⟨⟨hlt0, hlt1⟩, hmn0, hmn1⟩, ⟨hpt, htk, hmr⟩, ⟨hod, hpl, hpo, hop⟩, hrm, hcd⟩ := id hI
  refine lv_aload_n hx hb dX2_stack_0 rfl (lv_at hl 0 rfl) ?_
  refine va_get (D := D) (C := RX2) (T := TX2) (N := 7) (ci := 2) (v := .ref (ps 9)) hx hb hts iw_X2_stack_2 hown hK hP 0 rfl rfl 5 (by decide) (hts _ fl_X2_stack_26) (fun _ h9 => h9) rfl dX2_stack_1 ?_
  refine r_const hx hb dX2_stack_4 ?_
  have M_5 := k_J7_fill_53178 l D cy (ps 9) H.size 4 ht 0 (by decide)
  refine kS_v (wr := [oP ps cm, ai (cy 0) (ps 1) 24 or, ai (cy 0) (ps 2) 24 sa, ai (cy 0) (ps 3) 10 so, aq (cy 3) (ps 4) 4 (fun j => ps (5 + j)), ai (cy 0) (ps 5) 24 g0, ai (cy 0) (ps 6) 24 g1, ai (cy 0) (ps 7) 24 g2, ai (cy 0) (ps 8) 24 g3, ai (cy 0) (ps 10) 4 ld, oD d lt mn vs, ai (cy 0) (d 1) 24 pt, ai (cy 0) (d 2) 24 tk, ai (cy 0) (d 3) 24 mr, ai (cy 0) (d 4) 10 od, ai (cy 0) (d 5) 10 pl, ai (cy 0) (d 6) 4 rm, ai (cy 0) (d 7) 10 cd]) (As := [.ref (ps 9), .int (iI 0)]) (rest := []) ⟨hx, hb, hml, hown, hts⟩ M_5 (va_cwS 2 hts gX2_stack_J7_fill_53178 rfl rfl rfl (by decide +kernel) ⟨Nat.le_of_ble_eq_true rfl, Nat.le_of_ble_eq_true rfl⟩) hN hK hP hD hS hA [9] [0, 1, 2, 3, 4, 5, 6, 7, 8, 10, 11, 12, 13, 14, 15, 16, 17, 18] rfl rfl (by decide) (by decide) (by decide) rfl hl.1 rfl (Nat.le_of_ble_eq_true rfl) dX2_stack_5 ⟨Nat.le_of_ble_eq_true rfl, Nat.le_of_ble_eq_true rfl⟩ (fun u_5 H locs hw_5 hP hD hS => ?_)
  replace hP : va_P D vwCl [oP ps cm, ai (cy 0) (ps 1) 24 or, ai (cy 0) (ps 2) 24 sa, ai (cy 0) (ps 3) 10 so, aq (cy 3) (ps 4) 4 (fun j => ps (5 + j)), ai (cy 0) (ps 5) 24 g0, ai (cy 0) (ps 6) 24 g1, ai (cy 0) (ps 7) 24 g2, ai (cy 0) (ps 8) 24 g3, ai (cy 0) (ps 10) 4 ld, oD d lt mn vs, ai (cy 0) (d 1) 24 pt, ai (cy 0) (d 2) 24 tk, ai (cy 0) (d 3) 24 mr, ai (cy 0) (d 4) 10 od, ai (cy 0) (d 5) 10 pl, ai (cy 0) (d 6) 4 rm, ai (cy 0) (d 7) 10 cd, ai (cy 0) (ps 9) 4 (fun _ => 0)] H := hP
  replace hD : va_D A [oP ps cm, ai (cy 0) (ps 1) 24 or, ai (cy 0) (ps 2) 24 sa, ai (cy 0) (ps 3) 10 so, aq (cy 3) (ps 4) 4 (fun j => ps (5 + j)), ai (cy 0) (ps 5) 24 g0, ai (cy 0) (ps 6) 24 g1, ai (cy 0) (ps 7) 24 g2, ai (cy 0) (ps 8) 24 g3, ai (cy 0) (ps 10) 4 ld, oD d lt mn vs, ai (cy 0) (d 1) 24 pt, ai (cy 0) (d 2) 24 tk, ai (cy 0) (d 3) 24 mr, ai (cy 0) (d 4) 10 od, ai (cy 0) (d 5) 10 pl, ai (cy 0) (d 6) 4 rm, ai (cy 0) (d 7) 10 cd, ai (cy 0) (ps 9) 4 (fun _ => 0)] := hD
  refine lv_aload_n hx hb dX2_stack_8 rfl (lv_at hl 0 rfl) ?_
  refine va_get (D := D) (C := RX2) (T := TX2) (N := 7) (ci := 2) (v := .ref (ps 10)) hx hb hts iw_X2_stack_2 hown hK hP 0 rfl rfl 6 (by decide) (hts _ fl_X2_stack_29) (fun _ h9 => h9) rfl dX2_stack_9 ?_
  refine r_const hx hb dX2_stack_12 ?_
  have M_13 := k_J7_fill_53178 l D cy (ps 10) H.size 4 ld 0 (by decide)
  refine kS_v (wr := [oP ps cm, ai (cy 0) (ps 1) 24 or, ai (cy 0) (ps 2) 24 sa, ai (cy 0) (ps 3) 10 so, aq (cy 3) (ps 4) 4 (fun j => ps (5 + j)), ai (cy 0) (ps 5) 24 g0, ai (cy 0) (ps 6) 24 g1, ai (cy 0) (ps 7) 24 g2, ai (cy 0) (ps 8) 24 g3, oD d lt mn vs, ai (cy 0) (d 1) 24 pt, ai (cy 0) (d 2) 24 tk, ai (cy 0) (d 3) 24 mr, ai (cy 0) (d 4) 10 od, ai (cy 0) (d 5) 10 pl, ai (cy 0) (d 6) 4 rm, ai (cy 0) (d 7) 10 cd, ai (cy 0) (ps 9) 4 (fun _ => 0)]) (As := [.ref (ps 10), .int (iI 0)]) (rest := []) ⟨hx, hb, hml, hown, hts⟩ M_13 (va_cwS 2 hts gX2_stack_J7_fill_53178 rfl rfl rfl (by decide +kernel) ⟨Nat.le_of_ble_eq_true rfl, Nat.le_of_ble_eq_true rfl⟩) hN hK hP hD hS hA [9] [0, 1, 2, 3, 4, 5, 6, 7, 8, 10, 11, 12, 13, 14, 15, 16, 17, 18] rfl rfl (by decide) (by decide) (by decide) rfl hl.1 rfl (Nat.le_of_ble_eq_true rfl) dX2_stack_13 ⟨Nat.le_of_ble_eq_true rfl, Nat.le_of_ble_eq_true rfl⟩ (fun u_13 H locs hw_13 hP hD hS => ?_)
  replace hP : va_P D vwCl [oP ps cm, ai (cy 0) (ps 1) 24 or, ai (cy 0) (ps 2) 24 sa, ai (cy 0) (ps 3) 10 so, aq (cy 3) (ps 4) 4 (fun j => ps (5 + j)), ai (cy 0) (ps 5) 24 g0, ai (cy 0) (ps 6) 24 g1, ai (cy 0) (ps 7) 24 g2, ai (cy 0) (ps 8) 24 g3, oD d lt mn vs, ai (cy 0) (d 1) 24 pt, ai (cy 0) (d 2) 24 tk, ai (cy 0) (d 3) 24 mr, ai (cy 0) (d 4) 10 od, ai (cy 0) (d 5) 10 pl, ai (cy 0) (d 6) 4 rm, ai (cy 0) (d 7) 10 cd, ai (cy 0) (ps 9) 4 (fun _ => 0), ai (cy 0) (ps 10) 4 (fun _ => 0)] H := hP
  replace hD : va_D A [oP ps cm, ai (cy 0) (ps 1) 24 or, ai (cy 0) (ps 2) 24 sa, ai (cy 0) (ps 3) 10 so, aq (cy 3) (ps 4) 4 (fun j => ps (5 + j)), ai (cy 0) (ps 5) 24 g0, ai (cy 0) (ps 6) 24 g1, ai (cy 0) (ps 7) 24 g2, ai (cy 0) (ps 8) 24 g3, oD d lt mn vs, ai (cy 0) (d 1) 24 pt, ai (cy 0) (d 2) 24 tk, ai (cy 0) (d 3) 24 mr, ai (cy 0) (d 4) 10 od, ai (cy 0) (d 5) 10 pl, ai (cy 0) (d 6) 4 rm, ai (cy 0) (d 7) 10 cd, ai (cy 0) (ps 9) 4 (fun _ => 0), ai (cy 0) (ps 10) 4 (fun _ => 0)] := hD
  refine r_const hx hb dX2_stack_16 ?_
  refine lv_istore_n (lv' := [(3, .int (iI 0)), (0, .ref (ps 0)), (1, .ref (d 0)), (2, .int (iI jj))]) hx hb dX2_stack_17 rfl hl (by decide) rfl (fun ls hl => ?_)
  have lp_18 : ∀ (fu : Nat) (i : Int) (SA : Int → Int) (A0 : Int → Int) (A1 : Int → Int) (A2 : Int → Int) (A3 : Int → Int) (HT : Int → Int) (LD : Int → Int), (0 ≤ i ∧ i ≤ cm) → (StkP (fun l => so (pt l)) tk rm (lst or i.toNat) jj sa SA A0 A1 A2 A3 HT LD) → (cm - i).toNat < fu → ∀ (H : Heap) (locs : List Loc), va_P D vwCl [oP ps cm, ai (cy 0) (ps 1) 24 or, ai (cy 0) (ps 2) 24 SA, ai (cy 0) (ps 3) 10 so, aq (cy 3) (ps 4) 4 (fun j => ps (5 + j)), ai (cy 0) (ps 5) 24 A0, ai (cy 0) (ps 6) 24 A1, ai (cy 0) (ps 7) 24 A2, ai (cy 0) (ps 8) 24 A3, oD d lt mn vs, ai (cy 0) (d 1) 24 pt, ai (cy 0) (d 2) 24 tk, ai (cy 0) (d 3) 24 mr, ai (cy 0) (d 4) 10 od, ai (cy 0) (d 5) 10 pl, ai (cy 0) (d 6) 4 rm, ai (cy 0) (d 7) 10 cd, ai (cy 0) (ps 9) 4 HT, ai (cy 0) (ps 10) 4 LD] H → va_D A [oP ps cm, ai (cy 0) (ps 1) 24 or, ai (cy 0) (ps 2) 24 SA, ai (cy 0) (ps 3) 10 so, aq (cy 3) (ps 4) 4 (fun j => ps (5 + j)), ai (cy 0) (ps 5) 24 A0, ai (cy 0) (ps 6) 24 A1, ai (cy 0) (ps 7) 24 A2, ai (cy 0) (ps 8) 24 A3, oD d lt mn vs, ai (cy 0) (d 1) 24 pt, ai (cy 0) (d 2) 24 tk, ai (cy 0) (d 3) 24 mr, ai (cy 0) (d 4) 10 od, ai (cy 0) (d 5) 10 pl, ai (cy 0) (d 6) 4 rm, ai (cy 0) (d 7) 10 cd, ai (cy 0) (ps 9) 4 HT, ai (cy 0) (ps 10) 4 LD] → va_S A s.heap H locs → ∀ (ls : Array Slot), lv_has ls 7 [(0, .ref (ps 0)), (1, .ref (d 0)), (2, .int (iI jj)), (3, .int (iI i))] → W p l e rm_X2_stack s m args below meth c H locs 0 0 Q (F0 m 18 ls []) := by
    intro fu
    induction fu with
    | zero =>
      intro i SA A0 A1 A2 A3 HT LD h1 hp hm
      exact absurd hm (Nat.not_lt_zero _)
    | succ fu ih_18 =>
      intro i SA A0 A1 A2 A3 HT LD h1 hp hm H locs hP hD hS ls hl
      have hLb : ∀ s, 0 ≤ LD s ∧ LD s ≤ 99 := by rw [hp.1]; exact pas_ld _ tk rm _ htk hrm
      have hHb := StkP_h hp
      have hHl := StkP_hl hp
      rw [lst_len] at hHl
      refine lv_iload_n hx hb dX2_stack_18 rfl (lv_at hl 3 rfl) ?_
      refine lv_aload_n hx hb dX2_stack_19 rfl (lv_at hl 0 rfl) ?_
      refine va_get (D := D) (C := RX2) (T := TX2) (N := 7) (ci := 2) (v := .int (iI cm)) hx hb hts iw_X2_stack_2 hown hK hP 0 rfl rfl 1 (by decide) (hts _ fl_X2_stack_46) (fun _ h9 => h9) rfl dX2_stack_20 ?_
      refine r_ge hx hb 131 dX2_stack_23 (by decide) ⟨by omega, by omega⟩ ⟨by omega, by omega⟩ (fun c_23 => ?_) (fun c_23 => ?_)
      ·
        exact hret [0, 1, 2, 3, 4, 5, 6, 7, 8, 17, 18, 9, 10, 11, 12, 13, 14, 15, 16] (SA, A0, A1, A2, A3, HT, LD) dX2_stack_131 hP hD hS (by decide) rfl (by rw [show cm = i by omega]; exact hp)
      ·
        refine lv_aload_n hx hb dX2_stack_26 rfl (lv_at hl 0 rfl) ?_
        refine va_get (D := D) (C := RX2) (T := TX2) (N := 7) (ci := 2) (v := .ref (ps 1)) hx hb hts iw_X2_stack_2 hown hK hP 0 rfl rfl 0 (by decide) (hts _ fl_X2_stack_9) (fun _ h9 => h9) rfl dX2_stack_27 ?_
        refine lv_iload_n hx hb dX2_stack_30 rfl (lv_at hl 3 rfl) ?_
        refine r_ald hx hb hK hP 1 rfl rfl ⟨by omega, by omega, by omega⟩ dX2_stack_31 ?_
        refine lv_istore (lv' := [(4, .int (iI (or i))), (0, .ref (ps 0)), (1, .ref (d 0)), (2, .int (iI jj)), (3, .int (iI i))]) hx hb dX2_stack_32 hl (by decide) rfl (fun ls hl => ?_)
        have ho1 := hor i h1.1 (by omega)
        refine lv_aload_n hx hb dX2_stack_34 rfl (lv_at hl 1 rfl) ?_
        refine va_get (D := D) (C := RX2) (T := TX2) (N := 7) (ci := 2) (v := .ref (ps 3)) hx hb hts iw_X2_stack_2 hown hK hP 0 rfl rfl 3 (by decide) (hts _ fl_X2_stack_18) (fun _ h9 => h9) rfl dX2_stack_35 ?_
        refine lv_aload_n hx hb dX2_stack_38 rfl (lv_at hl 2 rfl) ?_
        refine va_getN (D := D) (C := RX1) (T := TX1) (N := 10) (ci := 1) (v := .ref (d 1)) hx hb hts iw_X2_stack_1 hown hK hP 9 rfl rfl 1 (by decide) (nfX2_77 hN) (fun _ h9 => h9) rfl dX2_stack_39 ?_
        refine lv_iload hx hb dX2_stack_42 (lv_at hl 0 rfl) ?_
        refine r_ald hx hb hK hP 10 rfl rfl ⟨by omega, by omega, by omega⟩ dX2_stack_44 ?_
        have b_44 := hpt (or i)
        have hs0 := hso (pt (or i)) (by omega) (by omega)
        obtain ⟨s5, hs5⟩ : ∃ z, z = so (pt (or i)) := ⟨_, rfl⟩
        rw [← hs5] at hs0
        have hL5 := hLb s5
        have hH5 := hHb s5
        have hHl5 := hHl s5
        refine r_ald hx hb hK hP 3 rfl rfl ⟨by omega, by omega, by omega⟩ dX2_stack_45 ?_
        refine r_top (s5) (hs5.symm) ?_
        refine lv_istore (lv' := [(5, .int (iI s5)), (4, .int (iI (or i))), (0, .ref (ps 0)), (1, .ref (d 0)), (2, .int (iI jj)), (3, .int (iI i))]) hx hb dX2_stack_46 hl (by decide) rfl (fun ls hl => ?_)
        refine lv_aload_n hx hb dX2_stack_48 rfl (lv_at hl 2 rfl) ?_
        refine va_get (D := D) (C := RX2) (T := TX2) (N := 7) (ci := 2) (v := .ref (ps 10)) hx hb hts iw_X2_stack_2 hown hK hP 0 rfl rfl 6 (by decide) (hts _ fl_X2_stack_29) (fun _ h9 => h9) rfl dX2_stack_49 ?_
        refine lv_iload hx hb dX2_stack_52 (lv_at hl 0 rfl) ?_
        refine r_ald hx hb hK hP 18 rfl rfl ⟨by omega, by omega, by omega⟩ dX2_stack_54 ?_
        refine lv_aload_n hx hb dX2_stack_55 rfl (lv_at hl 3 rfl) ?_
        refine va_getN (D := D) (C := RX1) (T := TX1) (N := 10) (ci := 1) (v := .ref (d 2)) hx hb hts iw_X2_stack_1 hown hK hP 9 rfl rfl 2 (by decide) (nfX2_80 hN) (fun _ h9 => h9) rfl dX2_stack_56 ?_
        refine lv_iload hx hb dX2_stack_59 (lv_at hl 1 rfl) ?_
        refine r_ald hx hb hK hP 11 rfl rfl ⟨by omega, by omega, by omega⟩ dX2_stack_61 ?_
        have b_61 := htk (or i)
        refine r_add hx hb dX2_stack_62 ?_
        refine lv_istore (lv' := [(6, .int (iI ((LD s5) + (tk (or i))))), (5, .int (iI s5)), (4, .int (iI (or i))), (0, .ref (ps 0)), (1, .ref (d 0)), (2, .int (iI jj)), (3, .int (iI i))]) hx hb dX2_stack_63 hl (by decide) rfl (fun ls hl => ?_)
        refine lv_iload hx hb dX2_stack_65 (lv_at hl 0 rfl) ?_
        refine lv_aload_n hx hb dX2_stack_67 rfl (lv_at hl 4 rfl) ?_
        refine va_getN (D := D) (C := RX1) (T := TX1) (N := 10) (ci := 1) (v := .ref (d 6)) hx hb hts iw_X2_stack_1 hown hK hP 9 rfl rfl 7 (by decide) (nfX2_83 hN) (fun _ h9 => h9) rfl dX2_stack_68 ?_
        refine lv_iload hx hb dX2_stack_71 (lv_at hl 1 rfl) ?_
        refine r_ald hx hb hK hP 15 rfl rfl ⟨by omega, by omega, by omega⟩ dX2_stack_73 ?_
        have b_73 := hrm s5
        refine r_le hx hb 88 dX2_stack_74 (by decide) ⟨by omega, by omega⟩ ⟨by omega, by omega⟩ (fun c_74 => ?_) (fun c_74 => ?_)
        ·
          refine lv_aload_n hx hb dX2_stack_88 rfl (lv_at hl 3 rfl) ?_
          refine va_get (D := D) (C := RX2) (T := TX2) (N := 7) (ci := 2) (v := .ref (ps 10)) hx hb hts iw_X2_stack_2 hown hK hP 0 rfl rfl 6 (by decide) (hts _ fl_X2_stack_29) (fun _ h9 => h9) rfl dX2_stack_89 ?_
          refine lv_iload hx hb dX2_stack_92 (lv_at hl 1 rfl) ?_
          refine lv_iload hx hb dX2_stack_94 (lv_at hl 0 rfl) ?_
          refine r_ast hx hb hK hP hD hS 18 rfl rfl ⟨by omega, by omega, by omega⟩ dX2_stack_96 (fun H locs hP hD hS => ?_)
          replace hP : va_P D vwCl [oP ps cm, ai (cy 0) (ps 1) 24 or, ai (cy 0) (ps 2) 24 SA, ai (cy 0) (ps 3) 10 so, aq (cy 3) (ps 4) 4 (fun j => ps (5 + j)), ai (cy 0) (ps 5) 24 A0, ai (cy 0) (ps 6) 24 A1, ai (cy 0) (ps 7) 24 A2, ai (cy 0) (ps 8) 24 A3, oD d lt mn vs, ai (cy 0) (d 1) 24 pt, ai (cy 0) (d 2) 24 tk, ai (cy 0) (d 3) 24 mr, ai (cy 0) (d 4) 10 od, ai (cy 0) (d 5) 10 pl, ai (cy 0) (d 6) 4 rm, ai (cy 0) (d 7) 10 cd, ai (cy 0) (ps 9) 4 HT, ai (cy 0) (ps 10) 4 (ud LD s5 ((LD s5) + (tk (or i))))] H := hP
          replace hD : va_D A [oP ps cm, ai (cy 0) (ps 1) 24 or, ai (cy 0) (ps 2) 24 SA, ai (cy 0) (ps 3) 10 so, aq (cy 3) (ps 4) 4 (fun j => ps (5 + j)), ai (cy 0) (ps 5) 24 A0, ai (cy 0) (ps 6) 24 A1, ai (cy 0) (ps 7) 24 A2, ai (cy 0) (ps 8) 24 A3, oD d lt mn vs, ai (cy 0) (d 1) 24 pt, ai (cy 0) (d 2) 24 tk, ai (cy 0) (d 3) 24 mr, ai (cy 0) (d 4) 10 od, ai (cy 0) (d 5) 10 pl, ai (cy 0) (d 6) 4 rm, ai (cy 0) (d 7) 10 cd, ai (cy 0) (ps 9) 4 HT, ai (cy 0) (ps 10) 4 (ud LD s5 ((LD s5) + (tk (or i))))] := hD
          refine lv_aload_n hx hb dX2_stack_97 rfl (lv_at hl 3 rfl) ?_
          refine va_get (D := D) (C := RX2) (T := TX2) (N := 7) (ci := 2) (v := .ref (ps 4)) hx hb hts iw_X2_stack_2 hown hK hP 0 rfl rfl 4 (by decide) (hts _ fl_X2_stack_23) (fun _ h9 => h9) rfl dX2_stack_98 ?_
          refine lv_iload hx hb dX2_stack_101 (lv_at hl 1 rfl) ?_
          rcases (show s5 = 0 ∨ s5 = 1 ∨ s5 = 2 ∨ s5 = 3 by omega) with rfl | rfl | rfl | rfl
          ·
            refine r_ald2 hx hb hK hP 4 rfl rfl ⟨by omega, by omega, by omega⟩ dX2_stack_103 ?_
            refine lv_aload_n hx hb dX2_stack_104 rfl (lv_at hl 3 rfl) ?_
            refine va_get (D := D) (C := RX2) (T := TX2) (N := 7) (ci := 2) (v := .ref (ps 9)) hx hb hts iw_X2_stack_2 hown hK hP 0 rfl rfl 5 (by decide) (hts _ fl_X2_stack_26) (fun _ h9 => h9) rfl dX2_stack_105 ?_
            refine lv_iload hx hb dX2_stack_108 (lv_at hl 1 rfl) ?_
            refine r_ald hx hb hK hP 17 rfl rfl ⟨by omega, by omega, by omega⟩ dX2_stack_110 ?_
            refine lv_iload hx hb dX2_stack_111 (lv_at hl 2 rfl) ?_
            refine r_ast hx hb hK hP hD hS 5 rfl rfl ⟨by omega, by omega, by omega⟩ dX2_stack_113 (fun H locs hP hD hS => ?_)
            replace hP : va_P D vwCl [oP ps cm, ai (cy 0) (ps 1) 24 or, ai (cy 0) (ps 2) 24 SA, ai (cy 0) (ps 3) 10 so, aq (cy 3) (ps 4) 4 (fun j => ps (5 + j)), ai (cy 0) (ps 5) 24 (ud A0 (HT 0) (or i)), ai (cy 0) (ps 6) 24 A1, ai (cy 0) (ps 7) 24 A2, ai (cy 0) (ps 8) 24 A3, oD d lt mn vs, ai (cy 0) (d 1) 24 pt, ai (cy 0) (d 2) 24 tk, ai (cy 0) (d 3) 24 mr, ai (cy 0) (d 4) 10 od, ai (cy 0) (d 5) 10 pl, ai (cy 0) (d 6) 4 rm, ai (cy 0) (d 7) 10 cd, ai (cy 0) (ps 9) 4 HT, ai (cy 0) (ps 10) 4 (ud LD 0 ((LD 0) + (tk (or i))))] H := hP
            replace hD : va_D A [oP ps cm, ai (cy 0) (ps 1) 24 or, ai (cy 0) (ps 2) 24 SA, ai (cy 0) (ps 3) 10 so, aq (cy 3) (ps 4) 4 (fun j => ps (5 + j)), ai (cy 0) (ps 5) 24 (ud A0 (HT 0) (or i)), ai (cy 0) (ps 6) 24 A1, ai (cy 0) (ps 7) 24 A2, ai (cy 0) (ps 8) 24 A3, oD d lt mn vs, ai (cy 0) (d 1) 24 pt, ai (cy 0) (d 2) 24 tk, ai (cy 0) (d 3) 24 mr, ai (cy 0) (d 4) 10 od, ai (cy 0) (d 5) 10 pl, ai (cy 0) (d 6) 4 rm, ai (cy 0) (d 7) 10 cd, ai (cy 0) (ps 9) 4 HT, ai (cy 0) (ps 10) 4 (ud LD 0 ((LD 0) + (tk (or i))))] := hD
            refine lv_aload_n hx hb dX2_stack_114 rfl (lv_at hl 3 rfl) ?_
            refine va_get (D := D) (C := RX2) (T := TX2) (N := 7) (ci := 2) (v := .ref (ps 9)) hx hb hts iw_X2_stack_2 hown hK hP 0 rfl rfl 5 (by decide) (hts _ fl_X2_stack_26) (fun _ h9 => h9) rfl dX2_stack_115 ?_
            refine lv_iload hx hb dX2_stack_118 (lv_at hl 1 rfl) ?_
            refine lv_dup2_11 hx hb dX2_stack_120 rfl rfl ?_
            refine r_ald hx hb hK hP 17 rfl rfl ⟨by omega, by omega, by omega⟩ dX2_stack_121 ?_
            refine r_const hx hb dX2_stack_122 ?_
            refine r_add hx hb dX2_stack_123 ?_
            refine r_ast hx hb hK hP hD hS 17 rfl rfl ⟨by omega, by omega, by omega⟩ dX2_stack_124 (fun H locs hP hD hS => ?_)
            replace hP : va_P D vwCl [oP ps cm, ai (cy 0) (ps 1) 24 or, ai (cy 0) (ps 2) 24 SA, ai (cy 0) (ps 3) 10 so, aq (cy 3) (ps 4) 4 (fun j => ps (5 + j)), ai (cy 0) (ps 5) 24 (ud A0 (HT 0) (or i)), ai (cy 0) (ps 6) 24 A1, ai (cy 0) (ps 7) 24 A2, ai (cy 0) (ps 8) 24 A3, oD d lt mn vs, ai (cy 0) (d 1) 24 pt, ai (cy 0) (d 2) 24 tk, ai (cy 0) (d 3) 24 mr, ai (cy 0) (d 4) 10 od, ai (cy 0) (d 5) 10 pl, ai (cy 0) (d 6) 4 rm, ai (cy 0) (d 7) 10 cd, ai (cy 0) (ps 9) 4 (ud HT 0 ((HT 0) + 1)), ai (cy 0) (ps 10) 4 (ud LD 0 ((LD 0) + (tk (or i))))] H := hP
            replace hD : va_D A [oP ps cm, ai (cy 0) (ps 1) 24 or, ai (cy 0) (ps 2) 24 SA, ai (cy 0) (ps 3) 10 so, aq (cy 3) (ps 4) 4 (fun j => ps (5 + j)), ai (cy 0) (ps 5) 24 (ud A0 (HT 0) (or i)), ai (cy 0) (ps 6) 24 A1, ai (cy 0) (ps 7) 24 A2, ai (cy 0) (ps 8) 24 A3, oD d lt mn vs, ai (cy 0) (d 1) 24 pt, ai (cy 0) (d 2) 24 tk, ai (cy 0) (d 3) 24 mr, ai (cy 0) (d 4) 10 od, ai (cy 0) (d 5) 10 pl, ai (cy 0) (d 6) 4 rm, ai (cy 0) (d 7) 10 cd, ai (cy 0) (ps 9) 4 (ud HT 0 ((HT 0) + 1)), ai (cy 0) (ps 10) 4 (ud LD 0 ((LD 0) + (tk (or i))))] := hD
            refine r_inc (k := 6) (lv' := [(3, .int (iI (i + 1))), (6, .int (iI ((LD 0) + (tk (or i))))), (5, .int (iI 0)), (4, .int (iI (or i))), (0, .ref (ps 0)), (1, .ref (d 0)), (2, .int (iI jj))]) hx hb dX2_stack_125 hl rfl (by decide) rfl (fun ls hl => ?_)
            refine lv_goto (tgt := 18) hx hb dX2_stack_128 (by decide) ?_
            exact ih_18 (i + 1) SA (ud A0 (HT 0) (or i)) A1 A2 A3 (ud HT 0 ((HT 0) + 1)) (ud LD 0 ((LD 0) + (tk (or i)))) (by omega) (by first | exact StkP_no h1.1 hp (by rw [← hs5]; omega) | exact StkP_yes h1.1 hp hs5 (by omega) (fun s q1 q2 => gs_0 _ _ _ _ _ s) | exact StkP_yes h1.1 hp hs5 (by omega) (fun s q1 q2 => gs_1 _ _ _ _ _ s) | exact StkP_yes h1.1 hp hs5 (by omega) (fun s q1 q2 => gs_2 _ _ _ _ _ s) | exact StkP_yes h1.1 hp hs5 (by omega) (fun s q1 q2 => gs_3 _ _ _ _ _ s q1 q2)) (by omega) H locs (pick_P hP (is := [0, 1, 2, 3, 4, 5, 6, 7, 8, 9, 10, 11, 12, 13, 14, 15, 16, 17, 18]) rfl) (hD.sub [0, 1, 2, 3, 4, 5, 6, 7, 8, 9, 10, 11, 12, 13, 14, 15, 16, 17, 18] (by decide) rfl) hS ls (lv_sub hl [4, 5, 6, 0] rfl)
          ·
            refine r_ald2 hx hb hK hP 4 rfl rfl ⟨by omega, by omega, by omega⟩ dX2_stack_103 ?_
            refine lv_aload_n hx hb dX2_stack_104 rfl (lv_at hl 3 rfl) ?_
            refine va_get (D := D) (C := RX2) (T := TX2) (N := 7) (ci := 2) (v := .ref (ps 9)) hx hb hts iw_X2_stack_2 hown hK hP 0 rfl rfl 5 (by decide) (hts _ fl_X2_stack_26) (fun _ h9 => h9) rfl dX2_stack_105 ?_
            refine lv_iload hx hb dX2_stack_108 (lv_at hl 1 rfl) ?_
            refine r_ald hx hb hK hP 17 rfl rfl ⟨by omega, by omega, by omega⟩ dX2_stack_110 ?_
            refine lv_iload hx hb dX2_stack_111 (lv_at hl 2 rfl) ?_
            refine r_ast hx hb hK hP hD hS 6 rfl rfl ⟨by omega, by omega, by omega⟩ dX2_stack_113 (fun H locs hP hD hS => ?_)
            replace hP : va_P D vwCl [oP ps cm, ai (cy 0) (ps 1) 24 or, ai (cy 0) (ps 2) 24 SA, ai (cy 0) (ps 3) 10 so, aq (cy 3) (ps 4) 4 (fun j => ps (5 + j)), ai (cy 0) (ps 5) 24 A0, ai (cy 0) (ps 6) 24 (ud A1 (HT 1) (or i)), ai (cy 0) (ps 7) 24 A2, ai (cy 0) (ps 8) 24 A3, oD d lt mn vs, ai (cy 0) (d 1) 24 pt, ai (cy 0) (d 2) 24 tk, ai (cy 0) (d 3) 24 mr, ai (cy 0) (d 4) 10 od, ai (cy 0) (d 5) 10 pl, ai (cy 0) (d 6) 4 rm, ai (cy 0) (d 7) 10 cd, ai (cy 0) (ps 9) 4 HT, ai (cy 0) (ps 10) 4 (ud LD 1 ((LD 1) + (tk (or i))))] H := hP
            replace hD : va_D A [oP ps cm, ai (cy 0) (ps 1) 24 or, ai (cy 0) (ps 2) 24 SA, ai (cy 0) (ps 3) 10 so, aq (cy 3) (ps 4) 4 (fun j => ps (5 + j)), ai (cy 0) (ps 5) 24 A0, ai (cy 0) (ps 6) 24 (ud A1 (HT 1) (or i)), ai (cy 0) (ps 7) 24 A2, ai (cy 0) (ps 8) 24 A3, oD d lt mn vs, ai (cy 0) (d 1) 24 pt, ai (cy 0) (d 2) 24 tk, ai (cy 0) (d 3) 24 mr, ai (cy 0) (d 4) 10 od, ai (cy 0) (d 5) 10 pl, ai (cy 0) (d 6) 4 rm, ai (cy 0) (d 7) 10 cd, ai (cy 0) (ps 9) 4 HT, ai (cy 0) (ps 10) 4 (ud LD 1 ((LD 1) + (tk (or i))))] := hD
            refine lv_aload_n hx hb dX2_stack_114 rfl (lv_at hl 3 rfl) ?_
            refine va_get (D := D) (C := RX2) (T := TX2) (N := 7) (ci := 2) (v := .ref (ps 9)) hx hb hts iw_X2_stack_2 hown hK hP 0 rfl rfl 5 (by decide) (hts _ fl_X2_stack_26) (fun _ h9 => h9) rfl dX2_stack_115 ?_
            refine lv_iload hx hb dX2_stack_118 (lv_at hl 1 rfl) ?_
            refine lv_dup2_11 hx hb dX2_stack_120 rfl rfl ?_
            refine r_ald hx hb hK hP 17 rfl rfl ⟨by omega, by omega, by omega⟩ dX2_stack_121 ?_
            refine r_const hx hb dX2_stack_122 ?_
            refine r_add hx hb dX2_stack_123 ?_
            refine r_ast hx hb hK hP hD hS 17 rfl rfl ⟨by omega, by omega, by omega⟩ dX2_stack_124 (fun H locs hP hD hS => ?_)
            replace hP : va_P D vwCl [oP ps cm, ai (cy 0) (ps 1) 24 or, ai (cy 0) (ps 2) 24 SA, ai (cy 0) (ps 3) 10 so, aq (cy 3) (ps 4) 4 (fun j => ps (5 + j)), ai (cy 0) (ps 5) 24 A0, ai (cy 0) (ps 6) 24 (ud A1 (HT 1) (or i)), ai (cy 0) (ps 7) 24 A2, ai (cy 0) (ps 8) 24 A3, oD d lt mn vs, ai (cy 0) (d 1) 24 pt, ai (cy 0) (d 2) 24 tk, ai (cy 0) (d 3) 24 mr, ai (cy 0) (d 4) 10 od, ai (cy 0) (d 5) 10 pl, ai (cy 0) (d 6) 4 rm, ai (cy 0) (d 7) 10 cd, ai (cy 0) (ps 9) 4 (ud HT 1 ((HT 1) + 1)), ai (cy 0) (ps 10) 4 (ud LD 1 ((LD 1) + (tk (or i))))] H := hP
            replace hD : va_D A [oP ps cm, ai (cy 0) (ps 1) 24 or, ai (cy 0) (ps 2) 24 SA, ai (cy 0) (ps 3) 10 so, aq (cy 3) (ps 4) 4 (fun j => ps (5 + j)), ai (cy 0) (ps 5) 24 A0, ai (cy 0) (ps 6) 24 (ud A1 (HT 1) (or i)), ai (cy 0) (ps 7) 24 A2, ai (cy 0) (ps 8) 24 A3, oD d lt mn vs, ai (cy 0) (d 1) 24 pt, ai (cy 0) (d 2) 24 tk, ai (cy 0) (d 3) 24 mr, ai (cy 0) (d 4) 10 od, ai (cy 0) (d 5) 10 pl, ai (cy 0) (d 6) 4 rm, ai (cy 0) (d 7) 10 cd, ai (cy 0) (ps 9) 4 (ud HT 1 ((HT 1) + 1)), ai (cy 0) (ps 10) 4 (ud LD 1 ((LD 1) + (tk (or i))))] := hD
            refine r_inc (k := 6) (lv' := [(3, .int (iI (i + 1))), (6, .int (iI ((LD 1) + (tk (or i))))), (5, .int (iI 1)), (4, .int (iI (or i))), (0, .ref (ps 0)), (1, .ref (d 0)), (2, .int (iI jj))]) hx hb dX2_stack_125 hl rfl (by decide) rfl (fun ls hl => ?_)
            refine lv_goto (tgt := 18) hx hb dX2_stack_128 (by decide) ?_
            exact ih_18 (i + 1) SA A0 (ud A1 (HT 1) (or i)) A2 A3 (ud HT 1 ((HT 1) + 1)) (ud LD 1 ((LD 1) + (tk (or i)))) (by omega) (by first | exact StkP_no h1.1 hp (by rw [← hs5]; omega) | exact StkP_yes h1.1 hp hs5 (by omega) (fun s q1 q2 => gs_0 _ _ _ _ _ s) | exact StkP_yes h1.1 hp hs5 (by omega) (fun s q1 q2 => gs_1 _ _ _ _ _ s) | exact StkP_yes h1.1 hp hs5 (by omega) (fun s q1 q2 => gs_2 _ _ _ _ _ s) | exact StkP_yes h1.1 hp hs5 (by omega) (fun s q1 q2 => gs_3 _ _ _ _ _ s q1 q2)) (by omega) H locs (pick_P hP (is := [0, 1, 2, 3, 4, 5, 6, 7, 8, 9, 10, 11, 12, 13, 14, 15, 16, 17, 18]) rfl) (hD.sub [0, 1, 2, 3, 4, 5, 6, 7, 8, 9, 10, 11, 12, 13, 14, 15, 16, 17, 18] (by decide) rfl) hS ls (lv_sub hl [4, 5, 6, 0] rfl)
          ·
            refine r_ald2 hx hb hK hP 4 rfl rfl ⟨by omega, by omega, by omega⟩ dX2_stack_103 ?_
            refine lv_aload_n hx hb dX2_stack_104 rfl (lv_at hl 3 rfl) ?_
            refine va_get (D := D) (C := RX2) (T := TX2) (N := 7) (ci := 2) (v := .ref (ps 9)) hx hb hts iw_X2_stack_2 hown hK hP 0 rfl rfl 5 (by decide) (hts _ fl_X2_stack_26) (fun _ h9 => h9) rfl dX2_stack_105 ?_
            refine lv_iload hx hb dX2_stack_108 (lv_at hl 1 rfl) ?_
            refine r_ald hx hb hK hP 17 rfl rfl ⟨by omega, by omega, by omega⟩ dX2_stack_110 ?_
            refine lv_iload hx hb dX2_stack_111 (lv_at hl 2 rfl) ?_
            refine r_ast hx hb hK hP hD hS 7 rfl rfl ⟨by omega, by omega, by omega⟩ dX2_stack_113 (fun H locs hP hD hS => ?_)
            replace hP : va_P D vwCl [oP ps cm, ai (cy 0) (ps 1) 24 or, ai (cy 0) (ps 2) 24 SA, ai (cy 0) (ps 3) 10 so, aq (cy 3) (ps 4) 4 (fun j => ps (5 + j)), ai (cy 0) (ps 5) 24 A0, ai (cy 0) (ps 6) 24 A1, ai (cy 0) (ps 7) 24 (ud A2 (HT 2) (or i)), ai (cy 0) (ps 8) 24 A3, oD d lt mn vs, ai (cy 0) (d 1) 24 pt, ai (cy 0) (d 2) 24 tk, ai (cy 0) (d 3) 24 mr, ai (cy 0) (d 4) 10 od, ai (cy 0) (d 5) 10 pl, ai (cy 0) (d 6) 4 rm, ai (cy 0) (d 7) 10 cd, ai (cy 0) (ps 9) 4 HT, ai (cy 0) (ps 10) 4 (ud LD 2 ((LD 2) + (tk (or i))))] H := hP
            replace hD : va_D A [oP ps cm, ai (cy 0) (ps 1) 24 or, ai (cy 0) (ps 2) 24 SA, ai (cy 0) (ps 3) 10 so, aq (cy 3) (ps 4) 4 (fun j => ps (5 + j)), ai (cy 0) (ps 5) 24 A0, ai (cy 0) (ps 6) 24 A1, ai (cy 0) (ps 7) 24 (ud A2 (HT 2) (or i)), ai (cy 0) (ps 8) 24 A3, oD d lt mn vs, ai (cy 0) (d 1) 24 pt, ai (cy 0) (d 2) 24 tk, ai (cy 0) (d 3) 24 mr, ai (cy 0) (d 4) 10 od, ai (cy 0) (d 5) 10 pl, ai (cy 0) (d 6) 4 rm, ai (cy 0) (d 7) 10 cd, ai (cy 0) (ps 9) 4 HT, ai (cy 0) (ps 10) 4 (ud LD 2 ((LD 2) + (tk (or i))))] := hD
            refine lv_aload_n hx hb dX2_stack_114 rfl (lv_at hl 3 rfl) ?_
            refine va_get (D := D) (C := RX2) (T := TX2) (N := 7) (ci := 2) (v := .ref (ps 9)) hx hb hts iw_X2_stack_2 hown hK hP 0 rfl rfl 5 (by decide) (hts _ fl_X2_stack_26) (fun _ h9 => h9) rfl dX2_stack_115 ?_
            refine lv_iload hx hb dX2_stack_118 (lv_at hl 1 rfl) ?_
            refine lv_dup2_11 hx hb dX2_stack_120 rfl rfl ?_
            refine r_ald hx hb hK hP 17 rfl rfl ⟨by omega, by omega, by omega⟩ dX2_stack_121 ?_
            refine r_const hx hb dX2_stack_122 ?_
            refine r_add hx hb dX2_stack_123 ?_
            refine r_ast hx hb hK hP hD hS 17 rfl rfl ⟨by omega, by omega, by omega⟩ dX2_stack_124 (fun H locs hP hD hS => ?_)
            replace hP : va_P D vwCl [oP ps cm, ai (cy 0) (ps 1) 24 or, ai (cy 0) (ps 2) 24 SA, ai (cy 0) (ps 3) 10 so, aq (cy 3) (ps 4) 4 (fun j => ps (5 + j)), ai (cy 0) (ps 5) 24 A0, ai (cy 0) (ps 6) 24 A1, ai (cy 0) (ps 7) 24 (ud A2 (HT 2) (or i)), ai (cy 0) (ps 8) 24 A3, oD d lt mn vs, ai (cy 0) (d 1) 24 pt, ai (cy 0) (d 2) 24 tk, ai (cy 0) (d 3) 24 mr, ai (cy 0) (d 4) 10 od, ai (cy 0) (d 5) 10 pl, ai (cy 0) (d 6) 4 rm, ai (cy 0) (d 7) 10 cd, ai (cy 0) (ps 9) 4 (ud HT 2 ((HT 2) + 1)), ai (cy 0) (ps 10) 4 (ud LD 2 ((LD 2) + (tk (or i))))] H := hP
            replace hD : va_D A [oP ps cm, ai (cy 0) (ps 1) 24 or, ai (cy 0) (ps 2) 24 SA, ai (cy 0) (ps 3) 10 so, aq (cy 3) (ps 4) 4 (fun j => ps (5 + j)), ai (cy 0) (ps 5) 24 A0, ai (cy 0) (ps 6) 24 A1, ai (cy 0) (ps 7) 24 (ud A2 (HT 2) (or i)), ai (cy 0) (ps 8) 24 A3, oD d lt mn vs, ai (cy 0) (d 1) 24 pt, ai (cy 0) (d 2) 24 tk, ai (cy 0) (d 3) 24 mr, ai (cy 0) (d 4) 10 od, ai (cy 0) (d 5) 10 pl, ai (cy 0) (d 6) 4 rm, ai (cy 0) (d 7) 10 cd, ai (cy 0) (ps 9) 4 (ud HT 2 ((HT 2) + 1)), ai (cy 0) (ps 10) 4 (ud LD 2 ((LD 2) + (tk (or i))))] := hD
            refine r_inc (k := 6) (lv' := [(3, .int (iI (i + 1))), (6, .int (iI ((LD 2) + (tk (or i))))), (5, .int (iI 2)), (4, .int (iI (or i))), (0, .ref (ps 0)), (1, .ref (d 0)), (2, .int (iI jj))]) hx hb dX2_stack_125 hl rfl (by decide) rfl (fun ls hl => ?_)
            refine lv_goto (tgt := 18) hx hb dX2_stack_128 (by decide) ?_
            exact ih_18 (i + 1) SA A0 A1 (ud A2 (HT 2) (or i)) A3 (ud HT 2 ((HT 2) + 1)) (ud LD 2 ((LD 2) + (tk (or i)))) (by omega) (by first | exact StkP_no h1.1 hp (by rw [← hs5]; omega) | exact StkP_yes h1.1 hp hs5 (by omega) (fun s q1 q2 => gs_0 _ _ _ _ _ s) | exact StkP_yes h1.1 hp hs5 (by omega) (fun s q1 q2 => gs_1 _ _ _ _ _ s) | exact StkP_yes h1.1 hp hs5 (by omega) (fun s q1 q2 => gs_2 _ _ _ _ _ s) | exact StkP_yes h1.1 hp hs5 (by omega) (fun s q1 q2 => gs_3 _ _ _ _ _ s q1 q2)) (by omega) H locs (pick_P hP (is := [0, 1, 2, 3, 4, 5, 6, 7, 8, 9, 10, 11, 12, 13, 14, 15, 16, 17, 18]) rfl) (hD.sub [0, 1, 2, 3, 4, 5, 6, 7, 8, 9, 10, 11, 12, 13, 14, 15, 16, 17, 18] (by decide) rfl) hS ls (lv_sub hl [4, 5, 6, 0] rfl)
          ·
            refine r_ald2 hx hb hK hP 4 rfl rfl ⟨by omega, by omega, by omega⟩ dX2_stack_103 ?_
            refine lv_aload_n hx hb dX2_stack_104 rfl (lv_at hl 3 rfl) ?_
            refine va_get (D := D) (C := RX2) (T := TX2) (N := 7) (ci := 2) (v := .ref (ps 9)) hx hb hts iw_X2_stack_2 hown hK hP 0 rfl rfl 5 (by decide) (hts _ fl_X2_stack_26) (fun _ h9 => h9) rfl dX2_stack_105 ?_
            refine lv_iload hx hb dX2_stack_108 (lv_at hl 1 rfl) ?_
            refine r_ald hx hb hK hP 17 rfl rfl ⟨by omega, by omega, by omega⟩ dX2_stack_110 ?_
            refine lv_iload hx hb dX2_stack_111 (lv_at hl 2 rfl) ?_
            refine r_ast hx hb hK hP hD hS 8 rfl rfl ⟨by omega, by omega, by omega⟩ dX2_stack_113 (fun H locs hP hD hS => ?_)
            replace hP : va_P D vwCl [oP ps cm, ai (cy 0) (ps 1) 24 or, ai (cy 0) (ps 2) 24 SA, ai (cy 0) (ps 3) 10 so, aq (cy 3) (ps 4) 4 (fun j => ps (5 + j)), ai (cy 0) (ps 5) 24 A0, ai (cy 0) (ps 6) 24 A1, ai (cy 0) (ps 7) 24 A2, ai (cy 0) (ps 8) 24 (ud A3 (HT 3) (or i)), oD d lt mn vs, ai (cy 0) (d 1) 24 pt, ai (cy 0) (d 2) 24 tk, ai (cy 0) (d 3) 24 mr, ai (cy 0) (d 4) 10 od, ai (cy 0) (d 5) 10 pl, ai (cy 0) (d 6) 4 rm, ai (cy 0) (d 7) 10 cd, ai (cy 0) (ps 9) 4 HT, ai (cy 0) (ps 10) 4 (ud LD 3 ((LD 3) + (tk (or i))))] H := hP
            replace hD : va_D A [oP ps cm, ai (cy 0) (ps 1) 24 or, ai (cy 0) (ps 2) 24 SA, ai (cy 0) (ps 3) 10 so, aq (cy 3) (ps 4) 4 (fun j => ps (5 + j)), ai (cy 0) (ps 5) 24 A0, ai (cy 0) (ps 6) 24 A1, ai (cy 0) (ps 7) 24 A2, ai (cy 0) (ps 8) 24 (ud A3 (HT 3) (or i)), oD d lt mn vs, ai (cy 0) (d 1) 24 pt, ai (cy 0) (d 2) 24 tk, ai (cy 0) (d 3) 24 mr, ai (cy 0) (d 4) 10 od, ai (cy 0) (d 5) 10 pl, ai (cy 0) (d 6) 4 rm, ai (cy 0) (d 7) 10 cd, ai (cy 0) (ps 9) 4 HT, ai (cy 0) (ps 10) 4 (ud LD 3 ((LD 3) + (tk (or i))))] := hD
            refine lv_aload_n hx hb dX2_stack_114 rfl (lv_at hl 3 rfl) ?_
            refine va_get (D := D) (C := RX2) (T := TX2) (N := 7) (ci := 2) (v := .ref (ps 9)) hx hb hts iw_X2_stack_2 hown hK hP 0 rfl rfl 5 (by decide) (hts _ fl_X2_stack_26) (fun _ h9 => h9) rfl dX2_stack_115 ?_
            refine lv_iload hx hb dX2_stack_118 (lv_at hl 1 rfl) ?_
            refine lv_dup2_11 hx hb dX2_stack_120 rfl rfl ?_
            refine r_ald hx hb hK hP 17 rfl rfl ⟨by omega, by omega, by omega⟩ dX2_stack_121 ?_
            refine r_const hx hb dX2_stack_122 ?_
            refine r_add hx hb dX2_stack_123 ?_
            refine r_ast hx hb hK hP hD hS 17 rfl rfl ⟨by omega, by omega, by omega⟩ dX2_stack_124 (fun H locs hP hD hS => ?_)
            replace hP : va_P D vwCl [oP ps cm, ai (cy 0) (ps 1) 24 or, ai (cy 0) (ps 2) 24 SA, ai (cy 0) (ps 3) 10 so, aq (cy 3) (ps 4) 4 (fun j => ps (5 + j)), ai (cy 0) (ps 5) 24 A0, ai (cy 0) (ps 6) 24 A1, ai (cy 0) (ps 7) 24 A2, ai (cy 0) (ps 8) 24 (ud A3 (HT 3) (or i)), oD d lt mn vs, ai (cy 0) (d 1) 24 pt, ai (cy 0) (d 2) 24 tk, ai (cy 0) (d 3) 24 mr, ai (cy 0) (d 4) 10 od, ai (cy 0) (d 5) 10 pl, ai (cy 0) (d 6) 4 rm, ai (cy 0) (d 7) 10 cd, ai (cy 0) (ps 9) 4 (ud HT 3 ((HT 3) + 1)), ai (cy 0) (ps 10) 4 (ud LD 3 ((LD 3) + (tk (or i))))] H := hP
            replace hD : va_D A [oP ps cm, ai (cy 0) (ps 1) 24 or, ai (cy 0) (ps 2) 24 SA, ai (cy 0) (ps 3) 10 so, aq (cy 3) (ps 4) 4 (fun j => ps (5 + j)), ai (cy 0) (ps 5) 24 A0, ai (cy 0) (ps 6) 24 A1, ai (cy 0) (ps 7) 24 A2, ai (cy 0) (ps 8) 24 (ud A3 (HT 3) (or i)), oD d lt mn vs, ai (cy 0) (d 1) 24 pt, ai (cy 0) (d 2) 24 tk, ai (cy 0) (d 3) 24 mr, ai (cy 0) (d 4) 10 od, ai (cy 0) (d 5) 10 pl, ai (cy 0) (d 6) 4 rm, ai (cy 0) (d 7) 10 cd, ai (cy 0) (ps 9) 4 (ud HT 3 ((HT 3) + 1)), ai (cy 0) (ps 10) 4 (ud LD 3 ((LD 3) + (tk (or i))))] := hD
            refine r_inc (k := 6) (lv' := [(3, .int (iI (i + 1))), (6, .int (iI ((LD 3) + (tk (or i))))), (5, .int (iI 3)), (4, .int (iI (or i))), (0, .ref (ps 0)), (1, .ref (d 0)), (2, .int (iI jj))]) hx hb dX2_stack_125 hl rfl (by decide) rfl (fun ls hl => ?_)
            refine lv_goto (tgt := 18) hx hb dX2_stack_128 (by decide) ?_
            exact ih_18 (i + 1) SA A0 A1 A2 (ud A3 (HT 3) (or i)) (ud HT 3 ((HT 3) + 1)) (ud LD 3 ((LD 3) + (tk (or i)))) (by omega) (by first | exact StkP_no h1.1 hp (by rw [← hs5]; omega) | exact StkP_yes h1.1 hp hs5 (by omega) (fun s q1 q2 => gs_0 _ _ _ _ _ s) | exact StkP_yes h1.1 hp hs5 (by omega) (fun s q1 q2 => gs_1 _ _ _ _ _ s) | exact StkP_yes h1.1 hp hs5 (by omega) (fun s q1 q2 => gs_2 _ _ _ _ _ s) | exact StkP_yes h1.1 hp hs5 (by omega) (fun s q1 q2 => gs_3 _ _ _ _ _ s q1 q2)) (by omega) H locs (pick_P hP (is := [0, 1, 2, 3, 4, 5, 6, 7, 8, 9, 10, 11, 12, 13, 14, 15, 16, 17, 18]) rfl) (hD.sub [0, 1, 2, 3, 4, 5, 6, 7, 8, 9, 10, 11, 12, 13, 14, 15, 16, 17, 18] (by decide) rfl) hS ls (lv_sub hl [4, 5, 6, 0] rfl)
        ·
          refine lv_aload_n hx hb dX2_stack_77 rfl (lv_at hl 3 rfl) ?_
          refine va_get (D := D) (C := RX2) (T := TX2) (N := 7) (ci := 2) (v := .ref (ps 2)) hx hb hts iw_X2_stack_2 hown hK hP 0 rfl rfl 2 (by decide) (hts _ fl_X2_stack_15) (fun _ h9 => h9) rfl dX2_stack_78 ?_
          refine lv_iload hx hb dX2_stack_81 (lv_at hl 2 rfl) ?_
          refine lv_iload_n hx hb dX2_stack_83 rfl (lv_at hl 5 rfl) ?_
          refine r_ast hx hb hK hP hD hS 2 rfl rfl ⟨by omega, by omega, by omega⟩ dX2_stack_84 (fun H locs hP hD hS => ?_)
          replace hP : va_P D vwCl [oP ps cm, ai (cy 0) (ps 1) 24 or, ai (cy 0) (ps 2) 24 (ud SA (or i) jj), ai (cy 0) (ps 3) 10 so, aq (cy 3) (ps 4) 4 (fun j => ps (5 + j)), ai (cy 0) (ps 5) 24 A0, ai (cy 0) (ps 6) 24 A1, ai (cy 0) (ps 7) 24 A2, ai (cy 0) (ps 8) 24 A3, oD d lt mn vs, ai (cy 0) (d 1) 24 pt, ai (cy 0) (d 2) 24 tk, ai (cy 0) (d 3) 24 mr, ai (cy 0) (d 4) 10 od, ai (cy 0) (d 5) 10 pl, ai (cy 0) (d 6) 4 rm, ai (cy 0) (d 7) 10 cd, ai (cy 0) (ps 9) 4 HT, ai (cy 0) (ps 10) 4 LD] H := hP
          replace hD : va_D A [oP ps cm, ai (cy 0) (ps 1) 24 or, ai (cy 0) (ps 2) 24 (ud SA (or i) jj), ai (cy 0) (ps 3) 10 so, aq (cy 3) (ps 4) 4 (fun j => ps (5 + j)), ai (cy 0) (ps 5) 24 A0, ai (cy 0) (ps 6) 24 A1, ai (cy 0) (ps 7) 24 A2, ai (cy 0) (ps 8) 24 A3, oD d lt mn vs, ai (cy 0) (d 1) 24 pt, ai (cy 0) (d 2) 24 tk, ai (cy 0) (d 3) 24 mr, ai (cy 0) (d 4) 10 od, ai (cy 0) (d 5) 10 pl, ai (cy 0) (d 6) 4 rm, ai (cy 0) (d 7) 10 cd, ai (cy 0) (ps 9) 4 HT, ai (cy 0) (ps 10) 4 LD] := hD
          refine lv_goto (tgt := 125) hx hb dX2_stack_85 (by decide) ?_
          refine r_inc (k := 6) (lv' := [(3, .int (iI (i + 1))), (6, .int (iI ((LD s5) + (tk (or i))))), (5, .int (iI s5)), (4, .int (iI (or i))), (0, .ref (ps 0)), (1, .ref (d 0)), (2, .int (iI jj))]) hx hb dX2_stack_125 hl rfl (by decide) rfl (fun ls hl => ?_)
          refine lv_goto (tgt := 18) hx hb dX2_stack_128 (by decide) ?_
          exact ih_18 (i + 1) (ud SA (or i) jj) A0 A1 A2 A3 HT LD (by omega) (by first | exact StkP_no h1.1 hp (by rw [← hs5]; omega) | exact StkP_yes h1.1 hp hs5 (by omega) (fun s q1 q2 => gs_0 _ _ _ _ _ s) | exact StkP_yes h1.1 hp hs5 (by omega) (fun s q1 q2 => gs_1 _ _ _ _ _ s) | exact StkP_yes h1.1 hp hs5 (by omega) (fun s q1 q2 => gs_2 _ _ _ _ _ s) | exact StkP_yes h1.1 hp hs5 (by omega) (fun s q1 q2 => gs_3 _ _ _ _ _ s q1 q2)) (by omega) H locs (pick_P hP (is := [0, 1, 2, 3, 4, 5, 6, 7, 8, 9, 10, 11, 12, 13, 14, 15, 16, 17, 18]) rfl) (hD.sub [0, 1, 2, 3, 4, 5, 6, 7, 8, 9, 10, 11, 12, 13, 14, 15, 16, 17, 18] (by decide) rfl) hS ls (lv_sub hl [4, 5, 6, 0] rfl)
  exact lp_18 _ 0 sa g0 g1 g2 g3 (fun _ => 0) (fun _ => 0) (by omega) (StkP_0 _ _ _ _ _ _ _ _ _) (Nat.lt_succ_self _) H locs (pick_P hP (is := [0, 1, 2, 3, 4, 5, 6, 7, 8, 9, 10, 11, 12, 13, 14, 15, 16, 17, 18]) rfl) (hD.sub [0, 1, 2, 3, 4, 5, 6, 7, 8, 9, 10, 11, 12, 13, 14, 15, 16, 17, 18] (by decide) rfl) hS ls (lv_sub hl [1, 2, 3, 0] rfl)
abbrev rm_X2_sweep : Room := { frames := 1, cells := 0, slots := 0, locals := 40 }
theorem fl_X2_sweep_9 : Cond.fieldLink RX2 9 "WalkPasses$Passes" "order" "[I" ∈ wsX2_sweep := by decide +kernel
theorem fl_X2_sweep_23 : Cond.fieldLink RX2 23 "WalkPasses$Passes" "piles" "[[I" ∈ wsX2_sweep := by decide +kernel
theorem fl_X2_sweep_26 : Cond.fieldLink RX2 26 "WalkPasses$Passes" "heights" "[I" ∈ wsX2_sweep := by decide +kernel
theorem fl_X2_sweep_46 : Cond.fieldLink RX2 46 "WalkPasses$Passes" "coming" "I" ∈ wsX2_sweep := by decide +kernel
theorem iw_X2_sweep_2 : ∀ w ∈ u_ws RX2 TX2 7, w ∈ wsX2_sweep := by decide +kernel
set_option maxHeartbeats 4000000 in
set_option maxRecDepth 100000 in
theorem k_X2_sweep (l : Launch) (D : va_G) (cy : Nat → ClassId) (ps : Nat → Nat) (z : Nat) (cm : Int) (or sa so g0 g1 g2 g3 ht ld : Int → Int) (mn : Int) (LS : Int → List Int) (hG : ∀ s, 0 ≤ s → s < 4 → lst (gsel g0 g1 g2 g3 s) (ht s).toNat = LS s) (hH : ∀ s, 0 ≤ ht s) (hc : ∀ s, 0 ≤ s → s ≤ mn → (catL LS s.toNat).length ≤ 24) (hmn : 2 ≤ mn ∧ mn ≤ 4) : CtV l yX2_sweep wsX2_sweep rm_X2_sweep D (tyL cy) [.ref (ps 0), .int (iI mn)] [oP ps cm, ai (cy 0) (ps 1) 24 or, ai (cy 0) (ps 2) 24 sa, ai (cy 0) (ps 3) 10 so, aq (cy 3) (ps 4) 4 (fun j => ps (5 + j)), ai (cy 0) (ps 5) 24 g0, ai (cy 0) (ps 6) 24 g1, ai (cy 0) (ps 7) 24 g2, ai (cy 0) (ps 8) 24 g3, ai (cy 0) (ps 9) 4 ht, ai (cy 0) (ps 10) 4 ld] z (fun (u : Int × (Int → Int)) => 0 ≤ u.1 ∧ lst u.2 u.1.toNat = catL LS mn.toNat) (fun (u : Int × (Int → Int)) => [oP ps u.1, ai (cy 0) (ps 1) 24 u.2, ai (cy 0) (ps 2) 24 sa, ai (cy 0) (ps 3) 10 so, aq (cy 3) (ps 4) 4 (fun j => ps (5 + j)), ai (cy 0) (ps 5) 24 g0, ai (cy 0) (ps 6) 24 g1, ai (cy 0) (ps 7) 24 g2, ai (cy 0) (ps 8) 24 g3, ai (cy 0) (ps 9) 4 ht, ai (cy 0) (ps 10) 4 ld]) 0 0 := by
  refine ct_v (cc := cX2_sweep) (maxL := 3) (by decide) rfl (Nat.le_of_ble_eq_true rfl) ?_
  intro p e s m args below meth c A Q H locs ls hx hb hml hown hin hts hK hN hP hD hS hA hl hret
  replace hl : lv_has ls 3 [(0, .ref (ps 0)), (1, .int (iI mn))] := hl
  replace hown : s.vm.findClass RX2 = some m.cls := hown
  refine lv_aload_n hx hb dX2_sweep_0 rfl (lv_at hl 0 rfl) ?_
  refine r_const hx hb dX2_sweep_1 ?_
  refine va_put (D := D) (C := RX2) (T := TX2) (N := 7) (ci := 2) (v := .int (iI 0)) (ty := .int) hx hb hts iw_X2_sweep_2 tyX2 tyX2_ok nmX2 hown hK hP hD hS 0 rfl rfl 1 (by decide) (hts _ fl_X2_sweep_46) (fun _ h9 => h9) rfl (by decide +kernel) rfl rfl (Nat.le_of_ble_eq_true rfl) dX2_sweep_2 (fun H locs hP hD hS => ?_)
  replace hP : va_P D vwCl [oP ps 0, ai (cy 0) (ps 1) 24 or, ai (cy 0) (ps 2) 24 sa, ai (cy 0) (ps 3) 10 so, aq (cy 3) (ps 4) 4 (fun j => ps (5 + j)), ai (cy 0) (ps 5) 24 g0, ai (cy 0) (ps 6) 24 g1, ai (cy 0) (ps 7) 24 g2, ai (cy 0) (ps 8) 24 g3, ai (cy 0) (ps 9) 4 ht, ai (cy 0) (ps 10) 4 ld] H := hP
  replace hD : va_D A [oP ps 0, ai (cy 0) (ps 1) 24 or, ai (cy 0) (ps 2) 24 sa, ai (cy 0) (ps 3) 10 so, aq (cy 3) (ps 4) 4 (fun j => ps (5 + j)), ai (cy 0) (ps 5) 24 g0, ai (cy 0) (ps 6) 24 g1, ai (cy 0) (ps 7) 24 g2, ai (cy 0) (ps 8) 24 g3, ai (cy 0) (ps 9) 4 ht, ai (cy 0) (ps 10) 4 ld] := hD
  refine r_const hx hb dX2_sweep_5 ?_
  refine lv_istore_n (lv' := [(2, .int (iI 0)), (0, .ref (ps 0)), (1, .int (iI mn))]) hx hb dX2_sweep_6 rfl hl (by decide) rfl (fun ls hl => ?_)
  have lp_7 : ∀ (fu : Nat) (s2 : Int) (cn : Int) (B : Int → Int), (0 ≤ s2 ∧ s2 ≤ mn) → (0 ≤ cn) → (lst B cn.toNat = catL LS s2.toNat) → (mn - s2).toNat < fu → ∀ (H : Heap) (locs : List Loc), va_P D vwCl [oP ps cn, ai (cy 0) (ps 1) 24 B, ai (cy 0) (ps 2) 24 sa, ai (cy 0) (ps 3) 10 so, aq (cy 3) (ps 4) 4 (fun j => ps (5 + j)), ai (cy 0) (ps 5) 24 g0, ai (cy 0) (ps 6) 24 g1, ai (cy 0) (ps 7) 24 g2, ai (cy 0) (ps 8) 24 g3, ai (cy 0) (ps 9) 4 ht, ai (cy 0) (ps 10) 4 ld] H → va_D A [oP ps cn, ai (cy 0) (ps 1) 24 B, ai (cy 0) (ps 2) 24 sa, ai (cy 0) (ps 3) 10 so, aq (cy 3) (ps 4) 4 (fun j => ps (5 + j)), ai (cy 0) (ps 5) 24 g0, ai (cy 0) (ps 6) 24 g1, ai (cy 0) (ps 7) 24 g2, ai (cy 0) (ps 8) 24 g3, ai (cy 0) (ps 9) 4 ht, ai (cy 0) (ps 10) 4 ld] → va_S A s.heap H locs → ∀ (ls : Array Slot), lv_has ls 3 [(0, .ref (ps 0)), (1, .int (iI mn)), (2, .int (iI s2))] → W p l e rm_X2_sweep s m args below meth c H locs 0 0 Q (F0 m 7 ls []) := by
    intro fu
    induction fu with
    | zero =>
      intro s2 cn B h1 h0 h2 hm
      exact absurd hm (Nat.not_lt_zero _)
    | succ fu ih_7 =>
      intro s2 cn B h1 h0 h2 hm H locs hP hD hS ls hl
      refine lv_iload_n hx hb dX2_sweep_7 rfl (lv_at hl 2 rfl) ?_
      refine lv_iload_n hx hb dX2_sweep_8 rfl (lv_at hl 1 rfl) ?_
      refine r_ge hx hb 57 dX2_sweep_9 (by decide) ⟨by omega, by omega⟩ ⟨by omega, by omega⟩ (fun c_9 => ?_) (fun c_9 => ?_)
      ·
        exact hret [0, 1, 2, 3, 4, 5, 6, 7, 8, 9, 10] (cn, B) dX2_sweep_57 hP hD hS (by decide) rfl (by rw [show mn = s2 by omega]; exact ⟨h0, h2⟩)
      ·
        have hn1 := lst_n h2 h0
        have hn2 := hc (s2 + 1) (by omega) (by omega)
        rw [catL_s h1.1, List.length_append, ← hG s2 h1.1 (by omega), lst_len] at hn2
        have hn3 := hH s2
        refine lv_aload_n hx hb dX2_sweep_12 rfl (lv_at hl 0 rfl) ?_
        refine va_get (D := D) (C := RX2) (T := TX2) (N := 7) (ci := 2) (v := .ref (ps 4)) hx hb hts iw_X2_sweep_2 hown hK hP 0 rfl rfl 4 (by decide) (hts _ fl_X2_sweep_23) (fun _ h9 => h9) rfl dX2_sweep_13 ?_
        refine lv_iload_n hx hb dX2_sweep_16 rfl (lv_at hl 2 rfl) ?_
        rcases (show s2 = 0 ∨ s2 = 1 ∨ s2 = 2 ∨ s2 = 3 by omega) with rfl | rfl | rfl | rfl
        ·
          refine r_ald2 hx hb hK hP 4 rfl rfl ⟨by omega, by omega, by omega⟩ dX2_sweep_17 ?_
          refine r_const hx hb dX2_sweep_18 ?_
          refine lv_aload_n hx hb dX2_sweep_19 rfl (lv_at hl 0 rfl) ?_
          refine va_get (D := D) (C := RX2) (T := TX2) (N := 7) (ci := 2) (v := .ref (ps 1)) hx hb hts iw_X2_sweep_2 hown hK hP 0 rfl rfl 0 (by decide) (hts _ fl_X2_sweep_9) (fun _ h9 => h9) rfl dX2_sweep_20 ?_
          refine lv_aload_n hx hb dX2_sweep_23 rfl (lv_at hl 0 rfl) ?_
          refine va_get (D := D) (C := RX2) (T := TX2) (N := 7) (ci := 2) (v := .int (iI cn)) hx hb hts iw_X2_sweep_2 hown hK hP 0 rfl rfl 1 (by decide) (hts _ fl_X2_sweep_46) (fun _ h9 => h9) rfl dX2_sweep_24 ?_
          refine lv_aload_n hx hb dX2_sweep_27 rfl (lv_at hl 0 rfl) ?_
          refine va_get (D := D) (C := RX2) (T := TX2) (N := 7) (ci := 2) (v := .ref (ps 9)) hx hb hts iw_X2_sweep_2 hown hK hP 0 rfl rfl 5 (by decide) (hts _ fl_X2_sweep_26) (fun _ h9 => h9) rfl dX2_sweep_28 ?_
          refine lv_iload_n hx hb dX2_sweep_31 rfl (lv_at hl 2 rfl) ?_
          refine r_ald hx hb hK hP 9 rfl rfl ⟨by omega, by omega, by omega⟩ dX2_sweep_32 ?_
          refine r_copy (own := RX2) (index := 86) hx hb (by rw [hml]; exact hl.1.symm) hown (hts _ (by decide +kernel)) (hts _ (by decide +kernel)) (hts _ (by decide +kernel)) (hts _ (by decide +kernel)) hK hP hD hS 5 1 rfl rfl rfl ⟨by omega, by omega, by omega, ⟨by omega, by omega⟩, by omega, by omega⟩ (Nat.le_of_ble_eq_true rfl) (Nat.le_of_ble_eq_true rfl) dX2_sweep_33 (fun H locs hP hD hS => ?_)
          replace hP : va_P D vwCl [oP ps cn, ai (cy 0) (ps 1) 24 (cpy g0 B 0 cn (ht 0)), ai (cy 0) (ps 2) 24 sa, ai (cy 0) (ps 3) 10 so, aq (cy 3) (ps 4) 4 (fun j => ps (5 + j)), ai (cy 0) (ps 5) 24 g0, ai (cy 0) (ps 6) 24 g1, ai (cy 0) (ps 7) 24 g2, ai (cy 0) (ps 8) 24 g3, ai (cy 0) (ps 9) 4 ht, ai (cy 0) (ps 10) 4 ld] H := hP
          replace hD : va_D A [oP ps cn, ai (cy 0) (ps 1) 24 (cpy g0 B 0 cn (ht 0)), ai (cy 0) (ps 2) 24 sa, ai (cy 0) (ps 3) 10 so, aq (cy 3) (ps 4) 4 (fun j => ps (5 + j)), ai (cy 0) (ps 5) 24 g0, ai (cy 0) (ps 6) 24 g1, ai (cy 0) (ps 7) 24 g2, ai (cy 0) (ps 8) 24 g3, ai (cy 0) (ps 9) 4 ht, ai (cy 0) (ps 10) 4 ld] := hD
          refine lv_aload_n hx hb dX2_sweep_36 rfl (lv_at hl 0 rfl) ?_
          refine lv_dup hx hb dX2_sweep_37 rfl ?_
          refine va_get (D := D) (C := RX2) (T := TX2) (N := 7) (ci := 2) (v := .int (iI cn)) hx hb hts iw_X2_sweep_2 hown hK hP 0 rfl rfl 1 (by decide) (hts _ fl_X2_sweep_46) (fun _ h9 => h9) rfl dX2_sweep_38 ?_
          refine lv_aload_n hx hb dX2_sweep_41 rfl (lv_at hl 0 rfl) ?_
          refine va_get (D := D) (C := RX2) (T := TX2) (N := 7) (ci := 2) (v := .ref (ps 9)) hx hb hts iw_X2_sweep_2 hown hK hP 0 rfl rfl 5 (by decide) (hts _ fl_X2_sweep_26) (fun _ h9 => h9) rfl dX2_sweep_42 ?_
          refine lv_iload_n hx hb dX2_sweep_45 rfl (lv_at hl 2 rfl) ?_
          refine r_ald hx hb hK hP 9 rfl rfl ⟨by omega, by omega, by omega⟩ dX2_sweep_46 ?_
          refine r_add hx hb dX2_sweep_47 ?_
          refine va_put (D := D) (C := RX2) (T := TX2) (N := 7) (ci := 2) (v := .int (iI (cn + (ht 0)))) (ty := .int) hx hb hts iw_X2_sweep_2 tyX2 tyX2_ok nmX2 hown hK hP hD hS 0 rfl rfl 1 (by decide) (hts _ fl_X2_sweep_46) (fun _ h9 => h9) rfl (by decide +kernel) rfl rfl (Nat.le_of_ble_eq_true rfl) dX2_sweep_48 (fun H locs hP hD hS => ?_)
          replace hP : va_P D vwCl [oP ps (cn + (ht 0)), ai (cy 0) (ps 1) 24 (cpy g0 B 0 cn (ht 0)), ai (cy 0) (ps 2) 24 sa, ai (cy 0) (ps 3) 10 so, aq (cy 3) (ps 4) 4 (fun j => ps (5 + j)), ai (cy 0) (ps 5) 24 g0, ai (cy 0) (ps 6) 24 g1, ai (cy 0) (ps 7) 24 g2, ai (cy 0) (ps 8) 24 g3, ai (cy 0) (ps 9) 4 ht, ai (cy 0) (ps 10) 4 ld] H := hP
          replace hD : va_D A [oP ps (cn + (ht 0)), ai (cy 0) (ps 1) 24 (cpy g0 B 0 cn (ht 0)), ai (cy 0) (ps 2) 24 sa, ai (cy 0) (ps 3) 10 so, aq (cy 3) (ps 4) 4 (fun j => ps (5 + j)), ai (cy 0) (ps 5) 24 g0, ai (cy 0) (ps 6) 24 g1, ai (cy 0) (ps 7) 24 g2, ai (cy 0) (ps 8) 24 g3, ai (cy 0) (ps 9) 4 ht, ai (cy 0) (ps 10) 4 ld] := hD
          refine r_inc (k := 2) (lv' := [(2, .int (iI (0 + 1))), (0, .ref (ps 0)), (1, .int (iI mn))]) hx hb dX2_sweep_51 hl rfl (by decide) rfl (fun ls hl => ?_)
          refine lv_goto (tgt := 7) hx hb dX2_sweep_54 (by decide) ?_
          exact ih_7 (0 + 1) (cn + (ht 0)) (cpy g0 B 0 cn (ht 0)) (by omega) (by omega) (by rw [catL_s h1.1, ← h2, ← hG _ (by omega) (by omega)]; exact lst_cat h0 (hH _)) (by omega) H locs (pick_P hP (is := [0, 1, 2, 3, 4, 5, 6, 7, 8, 9, 10]) rfl) (hD.sub [0, 1, 2, 3, 4, 5, 6, 7, 8, 9, 10] (by decide) rfl) hS ls (lv_sub hl [1, 2, 0] rfl)
        ·
          refine r_ald2 hx hb hK hP 4 rfl rfl ⟨by omega, by omega, by omega⟩ dX2_sweep_17 ?_
          refine r_const hx hb dX2_sweep_18 ?_
          refine lv_aload_n hx hb dX2_sweep_19 rfl (lv_at hl 0 rfl) ?_
          refine va_get (D := D) (C := RX2) (T := TX2) (N := 7) (ci := 2) (v := .ref (ps 1)) hx hb hts iw_X2_sweep_2 hown hK hP 0 rfl rfl 0 (by decide) (hts _ fl_X2_sweep_9) (fun _ h9 => h9) rfl dX2_sweep_20 ?_
          refine lv_aload_n hx hb dX2_sweep_23 rfl (lv_at hl 0 rfl) ?_
          refine va_get (D := D) (C := RX2) (T := TX2) (N := 7) (ci := 2) (v := .int (iI cn)) hx hb hts iw_X2_sweep_2 hown hK hP 0 rfl rfl 1 (by decide) (hts _ fl_X2_sweep_46) (fun _ h9 => h9) rfl dX2_sweep_24 ?_
          refine lv_aload_n hx hb dX2_sweep_27 rfl (lv_at hl 0 rfl) ?_
          refine va_get (D := D) (C := RX2) (T := TX2) (N := 7) (ci := 2) (v := .ref (ps 9)) hx hb hts iw_X2_sweep_2 hown hK hP 0 rfl rfl 5 (by decide) (hts _ fl_X2_sweep_26) (fun _ h9 => h9) rfl dX2_sweep_28 ?_
          refine lv_iload_n hx hb dX2_sweep_31 rfl (lv_at hl 2 rfl) ?_
          refine r_ald hx hb hK hP 9 rfl rfl ⟨by omega, by omega, by omega⟩ dX2_sweep_32 ?_
          refine r_copy (own := RX2) (index := 86) hx hb (by rw [hml]; exact hl.1.symm) hown (hts _ (by decide +kernel)) (hts _ (by decide +kernel)) (hts _ (by decide +kernel)) (hts _ (by decide +kernel)) hK hP hD hS 6 1 rfl rfl rfl ⟨by omega, by omega, by omega, ⟨by omega, by omega⟩, by omega, by omega⟩ (Nat.le_of_ble_eq_true rfl) (Nat.le_of_ble_eq_true rfl) dX2_sweep_33 (fun H locs hP hD hS => ?_)
          replace hP : va_P D vwCl [oP ps cn, ai (cy 0) (ps 1) 24 (cpy g1 B 0 cn (ht 1)), ai (cy 0) (ps 2) 24 sa, ai (cy 0) (ps 3) 10 so, aq (cy 3) (ps 4) 4 (fun j => ps (5 + j)), ai (cy 0) (ps 5) 24 g0, ai (cy 0) (ps 6) 24 g1, ai (cy 0) (ps 7) 24 g2, ai (cy 0) (ps 8) 24 g3, ai (cy 0) (ps 9) 4 ht, ai (cy 0) (ps 10) 4 ld] H := hP
          replace hD : va_D A [oP ps cn, ai (cy 0) (ps 1) 24 (cpy g1 B 0 cn (ht 1)), ai (cy 0) (ps 2) 24 sa, ai (cy 0) (ps 3) 10 so, aq (cy 3) (ps 4) 4 (fun j => ps (5 + j)), ai (cy 0) (ps 5) 24 g0, ai (cy 0) (ps 6) 24 g1, ai (cy 0) (ps 7) 24 g2, ai (cy 0) (ps 8) 24 g3, ai (cy 0) (ps 9) 4 ht, ai (cy 0) (ps 10) 4 ld] := hD
          refine lv_aload_n hx hb dX2_sweep_36 rfl (lv_at hl 0 rfl) ?_
          refine lv_dup hx hb dX2_sweep_37 rfl ?_
          refine va_get (D := D) (C := RX2) (T := TX2) (N := 7) (ci := 2) (v := .int (iI cn)) hx hb hts iw_X2_sweep_2 hown hK hP 0 rfl rfl 1 (by decide) (hts _ fl_X2_sweep_46) (fun _ h9 => h9) rfl dX2_sweep_38 ?_
          refine lv_aload_n hx hb dX2_sweep_41 rfl (lv_at hl 0 rfl) ?_
          refine va_get (D := D) (C := RX2) (T := TX2) (N := 7) (ci := 2) (v := .ref (ps 9)) hx hb hts iw_X2_sweep_2 hown hK hP 0 rfl rfl 5 (by decide) (hts _ fl_X2_sweep_26) (fun _ h9 => h9) rfl dX2_sweep_42 ?_
          refine lv_iload_n hx hb dX2_sweep_45 rfl (lv_at hl 2 rfl) ?_
          refine r_ald hx hb hK hP 9 rfl rfl ⟨by omega, by omega, by omega⟩ dX2_sweep_46 ?_
          refine r_add hx hb dX2_sweep_47 ?_
          refine va_put (D := D) (C := RX2) (T := TX2) (N := 7) (ci := 2) (v := .int (iI (cn + (ht 1)))) (ty := .int) hx hb hts iw_X2_sweep_2 tyX2 tyX2_ok nmX2 hown hK hP hD hS 0 rfl rfl 1 (by decide) (hts _ fl_X2_sweep_46) (fun _ h9 => h9) rfl (by decide +kernel) rfl rfl (Nat.le_of_ble_eq_true rfl) dX2_sweep_48 (fun H locs hP hD hS => ?_)
          replace hP : va_P D vwCl [oP ps (cn + (ht 1)), ai (cy 0) (ps 1) 24 (cpy g1 B 0 cn (ht 1)), ai (cy 0) (ps 2) 24 sa, ai (cy 0) (ps 3) 10 so, aq (cy 3) (ps 4) 4 (fun j => ps (5 + j)), ai (cy 0) (ps 5) 24 g0, ai (cy 0) (ps 6) 24 g1, ai (cy 0) (ps 7) 24 g2, ai (cy 0) (ps 8) 24 g3, ai (cy 0) (ps 9) 4 ht, ai (cy 0) (ps 10) 4 ld] H := hP
          replace hD : va_D A [oP ps (cn + (ht 1)), ai (cy 0) (ps 1) 24 (cpy g1 B 0 cn (ht 1)), ai (cy 0) (ps 2) 24 sa, ai (cy 0) (ps 3) 10 so, aq (cy 3) (ps 4) 4 (fun j => ps (5 + j)), ai (cy 0) (ps 5) 24 g0, ai (cy 0) (ps 6) 24 g1, ai (cy 0) (ps 7) 24 g2, ai (cy 0) (ps 8) 24 g3, ai (cy 0) (ps 9) 4 ht, ai (cy 0) (ps 10) 4 ld] := hD
          refine r_inc (k := 2) (lv' := [(2, .int (iI (1 + 1))), (0, .ref (ps 0)), (1, .int (iI mn))]) hx hb dX2_sweep_51 hl rfl (by decide) rfl (fun ls hl => ?_)
          refine lv_goto (tgt := 7) hx hb dX2_sweep_54 (by decide) ?_
          exact ih_7 (1 + 1) (cn + (ht 1)) (cpy g1 B 0 cn (ht 1)) (by omega) (by omega) (by rw [catL_s h1.1, ← h2, ← hG _ (by omega) (by omega)]; exact lst_cat h0 (hH _)) (by omega) H locs (pick_P hP (is := [0, 1, 2, 3, 4, 5, 6, 7, 8, 9, 10]) rfl) (hD.sub [0, 1, 2, 3, 4, 5, 6, 7, 8, 9, 10] (by decide) rfl) hS ls (lv_sub hl [1, 2, 0] rfl)
        ·
          refine r_ald2 hx hb hK hP 4 rfl rfl ⟨by omega, by omega, by omega⟩ dX2_sweep_17 ?_
          refine r_const hx hb dX2_sweep_18 ?_
          refine lv_aload_n hx hb dX2_sweep_19 rfl (lv_at hl 0 rfl) ?_
          refine va_get (D := D) (C := RX2) (T := TX2) (N := 7) (ci := 2) (v := .ref (ps 1)) hx hb hts iw_X2_sweep_2 hown hK hP 0 rfl rfl 0 (by decide) (hts _ fl_X2_sweep_9) (fun _ h9 => h9) rfl dX2_sweep_20 ?_
          refine lv_aload_n hx hb dX2_sweep_23 rfl (lv_at hl 0 rfl) ?_
          refine va_get (D := D) (C := RX2) (T := TX2) (N := 7) (ci := 2) (v := .int (iI cn)) hx hb hts iw_X2_sweep_2 hown hK hP 0 rfl rfl 1 (by decide) (hts _ fl_X2_sweep_46) (fun _ h9 => h9) rfl dX2_sweep_24 ?_
          refine lv_aload_n hx hb dX2_sweep_27 rfl (lv_at hl 0 rfl) ?_
          refine va_get (D := D) (C := RX2) (T := TX2) (N := 7) (ci := 2) (v := .ref (ps 9)) hx hb hts iw_X2_sweep_2 hown hK hP 0 rfl rfl 5 (by decide) (hts _ fl_X2_sweep_26) (fun _ h9 => h9) rfl dX2_sweep_28 ?_
          refine lv_iload_n hx hb dX2_sweep_31 rfl (lv_at hl 2 rfl) ?_
          refine r_ald hx hb hK hP 9 rfl rfl ⟨by omega, by omega, by omega⟩ dX2_sweep_32 ?_
          refine r_copy (own := RX2) (index := 86) hx hb (by rw [hml]; exact hl.1.symm) hown (hts _ (by decide +kernel)) (hts _ (by decide +kernel)) (hts _ (by decide +kernel)) (hts _ (by decide +kernel)) hK hP hD hS 7 1 rfl rfl rfl ⟨by omega, by omega, by omega, ⟨by omega, by omega⟩, by omega, by omega⟩ (Nat.le_of_ble_eq_true rfl) (Nat.le_of_ble_eq_true rfl) dX2_sweep_33 (fun H locs hP hD hS => ?_)
          replace hP : va_P D vwCl [oP ps cn, ai (cy 0) (ps 1) 24 (cpy g2 B 0 cn (ht 2)), ai (cy 0) (ps 2) 24 sa, ai (cy 0) (ps 3) 10 so, aq (cy 3) (ps 4) 4 (fun j => ps (5 + j)), ai (cy 0) (ps 5) 24 g0, ai (cy 0) (ps 6) 24 g1, ai (cy 0) (ps 7) 24 g2, ai (cy 0) (ps 8) 24 g3, ai (cy 0) (ps 9) 4 ht, ai (cy 0) (ps 10) 4 ld] H := hP
          replace hD : va_D A [oP ps cn, ai (cy 0) (ps 1) 24 (cpy g2 B 0 cn (ht 2)), ai (cy 0) (ps 2) 24 sa, ai (cy 0) (ps 3) 10 so, aq (cy 3) (ps 4) 4 (fun j => ps (5 + j)), ai (cy 0) (ps 5) 24 g0, ai (cy 0) (ps 6) 24 g1, ai (cy 0) (ps 7) 24 g2, ai (cy 0) (ps 8) 24 g3, ai (cy 0) (ps 9) 4 ht, ai (cy 0) (ps 10) 4 ld] := hD
          refine lv_aload_n hx hb dX2_sweep_36 rfl (lv_at hl 0 rfl) ?_
          refine lv_dup hx hb dX2_sweep_37 rfl ?_
          refine va_get (D := D) (C := RX2) (T := TX2) (N := 7) (ci := 2) (v := .int (iI cn)) hx hb hts iw_X2_sweep_2 hown hK hP 0 rfl rfl 1 (by decide) (hts _ fl_X2_sweep_46) (fun _ h9 => h9) rfl dX2_sweep_38 ?_
          refine lv_aload_n hx hb dX2_sweep_41 rfl (lv_at hl 0 rfl) ?_
          refine va_get (D := D) (C := RX2) (T := TX2) (N := 7) (ci := 2) (v := .ref (ps 9)) hx hb hts iw_X2_sweep_2 hown hK hP 0 rfl rfl 5 (by decide) (hts _ fl_X2_sweep_26) (fun _ h9 => h9) rfl dX2_sweep_42 ?_
          refine lv_iload_n hx hb dX2_sweep_45 rfl (lv_at hl 2 rfl) ?_
          refine r_ald hx hb hK hP 9 rfl rfl ⟨by omega, by omega, by omega⟩ dX2_sweep_46 ?_
          refine r_add hx hb dX2_sweep_47 ?_
          refine va_put (D := D) (C := RX2) (T := TX2) (N := 7) (ci := 2) (v := .int (iI (cn + (ht 2)))) (ty := .int) hx hb hts iw_X2_sweep_2 tyX2 tyX2_ok nmX2 hown hK hP hD hS 0 rfl rfl 1 (by decide) (hts _ fl_X2_sweep_46) (fun _ h9 => h9) rfl (by decide +kernel) rfl rfl (Nat.le_of_ble_eq_true rfl) dX2_sweep_48 (fun H locs hP hD hS => ?_)
          replace hP : va_P D vwCl [oP ps (cn + (ht 2)), ai (cy 0) (ps 1) 24 (cpy g2 B 0 cn (ht 2)), ai (cy 0) (ps 2) 24 sa, ai (cy 0) (ps 3) 10 so, aq (cy 3) (ps 4) 4 (fun j => ps (5 + j)), ai (cy 0) (ps 5) 24 g0, ai (cy 0) (ps 6) 24 g1, ai (cy 0) (ps 7) 24 g2, ai (cy 0) (ps 8) 24 g3, ai (cy 0) (ps 9) 4 ht, ai (cy 0) (ps 10) 4 ld] H := hP
          replace hD : va_D A [oP ps (cn + (ht 2)), ai (cy 0) (ps 1) 24 (cpy g2 B 0 cn (ht 2)), ai (cy 0) (ps 2) 24 sa, ai (cy 0) (ps 3) 10 so, aq (cy 3) (ps 4) 4 (fun j => ps (5 + j)), ai (cy 0) (ps 5) 24 g0, ai (cy 0) (ps 6) 24 g1, ai (cy 0) (ps 7) 24 g2, ai (cy 0) (ps 8) 24 g3, ai (cy 0) (ps 9) 4 ht, ai (cy 0) (ps 10) 4 ld] := hD
          refine r_inc (k := 2) (lv' := [(2, .int (iI (2 + 1))), (0, .ref (ps 0)), (1, .int (iI mn))]) hx hb dX2_sweep_51 hl rfl (by decide) rfl (fun ls hl => ?_)
          refine lv_goto (tgt := 7) hx hb dX2_sweep_54 (by decide) ?_
          exact ih_7 (2 + 1) (cn + (ht 2)) (cpy g2 B 0 cn (ht 2)) (by omega) (by omega) (by rw [catL_s h1.1, ← h2, ← hG _ (by omega) (by omega)]; exact lst_cat h0 (hH _)) (by omega) H locs (pick_P hP (is := [0, 1, 2, 3, 4, 5, 6, 7, 8, 9, 10]) rfl) (hD.sub [0, 1, 2, 3, 4, 5, 6, 7, 8, 9, 10] (by decide) rfl) hS ls (lv_sub hl [1, 2, 0] rfl)
        ·
          refine r_ald2 hx hb hK hP 4 rfl rfl ⟨by omega, by omega, by omega⟩ dX2_sweep_17 ?_
          refine r_const hx hb dX2_sweep_18 ?_
          refine lv_aload_n hx hb dX2_sweep_19 rfl (lv_at hl 0 rfl) ?_
          refine va_get (D := D) (C := RX2) (T := TX2) (N := 7) (ci := 2) (v := .ref (ps 1)) hx hb hts iw_X2_sweep_2 hown hK hP 0 rfl rfl 0 (by decide) (hts _ fl_X2_sweep_9) (fun _ h9 => h9) rfl dX2_sweep_20 ?_
          refine lv_aload_n hx hb dX2_sweep_23 rfl (lv_at hl 0 rfl) ?_
          refine va_get (D := D) (C := RX2) (T := TX2) (N := 7) (ci := 2) (v := .int (iI cn)) hx hb hts iw_X2_sweep_2 hown hK hP 0 rfl rfl 1 (by decide) (hts _ fl_X2_sweep_46) (fun _ h9 => h9) rfl dX2_sweep_24 ?_
          refine lv_aload_n hx hb dX2_sweep_27 rfl (lv_at hl 0 rfl) ?_
          refine va_get (D := D) (C := RX2) (T := TX2) (N := 7) (ci := 2) (v := .ref (ps 9)) hx hb hts iw_X2_sweep_2 hown hK hP 0 rfl rfl 5 (by decide) (hts _ fl_X2_sweep_26) (fun _ h9 => h9) rfl dX2_sweep_28 ?_
          refine lv_iload_n hx hb dX2_sweep_31 rfl (lv_at hl 2 rfl) ?_
          refine r_ald hx hb hK hP 9 rfl rfl ⟨by omega, by omega, by omega⟩ dX2_sweep_32 ?_
          refine r_copy (own := RX2) (index := 86) hx hb (by rw [hml]; exact hl.1.symm) hown (hts _ (by decide +kernel)) (hts _ (by decide +kernel)) (hts _ (by decide +kernel)) (hts _ (by decide +kernel)) hK hP hD hS 8 1 rfl rfl rfl ⟨by omega, by omega, by omega, ⟨by omega, by omega⟩, by omega, by omega⟩ (Nat.le_of_ble_eq_true rfl) (Nat.le_of_ble_eq_true rfl) dX2_sweep_33 (fun H locs hP hD hS => ?_)
          replace hP : va_P D vwCl [oP ps cn, ai (cy 0) (ps 1) 24 (cpy g3 B 0 cn (ht 3)), ai (cy 0) (ps 2) 24 sa, ai (cy 0) (ps 3) 10 so, aq (cy 3) (ps 4) 4 (fun j => ps (5 + j)), ai (cy 0) (ps 5) 24 g0, ai (cy 0) (ps 6) 24 g1, ai (cy 0) (ps 7) 24 g2, ai (cy 0) (ps 8) 24 g3, ai (cy 0) (ps 9) 4 ht, ai (cy 0) (ps 10) 4 ld] H := hP
          replace hD : va_D A [oP ps cn, ai (cy 0) (ps 1) 24 (cpy g3 B 0 cn (ht 3)), ai (cy 0) (ps 2) 24 sa, ai (cy 0) (ps 3) 10 so, aq (cy 3) (ps 4) 4 (fun j => ps (5 + j)), ai (cy 0) (ps 5) 24 g0, ai (cy 0) (ps 6) 24 g1, ai (cy 0) (ps 7) 24 g2, ai (cy 0) (ps 8) 24 g3, ai (cy 0) (ps 9) 4 ht, ai (cy 0) (ps 10) 4 ld] := hD
          refine lv_aload_n hx hb dX2_sweep_36 rfl (lv_at hl 0 rfl) ?_
          refine lv_dup hx hb dX2_sweep_37 rfl ?_
          refine va_get (D := D) (C := RX2) (T := TX2) (N := 7) (ci := 2) (v := .int (iI cn)) hx hb hts iw_X2_sweep_2 hown hK hP 0 rfl rfl 1 (by decide) (hts _ fl_X2_sweep_46) (fun _ h9 => h9) rfl dX2_sweep_38 ?_
          refine lv_aload_n hx hb dX2_sweep_41 rfl (lv_at hl 0 rfl) ?_
          refine va_get (D := D) (C := RX2) (T := TX2) (N := 7) (ci := 2) (v := .ref (ps 9)) hx hb hts iw_X2_sweep_2 hown hK hP 0 rfl rfl 5 (by decide) (hts _ fl_X2_sweep_26) (fun _ h9 => h9) rfl dX2_sweep_42 ?_
          refine lv_iload_n hx hb dX2_sweep_45 rfl (lv_at hl 2 rfl) ?_
          refine r_ald hx hb hK hP 9 rfl rfl ⟨by omega, by omega, by omega⟩ dX2_sweep_46 ?_
          refine r_add hx hb dX2_sweep_47 ?_
          refine va_put (D := D) (C := RX2) (T := TX2) (N := 7) (ci := 2) (v := .int (iI (cn + (ht 3)))) (ty := .int) hx hb hts iw_X2_sweep_2 tyX2 tyX2_ok nmX2 hown hK hP hD hS 0 rfl rfl 1 (by decide) (hts _ fl_X2_sweep_46) (fun _ h9 => h9) rfl (by decide +kernel) rfl rfl (Nat.le_of_ble_eq_true rfl) dX2_sweep_48 (fun H locs hP hD hS => ?_)
          replace hP : va_P D vwCl [oP ps (cn + (ht 3)), ai (cy 0) (ps 1) 24 (cpy g3 B 0 cn (ht 3)), ai (cy 0) (ps 2) 24 sa, ai (cy 0) (ps 3) 10 so, aq (cy 3) (ps 4) 4 (fun j => ps (5 + j)), ai (cy 0) (ps 5) 24 g0, ai (cy 0) (ps 6) 24 g1, ai (cy 0) (ps 7) 24 g2, ai (cy 0) (ps 8) 24 g3, ai (cy 0) (ps 9) 4 ht, ai (cy 0) (ps 10) 4 ld] H := hP
          replace hD : va_D A [oP ps (cn + (ht 3)), ai (cy 0) (ps 1) 24 (cpy g3 B 0 cn (ht 3)), ai (cy 0) (ps 2) 24 sa, ai (cy 0) (ps 3) 10 so, aq (cy 3) (ps 4) 4 (fun j => ps (5 + j)), ai (cy 0) (ps 5) 24 g0, ai (cy 0) (ps 6) 24 g1, ai (cy 0) (ps 7) 24 g2, ai (cy 0) (ps 8) 24 g3, ai (cy 0) (ps 9) 4 ht, ai (cy 0) (ps 10) 4 ld] := hD
          refine r_inc (k := 2) (lv' := [(2, .int (iI (3 + 1))), (0, .ref (ps 0)), (1, .int (iI mn))]) hx hb dX2_sweep_51 hl rfl (by decide) rfl (fun ls hl => ?_)
          refine lv_goto (tgt := 7) hx hb dX2_sweep_54 (by decide) ?_
          exact ih_7 (3 + 1) (cn + (ht 3)) (cpy g3 B 0 cn (ht 3)) (by omega) (by omega) (by rw [catL_s h1.1, ← h2, ← hG _ (by omega) (by omega)]; exact lst_cat h0 (hH _)) (by omega) H locs (pick_P hP (is := [0, 1, 2, 3, 4, 5, 6, 7, 8, 9, 10]) rfl) (hD.sub [0, 1, 2, 3, 4, 5, 6, 7, 8, 9, 10] (by decide) rfl) hS ls (lv_sub hl [1, 2, 0] rfl)
  exact lp_7 _ 0 0 or (by omega) (by omega) (rfl) (Nat.lt_succ_self _) H locs (pick_P hP (is := [0, 1, 2, 3, 4, 5, 6, 7, 8, 9, 10]) rfl) (hD.sub [0, 1, 2, 3, 4, 5, 6, 7, 8, 9, 10] (by decide) rfl) hS ls (lv_sub hl [1, 2, 0] rfl)
abbrev rm_X2_countSpilledAt : Room := { frames := 0, cells := 0, slots := 0, locals := 0 }
theorem fl_X2_countSpilledAt_15 : Cond.fieldLink RX2 15 "WalkPasses$Passes" "spilledAt" "[I" ∈ wsX2_countSpilledAt := by decide +kernel
theorem iw_X2_countSpilledAt_1 : ∀ w ∈ u_ws RX1 TX1 10, w ∈ wsX2_countSpilledAt := by decide +kernel
theorem iw_X2_countSpilledAt_2 : ∀ w ∈ u_ws RX2 TX2 7, w ∈ wsX2_countSpilledAt := by decide +kernel
set_option maxHeartbeats 4000000 in
set_option maxRecDepth 100000 in
theorem k_X2_countSpilledAt (l : Launch) (D : va_G) (cy : Nat → ClassId) (ps d : Nat → Nat) (z : Nat) (cm : Int) (or sa so g0 g1 g2 g3 ht ld : Int → Int) (lt mn vs : Int) (pt tk mr od pl rm cd : Int → Int) (jj : Int) (hlt : 0 ≤ lt ∧ lt ≤ 24) (hsa : ∀ l, 0 ≤ l → l < lt → 0 ≤ sa l ∧ sa l ≤ 3) (hj : 0 ≤ jj ∧ jj ≤ 3) : CtI l yX2_countSpilledAt wsX2_countSpilledAt rm_X2_countSpilledAt D (tyL cy) [.ref (ps 0), .ref (d 0), .int (iI jj)] [oP ps cm, ai (cy 0) (ps 1) 24 or, ai (cy 0) (ps 2) 24 sa, ai (cy 0) (ps 3) 10 so, aq (cy 3) (ps 4) 4 (fun j => ps (5 + j)), ai (cy 0) (ps 5) 24 g0, ai (cy 0) (ps 6) 24 g1, ai (cy 0) (ps 7) 24 g2, ai (cy 0) (ps 8) 24 g3, ai (cy 0) (ps 9) 4 ht, ai (cy 0) (ps 10) 4 ld, oD d lt mn vs, ai (cy 0) (d 1) 24 pt, ai (cy 0) (d 2) 24 tk, ai (cy 0) (d 3) 24 mr, ai (cy 0) (d 4) 10 od, ai (cy 0) (d 5) 10 pl, ai (cy 0) (d 6) 4 rm, ai (cy 0) (d 7) 10 cd] z (fun (r : Int) (u : Unit) => r = sumTo (fun l => if sa l = jj then 1 else 0) lt.toNat) (fun (u : Unit) => [oP ps cm, ai (cy 0) (ps 1) 24 or, ai (cy 0) (ps 2) 24 sa, ai (cy 0) (ps 3) 10 so, aq (cy 3) (ps 4) 4 (fun j => ps (5 + j)), ai (cy 0) (ps 5) 24 g0, ai (cy 0) (ps 6) 24 g1, ai (cy 0) (ps 7) 24 g2, ai (cy 0) (ps 8) 24 g3, ai (cy 0) (ps 9) 4 ht, ai (cy 0) (ps 10) 4 ld, oD d lt mn vs, ai (cy 0) (d 1) 24 pt, ai (cy 0) (d 2) 24 tk, ai (cy 0) (d 3) 24 mr, ai (cy 0) (d 4) 10 od, ai (cy 0) (d 5) 10 pl, ai (cy 0) (d 6) 4 rm, ai (cy 0) (d 7) 10 cd]) 0 0 := by
  refine ct_i (cc := cX2_countSpilledAt) (maxL := 5) (by decide) rfl (Nat.le_of_ble_eq_true rfl) ?_
  intro p e s m args below meth c A Q H locs ls hx hb hml hown hin hts hK hN hP hD hS hA hl hret
  replace hl : lv_has ls 5 [(0, .ref (ps 0)), (1, .ref (d 0)), (2, .int (iI jj))] := hl
  replace hown : s.vm.findClass RX2 = some m.cls := hown
  refine r_const hx hb dX2_countSpilledAt_0 ?_
  refine lv_istore_n (lv' := [(3, .int (iI 0)), (0, .ref (ps 0)), (1, .ref (d 0)), (2, .int (iI jj))]) hx hb dX2_countSpilledAt_1 rfl hl (by decide) rfl (fun ls hl => ?_)
  refine r_const hx hb dX2_countSpilledAt_2 ?_
  refine lv_istore (lv' := [(4, .int (iI 0)), (3, .int (iI 0)), (0, .ref (ps 0)), (1, .ref (d 0)), (2, .int (iI jj))]) hx hb dX2_countSpilledAt_3 hl (by decide) rfl (fun ls hl => ?_)
  have lp_5 : ∀ (fu : Nat) (g : Int) (i : Int), (0 ≤ i ∧ i ≤ lt) → (g = sumTo (fun l => if sa l = jj then 1 else 0) i.toNat) → (lt - i).toNat < fu → ∀ (H : Heap) (locs : List Loc), va_P D vwCl [oP ps cm, ai (cy 0) (ps 1) 24 or, ai (cy 0) (ps 2) 24 sa, ai (cy 0) (ps 3) 10 so, aq (cy 3) (ps 4) 4 (fun j => ps (5 + j)), ai (cy 0) (ps 5) 24 g0, ai (cy 0) (ps 6) 24 g1, ai (cy 0) (ps 7) 24 g2, ai (cy 0) (ps 8) 24 g3, ai (cy 0) (ps 9) 4 ht, ai (cy 0) (ps 10) 4 ld, oD d lt mn vs, ai (cy 0) (d 1) 24 pt, ai (cy 0) (d 2) 24 tk, ai (cy 0) (d 3) 24 mr, ai (cy 0) (d 4) 10 od, ai (cy 0) (d 5) 10 pl, ai (cy 0) (d 6) 4 rm, ai (cy 0) (d 7) 10 cd] H → va_D A [oP ps cm, ai (cy 0) (ps 1) 24 or, ai (cy 0) (ps 2) 24 sa, ai (cy 0) (ps 3) 10 so, aq (cy 3) (ps 4) 4 (fun j => ps (5 + j)), ai (cy 0) (ps 5) 24 g0, ai (cy 0) (ps 6) 24 g1, ai (cy 0) (ps 7) 24 g2, ai (cy 0) (ps 8) 24 g3, ai (cy 0) (ps 9) 4 ht, ai (cy 0) (ps 10) 4 ld, oD d lt mn vs, ai (cy 0) (d 1) 24 pt, ai (cy 0) (d 2) 24 tk, ai (cy 0) (d 3) 24 mr, ai (cy 0) (d 4) 10 od, ai (cy 0) (d 5) 10 pl, ai (cy 0) (d 6) 4 rm, ai (cy 0) (d 7) 10 cd] → va_S A s.heap H locs → ∀ (ls : Array Slot), lv_has ls 5 [(0, .ref (ps 0)), (1, .ref (d 0)), (2, .int (iI jj)), (3, .int (iI g)), (4, .int (iI i))] → W p l e rm_X2_countSpilledAt s m args below meth c H locs 0 0 Q (F0 m 5 ls []) := by
    intro fu
    induction fu with
    | zero =>
      intro g i h1 h2 hm
      exact absurd hm (Nat.not_lt_zero _)
    | succ fu ih_5 =>
      intro g i h1 h2 hm H locs hP hD hS ls hl
      refine lv_iload hx hb dX2_countSpilledAt_5 (lv_at hl 4 rfl) ?_
      refine lv_aload_n hx hb dX2_countSpilledAt_7 rfl (lv_at hl 1 rfl) ?_
      refine va_getN (D := D) (C := RX1) (T := TX1) (N := 10) (ci := 1) (v := .int (iI lt)) hx hb hts iw_X2_countSpilledAt_1 hown hK hP 11 rfl rfl 0 (by decide) (nfX2_40 hN) (fun _ h9 => h9) rfl dX2_countSpilledAt_8 ?_
      refine r_ge hx hb 34 dX2_countSpilledAt_11 (by decide) ⟨by omega, by omega⟩ ⟨by omega, by omega⟩ (fun c_11 => ?_) (fun c_11 => ?_)
      ·
        refine lv_iload_n hx hb dX2_countSpilledAt_34 rfl (lv_at hl 3 rfl) ?_
        exact hret [0, 1, 2, 3, 4, 5, 6, 7, 8, 9, 10, 11, 12, 13, 14, 15, 16, 17, 18] () dX2_countSpilledAt_35 hP hD hS (by decide) rfl (by rw [h2, show lt = i by omega])
      ·
        refine lv_aload_n hx hb dX2_countSpilledAt_14 rfl (lv_at hl 0 rfl) ?_
        have hs1 := hsa i h1.1 (by omega)
        refine va_get (D := D) (C := RX2) (T := TX2) (N := 7) (ci := 2) (v := .ref (ps 2)) hx hb hts iw_X2_countSpilledAt_2 hown hK hP 0 rfl rfl 2 (by decide) (hts _ fl_X2_countSpilledAt_15) (fun _ h9 => h9) rfl dX2_countSpilledAt_15 ?_
        refine lv_iload hx hb dX2_countSpilledAt_18 (lv_at hl 4 rfl) ?_
        refine r_ald hx hb hK hP 2 rfl rfl ⟨by omega, by omega, by omega⟩ dX2_countSpilledAt_20 ?_
        refine lv_iload_n hx hb dX2_countSpilledAt_21 rfl (lv_at hl 2 rfl) ?_
        refine r_ne hx hb 28 dX2_countSpilledAt_22 (by decide) ⟨by omega, by omega⟩ ⟨by omega, by omega⟩ (fun c_22 => ?_) (fun c_22 => ?_)
        ·
          refine r_inc (k := 4) (lv' := [(4, .int (iI (i + 1))), (0, .ref (ps 0)), (1, .ref (d 0)), (2, .int (iI jj)), (3, .int (iI g))]) hx hb dX2_countSpilledAt_28 hl rfl (by decide) rfl (fun ls hl => ?_)
          refine lv_goto (tgt := 5) hx hb dX2_countSpilledAt_31 (by decide) ?_
          exact ih_5 g (i + 1) (by omega) (by rw [sumTo_s h1.1, h2]; first | (rw [if_pos c_22]; done) | (rw [if_neg c_22]; omega)) (by omega) H locs (pick_P hP (is := [0, 1, 2, 3, 4, 5, 6, 7, 8, 9, 10, 11, 12, 13, 14, 15, 16, 17, 18]) rfl) (hD.sub [0, 1, 2, 3, 4, 5, 6, 7, 8, 9, 10, 11, 12, 13, 14, 15, 16, 17, 18] (by decide) rfl) hS ls (lv_sub hl [1, 2, 3, 4, 0] rfl)
        ·
          refine r_inc (k := 3) (lv' := [(3, .int (iI (g + 1))), (0, .ref (ps 0)), (1, .ref (d 0)), (2, .int (iI jj)), (4, .int (iI i))]) hx hb dX2_countSpilledAt_25 hl rfl (by decide) rfl (fun ls hl => ?_)
          refine r_inc (k := 4) (lv' := [(4, .int (iI (i + 1))), (3, .int (iI (g + 1))), (0, .ref (ps 0)), (1, .ref (d 0)), (2, .int (iI jj))]) hx hb dX2_countSpilledAt_28 hl rfl (by decide) rfl (fun ls hl => ?_)
          refine lv_goto (tgt := 5) hx hb dX2_countSpilledAt_31 (by decide) ?_
          exact ih_5 (g + 1) (i + 1) (by omega) (by rw [sumTo_s h1.1, h2]; first | (rw [if_pos c_22]; done) | (rw [if_neg c_22]; omega)) (by omega) H locs (pick_P hP (is := [0, 1, 2, 3, 4, 5, 6, 7, 8, 9, 10, 11, 12, 13, 14, 15, 16, 17, 18]) rfl) (hD.sub [0, 1, 2, 3, 4, 5, 6, 7, 8, 9, 10, 11, 12, 13, 14, 15, 16, 17, 18] (by decide) rfl) hS ls (lv_sub hl [2, 3, 4, 1, 0] rfl)
  exact lp_5 _ 0 0 (by omega) (rfl) (Nat.lt_succ_self _) H locs (pick_P hP (is := [0, 1, 2, 3, 4, 5, 6, 7, 8, 9, 10, 11, 12, 13, 14, 15, 16, 17, 18]) rfl) (hD.sub [0, 1, 2, 3, 4, 5, 6, 7, 8, 9, 10, 11, 12, 13, 14, 15, 16, 17, 18] (by decide) rfl) hS ls (lv_sub hl [2, 3, 4, 1, 0] rfl)
abbrev rm_X2_countWrong : Room := { frames := 0, cells := 0, slots := 0, locals := 0 }
theorem fl_X2_countWrong_9 : Cond.fieldLink RX2 9 "WalkPasses$Passes" "order" "[I" ∈ wsX2_countWrong := by decide +kernel
theorem fl_X2_countWrong_46 : Cond.fieldLink RX2 46 "WalkPasses$Passes" "coming" "I" ∈ wsX2_countWrong := by decide +kernel
theorem iw_X2_countWrong_1 : ∀ w ∈ u_ws RX1 TX1 10, w ∈ wsX2_countWrong := by decide +kernel
theorem iw_X2_countWrong_2 : ∀ w ∈ u_ws RX2 TX2 7, w ∈ wsX2_countWrong := by decide +kernel
set_option maxHeartbeats 4000000 in
set_option maxRecDepth 100000 in
theorem k_X2_countWrong (l : Launch) (D : va_G) (cy : Nat → ClassId) (ps d : Nat → Nat) (z : Nat) (cm : Int) (or sa so g0 g1 g2 g3 ht ld : Int → Int) (lt mn vs : Int) (pt tk mr od pl rm cd : Int → Int) (hI : DI lt mn pt tk mr od pl rm cd) (hcm : 0 ≤ cm ∧ cm ≤ 24) (hor : ∀ i, 0 ≤ i → i < cm → 0 ≤ or i ∧ or i < lt) : CtI l yX2_countWrong wsX2_countWrong rm_X2_countWrong D (tyL cy) [.ref (ps 0), .ref (d 0)] [oP ps cm, ai (cy 0) (ps 1) 24 or, ai (cy 0) (ps 2) 24 sa, ai (cy 0) (ps 3) 10 so, aq (cy 3) (ps 4) 4 (fun j => ps (5 + j)), ai (cy 0) (ps 5) 24 g0, ai (cy 0) (ps 6) 24 g1, ai (cy 0) (ps 7) 24 g2, ai (cy 0) (ps 8) 24 g3, ai (cy 0) (ps 9) 4 ht, ai (cy 0) (ps 10) 4 ld, oD d lt mn vs, ai (cy 0) (d 1) 24 pt, ai (cy 0) (d 2) 24 tk, ai (cy 0) (d 3) 24 mr, ai (cy 0) (d 4) 10 od, ai (cy 0) (d 5) 10 pl, ai (cy 0) (d 6) 4 rm, ai (cy 0) (d 7) 10 cd] z (fun (r : Int) (u : Unit) => r = wrS (fun i => pl (pt (or i))) cm.toNat) (fun (u : Unit) => [oP ps cm, ai (cy 0) (ps 1) 24 or, ai (cy 0) (ps 2) 24 sa, ai (cy 0) (ps 3) 10 so, aq (cy 3) (ps 4) 4 (fun j => ps (5 + j)), ai (cy 0) (ps 5) 24 g0, ai (cy 0) (ps 6) 24 g1, ai (cy 0) (ps 7) 24 g2, ai (cy 0) (ps 8) 24 g3, ai (cy 0) (ps 9) 4 ht, ai (cy 0) (ps 10) 4 ld, oD d lt mn vs, ai (cy 0) (d 1) 24 pt, ai (cy 0) (d 2) 24 tk, ai (cy 0) (d 3) 24 mr, ai (cy 0) (d 4) 10 od, ai (cy 0) (d 5) 10 pl, ai (cy 0) (d 6) 4 rm, ai (cy 0) (d 7) 10 cd]) 0 0 := by
  refine ct_i (cc := cX2_countWrong) (maxL := 6) (by decide) rfl (Nat.le_of_ble_eq_true rfl) ?_
  intro p e s m args below meth c A Q H locs ls hx hb hml hown hin hts hK hN hP hD hS hA hl hret
  replace hl : lv_has ls 6 [(0, .ref (ps 0)), (1, .ref (d 0))] := hl
  replace hown : s.vm.findClass RX2 = some m.cls := hown
  obtain ⟨⟨⟨hlt0, hlt1⟩, hmn0, hmn1⟩, ⟨hpt, htk, hmr⟩, ⟨hod, hpl, hpo, hop⟩, hrm, hcd⟩ := id hI
  refine r_const hx hb dX2_countWrong_0 ?_
  refine lv_istore_n (lv' := [(2, .int (iI 0)), (0, .ref (ps 0)), (1, .ref (d 0))]) hx hb dX2_countWrong_1 rfl hl (by decide) rfl (fun ls hl => ?_)
  refine r_const hx hb dX2_countWrong_2 ?_
  refine lv_istore_n (lv' := [(3, .int (iI 1)), (2, .int (iI 0)), (0, .ref (ps 0)), (1, .ref (d 0))]) hx hb dX2_countWrong_3 rfl hl (by decide) rfl (fun ls hl => ?_)
  have lp_4 : ∀ (fu : Nat) (g : Int) (b : Int), (1 ≤ b ∧ (b ≤ cm ∨ b = 1)) → (g = wrS (fun i => pl (pt (or i))) b.toNat) → (cm - b).toNat < fu → ∀ (H : Heap) (locs : List Loc), va_P D vwCl [oP ps cm, ai (cy 0) (ps 1) 24 or, ai (cy 0) (ps 2) 24 sa, ai (cy 0) (ps 3) 10 so, aq (cy 3) (ps 4) 4 (fun j => ps (5 + j)), ai (cy 0) (ps 5) 24 g0, ai (cy 0) (ps 6) 24 g1, ai (cy 0) (ps 7) 24 g2, ai (cy 0) (ps 8) 24 g3, ai (cy 0) (ps 9) 4 ht, ai (cy 0) (ps 10) 4 ld, oD d lt mn vs, ai (cy 0) (d 1) 24 pt, ai (cy 0) (d 2) 24 tk, ai (cy 0) (d 3) 24 mr, ai (cy 0) (d 4) 10 od, ai (cy 0) (d 5) 10 pl, ai (cy 0) (d 6) 4 rm, ai (cy 0) (d 7) 10 cd] H → va_D A [oP ps cm, ai (cy 0) (ps 1) 24 or, ai (cy 0) (ps 2) 24 sa, ai (cy 0) (ps 3) 10 so, aq (cy 3) (ps 4) 4 (fun j => ps (5 + j)), ai (cy 0) (ps 5) 24 g0, ai (cy 0) (ps 6) 24 g1, ai (cy 0) (ps 7) 24 g2, ai (cy 0) (ps 8) 24 g3, ai (cy 0) (ps 9) 4 ht, ai (cy 0) (ps 10) 4 ld, oD d lt mn vs, ai (cy 0) (d 1) 24 pt, ai (cy 0) (d 2) 24 tk, ai (cy 0) (d 3) 24 mr, ai (cy 0) (d 4) 10 od, ai (cy 0) (d 5) 10 pl, ai (cy 0) (d 6) 4 rm, ai (cy 0) (d 7) 10 cd] → va_S A s.heap H locs → ∀ (ls : Array Slot), lv_has ls 6 [(0, .ref (ps 0)), (1, .ref (d 0)), (2, .int (iI g)), (3, .int (iI b))] → W p l e rm_X2_countWrong s m args below meth c H locs 0 0 Q (F0 m 4 ls []) := by
    intro fu
    induction fu with
    | zero =>
      intro g b h1 h2 hm
      exact absurd hm (Nat.not_lt_zero _)
    | succ fu ih_4 =>
      intro g b h1 h2 hm H locs hP hD hS ls hl
      refine lv_iload_n hx hb dX2_countWrong_4 rfl (lv_at hl 3 rfl) ?_
      refine lv_aload_n hx hb dX2_countWrong_5 rfl (lv_at hl 0 rfl) ?_
      refine va_get (D := D) (C := RX2) (T := TX2) (N := 7) (ci := 2) (v := .int (iI cm)) hx hb hts iw_X2_countWrong_2 hown hK hP 0 rfl rfl 1 (by decide) (hts _ fl_X2_countWrong_46) (fun _ h9 => h9) rfl dX2_countWrong_6 ?_
      refine r_ge hx hb 76 dX2_countWrong_9 (by decide) ⟨by omega, by omega⟩ ⟨by omega, by omega⟩ (fun c_9 => ?_) (fun c_9 => ?_)
      ·
        refine lv_iload_n hx hb dX2_countWrong_76 rfl (lv_at hl 2 rfl) ?_
        exact hret [0, 1, 2, 3, 4, 5, 6, 7, 8, 9, 10, 11, 12, 13, 14, 15, 16, 17, 18] () dX2_countWrong_77 hP hD hS (by decide) rfl (by rw [h2]; exact wrS_1 (by omega) (by omega))
      ·
        have ho1 := hor b (by omega) (by omega)
        refine lv_aload_n hx hb dX2_countWrong_12 rfl (lv_at hl 1 rfl) ?_
        refine va_getN (D := D) (C := RX1) (T := TX1) (N := 10) (ci := 1) (v := .ref (d 5)) hx hb hts iw_X2_countWrong_1 hown hK hP 11 rfl rfl 5 (by decide) (nfX2_92 hN) (fun _ h9 => h9) rfl dX2_countWrong_13 ?_
        refine lv_aload_n hx hb dX2_countWrong_16 rfl (lv_at hl 1 rfl) ?_
        refine va_getN (D := D) (C := RX1) (T := TX1) (N := 10) (ci := 1) (v := .ref (d 1)) hx hb hts iw_X2_countWrong_1 hown hK hP 11 rfl rfl 1 (by decide) (nfX2_77 hN) (fun _ h9 => h9) rfl dX2_countWrong_17 ?_
        refine lv_aload_n hx hb dX2_countWrong_20 rfl (lv_at hl 0 rfl) ?_
        refine va_get (D := D) (C := RX2) (T := TX2) (N := 7) (ci := 2) (v := .ref (ps 1)) hx hb hts iw_X2_countWrong_2 hown hK hP 0 rfl rfl 0 (by decide) (hts _ fl_X2_countWrong_9) (fun _ h9 => h9) rfl dX2_countWrong_21 ?_
        refine lv_iload_n hx hb dX2_countWrong_24 rfl (lv_at hl 3 rfl) ?_
        refine r_ald hx hb hK hP 1 rfl rfl ⟨by omega, by omega, by omega⟩ dX2_countWrong_25 ?_
        refine r_ald hx hb hK hP 12 rfl rfl ⟨by omega, by omega, by omega⟩ dX2_countWrong_26 ?_
        have b_26 := hpt (or b)
        refine r_ald hx hb hK hP 16 rfl rfl ⟨by omega, by omega, by omega⟩ dX2_countWrong_27 ?_
        have b_27 := hpl (pt (or b))
        refine lv_istore (lv' := [(4, .int (iI (pl (pt (or b))))), (0, .ref (ps 0)), (1, .ref (d 0)), (2, .int (iI g)), (3, .int (iI b))]) hx hb dX2_countWrong_28 hl (by decide) rfl (fun ls hl => ?_)
        refine r_const hx hb dX2_countWrong_30 ?_
        refine lv_istore (lv' := [(5, .int (iI 0)), (4, .int (iI (pl (pt (or b))))), (0, .ref (ps 0)), (1, .ref (d 0)), (2, .int (iI g)), (3, .int (iI b))]) hx hb dX2_countWrong_31 hl (by decide) rfl (fun ls hl => ?_)
        have lp_33 : ∀ (fu : Nat) (ge : Int) (i : Int), (0 ≤ i ∧ i ≤ b) → (ge = g + sumTo (fun i => if (fun i => pl (pt (or i))) b < (fun i => pl (pt (or i))) i then 1 else 0) i.toNat) → (b - i).toNat < fu → ∀ (H : Heap) (locs : List Loc), va_P D vwCl [oP ps cm, ai (cy 0) (ps 1) 24 or, ai (cy 0) (ps 2) 24 sa, ai (cy 0) (ps 3) 10 so, aq (cy 3) (ps 4) 4 (fun j => ps (5 + j)), ai (cy 0) (ps 5) 24 g0, ai (cy 0) (ps 6) 24 g1, ai (cy 0) (ps 7) 24 g2, ai (cy 0) (ps 8) 24 g3, ai (cy 0) (ps 9) 4 ht, ai (cy 0) (ps 10) 4 ld, oD d lt mn vs, ai (cy 0) (d 1) 24 pt, ai (cy 0) (d 2) 24 tk, ai (cy 0) (d 3) 24 mr, ai (cy 0) (d 4) 10 od, ai (cy 0) (d 5) 10 pl, ai (cy 0) (d 6) 4 rm, ai (cy 0) (d 7) 10 cd] H → va_D A [oP ps cm, ai (cy 0) (ps 1) 24 or, ai (cy 0) (ps 2) 24 sa, ai (cy 0) (ps 3) 10 so, aq (cy 3) (ps 4) 4 (fun j => ps (5 + j)), ai (cy 0) (ps 5) 24 g0, ai (cy 0) (ps 6) 24 g1, ai (cy 0) (ps 7) 24 g2, ai (cy 0) (ps 8) 24 g3, ai (cy 0) (ps 9) 4 ht, ai (cy 0) (ps 10) 4 ld, oD d lt mn vs, ai (cy 0) (d 1) 24 pt, ai (cy 0) (d 2) 24 tk, ai (cy 0) (d 3) 24 mr, ai (cy 0) (d 4) 10 od, ai (cy 0) (d 5) 10 pl, ai (cy 0) (d 6) 4 rm, ai (cy 0) (d 7) 10 cd] → va_S A s.heap H locs → ∀ (ls : Array Slot), lv_has ls 6 [(0, .ref (ps 0)), (1, .ref (d 0)), (2, .int (iI ge)), (3, .int (iI b)), (4, .int (iI (pl (pt (or b))))), (5, .int (iI i))] → W p l e rm_X2_countWrong s m args below meth c H locs 0 0 Q (F0 m 33 ls []) := by
          intro fu
          induction fu with
          | zero =>
            intro ge i h3 h4 hm
            exact absurd hm (Nat.not_lt_zero _)
          | succ fu ih_33 =>
            intro ge i h3 h4 hm H locs hP hD hS ls hl
            refine lv_iload hx hb dX2_countWrong_33 (lv_at hl 5 rfl) ?_
            refine lv_iload_n hx hb dX2_countWrong_35 rfl (lv_at hl 3 rfl) ?_
            refine r_ge hx hb 70 dX2_countWrong_36 (by decide) ⟨by omega, by omega⟩ ⟨by omega, by omega⟩ (fun c_36 => ?_) (fun c_36 => ?_)
            ·
              refine r_inc (k := 3) (lv' := [(3, .int (iI (b + 1))), (0, .ref (ps 0)), (1, .ref (d 0)), (2, .int (iI ge)), (4, .int (iI (pl (pt (or b))))), (5, .int (iI i))]) hx hb dX2_countWrong_70 hl rfl (by decide) rfl (fun ls hl => ?_)
              refine lv_goto (tgt := 4) hx hb dX2_countWrong_73 (by decide) ?_
              exact ih_4 ge (b + 1) (by omega) (by rw [h4, wrS_s (by omega), ← h2, show i = b by omega]) (by omega) H locs (pick_P hP (is := [0, 1, 2, 3, 4, 5, 6, 7, 8, 9, 10, 11, 12, 13, 14, 15, 16, 17, 18]) rfl) (hD.sub [0, 1, 2, 3, 4, 5, 6, 7, 8, 9, 10, 11, 12, 13, 14, 15, 16, 17, 18] (by decide) rfl) hS ls (lv_sub hl [1, 2, 3, 0] rfl)
            ·
              refine lv_iload hx hb dX2_countWrong_39 (lv_at hl 4 rfl) ?_
              have ho2 := hor i (by omega) (by omega)
              refine lv_aload_n hx hb dX2_countWrong_41 rfl (lv_at hl 1 rfl) ?_
              refine va_getN (D := D) (C := RX1) (T := TX1) (N := 10) (ci := 1) (v := .ref (d 5)) hx hb hts iw_X2_countWrong_1 hown hK hP 11 rfl rfl 5 (by decide) (nfX2_92 hN) (fun _ h9 => h9) rfl dX2_countWrong_42 ?_
              refine lv_aload_n hx hb dX2_countWrong_45 rfl (lv_at hl 1 rfl) ?_
              refine va_getN (D := D) (C := RX1) (T := TX1) (N := 10) (ci := 1) (v := .ref (d 1)) hx hb hts iw_X2_countWrong_1 hown hK hP 11 rfl rfl 1 (by decide) (nfX2_77 hN) (fun _ h9 => h9) rfl dX2_countWrong_46 ?_
              refine lv_aload_n hx hb dX2_countWrong_49 rfl (lv_at hl 0 rfl) ?_
              refine va_get (D := D) (C := RX2) (T := TX2) (N := 7) (ci := 2) (v := .ref (ps 1)) hx hb hts iw_X2_countWrong_2 hown hK hP 0 rfl rfl 0 (by decide) (hts _ fl_X2_countWrong_9) (fun _ h9 => h9) rfl dX2_countWrong_50 ?_
              refine lv_iload hx hb dX2_countWrong_53 (lv_at hl 5 rfl) ?_
              refine r_ald hx hb hK hP 1 rfl rfl ⟨by omega, by omega, by omega⟩ dX2_countWrong_55 ?_
              refine r_ald hx hb hK hP 12 rfl rfl ⟨by omega, by omega, by omega⟩ dX2_countWrong_56 ?_
              have b_56 := hpt (or i)
              refine r_ald hx hb hK hP 16 rfl rfl ⟨by omega, by omega, by omega⟩ dX2_countWrong_57 ?_
              have b_57 := hpl (pt (or i))
              refine r_ge hx hb 64 dX2_countWrong_58 (by decide) ⟨by omega, by omega⟩ ⟨by omega, by omega⟩ (fun c_58 => ?_) (fun c_58 => ?_)
              ·
                refine r_inc (k := 5) (lv' := [(5, .int (iI (i + 1))), (0, .ref (ps 0)), (1, .ref (d 0)), (2, .int (iI ge)), (3, .int (iI b)), (4, .int (iI (pl (pt (or b)))))]) hx hb dX2_countWrong_64 hl rfl (by decide) rfl (fun ls hl => ?_)
                refine lv_goto (tgt := 33) hx hb dX2_countWrong_67 (by decide) ?_
                exact ih_33 ge (i + 1) (by omega) (by rw [sumTo_s h3.1, h4]; first | (rw [if_pos (by show pl (pt (or b)) < pl (pt (or i)); omega)]; omega) | (rw [if_neg (by show ¬ pl (pt (or b)) < pl (pt (or i)); omega)]; omega)) (by omega) H locs (pick_P hP (is := [0, 1, 2, 3, 4, 5, 6, 7, 8, 9, 10, 11, 12, 13, 14, 15, 16, 17, 18]) rfl) (hD.sub [0, 1, 2, 3, 4, 5, 6, 7, 8, 9, 10, 11, 12, 13, 14, 15, 16, 17, 18] (by decide) rfl) hS ls (lv_sub hl [1, 2, 3, 4, 5, 0] rfl)
              ·
                refine r_inc (k := 2) (lv' := [(2, .int (iI (ge + 1))), (0, .ref (ps 0)), (1, .ref (d 0)), (3, .int (iI b)), (4, .int (iI (pl (pt (or b))))), (5, .int (iI i))]) hx hb dX2_countWrong_61 hl rfl (by decide) rfl (fun ls hl => ?_)
                refine r_inc (k := 5) (lv' := [(5, .int (iI (i + 1))), (2, .int (iI (ge + 1))), (0, .ref (ps 0)), (1, .ref (d 0)), (3, .int (iI b)), (4, .int (iI (pl (pt (or b)))))]) hx hb dX2_countWrong_64 hl rfl (by decide) rfl (fun ls hl => ?_)
                refine lv_goto (tgt := 33) hx hb dX2_countWrong_67 (by decide) ?_
                exact ih_33 (ge + 1) (i + 1) (by omega) (by rw [sumTo_s h3.1, h4]; first | (rw [if_pos (by show pl (pt (or b)) < pl (pt (or i)); omega)]; omega) | (rw [if_neg (by show ¬ pl (pt (or b)) < pl (pt (or i)); omega)]; omega)) (by omega) H locs (pick_P hP (is := [0, 1, 2, 3, 4, 5, 6, 7, 8, 9, 10, 11, 12, 13, 14, 15, 16, 17, 18]) rfl) (hD.sub [0, 1, 2, 3, 4, 5, 6, 7, 8, 9, 10, 11, 12, 13, 14, 15, 16, 17, 18] (by decide) rfl) hS ls (lv_sub hl [2, 3, 1, 4, 5, 0] rfl)
        exact lp_33 _ g 0 (by omega) (by show g = g + 0; omega) (Nat.lt_succ_self _) H locs (pick_P hP (is := [0, 1, 2, 3, 4, 5, 6, 7, 8, 9, 10, 11, 12, 13, 14, 15, 16, 17, 18]) rfl) (hD.sub [0, 1, 2, 3, 4, 5, 6, 7, 8, 9, 10, 11, 12, 13, 14, 15, 16, 17, 18] (by decide) rfl) hS ls (lv_sub hl [2, 3, 4, 5, 1, 0] rfl)
  exact lp_4 _ 0 1 (by omega) (rfl) (Nat.lt_succ_self _) H locs (pick_P hP (is := [0, 1, 2, 3, 4, 5, 6, 7, 8, 9, 10, 11, 12, 13, 14, 15, 16, 17, 18]) rfl) (hD.sub [0, 1, 2, 3, 4, 5, 6, 7, 8, 9, 10, 11, 12, 13, 14, 15, 16, 17, 18] (by decide) rfl) hS ls (lv_sub hl [2, 3, 1, 0] rfl)
abbrev rm_X2_countSpilledUpTo : Room := { frames := 2, cells := 0, slots := 0, locals := 62 }
theorem fl_X2_countSpilledUpTo_46 : Cond.fieldLink RX2 46 "WalkPasses$Passes" "coming" "I" ∈ wsX2_countSpilledUpTo := by decide +kernel
theorem iw_X2_countSpilledUpTo_1 : ∀ w ∈ u_ws RX1 TX1 10, w ∈ wsX2_countSpilledUpTo := by decide +kernel
theorem iw_X2_countSpilledUpTo_2 : ∀ w ∈ u_ws RX2 TX2 7, w ∈ wsX2_countSpilledUpTo := by decide +kernel
set_option maxHeartbeats 4000000 in
set_option maxRecDepth 100000 in
theorem k_X2_countSpilledUpTo (l : Launch) (D : va_G) (cy : Nat → ClassId) (ps d : Nat → Nat) (a : Nat) (z : Nat) (cm : Int) (or sa so g0 g1 g2 g3 ht ld : Int → Int) (lt mn vs : Int) (pt tk mr od pl rm cd : Int → Int) (cx : Int → Int) (k mo : Int) (hI : DI lt mn pt tk mr od pl rm cd) (hk : 1 ≤ k ∧ k ≤ 3) (hmo : 0 ≤ mo ∧ mo ≤ 100) (hcx : ∀ j, 0 ≤ cx j ∧ cx j ≤ 63) : CtI l yX2_countSpilledUpTo wsX2_countSpilledUpTo rm_X2_countSpilledUpTo D (tyL cy) [.ref (ps 0), .ref (d 0), .ref (a), .int (iI k), .int (iI mo)] [oP ps cm, ai (cy 0) (ps 1) 24 or, ai (cy 0) (ps 2) 24 sa, ai (cy 0) (ps 3) 10 so, aq (cy 3) (ps 4) 4 (fun j => ps (5 + j)), ai (cy 0) (ps 5) 24 g0, ai (cy 0) (ps 6) 24 g1, ai (cy 0) (ps 7) 24 g2, ai (cy 0) (ps 8) 24 g3, ai (cy 0) (ps 9) 4 ht, ai (cy 0) (ps 10) 4 ld, oD d lt mn vs, ai (cy 0) (d 1) 24 pt, ai (cy 0) (d 2) 24 tk, ai (cy 0) (d 3) 24 mr, ai (cy 0) (d 4) 10 od, ai (cy 0) (d 5) 10 pl, ai (cy 0) (d 6) 4 rm, ai (cy 0) (d 7) 10 cd, ai (cy 0) a 10 cx] z (fun (r : Int) (u : Int × (Int → Int) × (Int → Int) × (Int → Int) × (Int → Int) × (Int → Int) × (Int → Int) × (Int → Int) × (Int → Int) × (Int → Int)) => (lt - ((rnS lt mn pt tk mr rm cx k.toNat).1.length : Int) ≤ mo → r = lt - ((rnS lt mn pt tk mr rm cx k.toNat).1.length : Int) ∧ RnP lt mn pt tk mr rm cx k.toNat u.1 u.2.1 u.2.2.1 u.2.2.2.2.2.2.2.2.2) ∧ (mo < lt - ((rnS lt mn pt tk mr rm cx k.toNat).1.length : Int) → mo < r ∧ r ≤ 24)) (fun (u : Int × (Int → Int) × (Int → Int) × (Int → Int) × (Int → Int) × (Int → Int) × (Int → Int) × (Int → Int) × (Int → Int) × (Int → Int)) => [oP ps u.1, ai (cy 0) (ps 1) 24 u.2.1, ai (cy 0) (ps 2) 24 u.2.2.1, ai (cy 0) (ps 3) 10 u.2.2.2.1, aq (cy 3) (ps 4) 4 (fun j => ps (5 + j)), ai (cy 0) (ps 5) 24 u.2.2.2.2.1, ai (cy 0) (ps 6) 24 u.2.2.2.2.2.1, ai (cy 0) (ps 7) 24 u.2.2.2.2.2.2.1, ai (cy 0) (ps 8) 24 u.2.2.2.2.2.2.2.1, ai (cy 0) (ps 9) 4 u.2.2.2.2.2.2.2.2.1, ai (cy 0) (ps 10) 4 u.2.2.2.2.2.2.2.2.2, oD d lt mn vs, ai (cy 0) (d 1) 24 pt, ai (cy 0) (d 2) 24 tk, ai (cy 0) (d 3) 24 mr, ai (cy 0) (d 4) 10 od, ai (cy 0) (d 5) 10 pl, ai (cy 0) (d 6) 4 rm, ai (cy 0) (d 7) 10 cd, ai (cy 0) a 10 cx]) 0 0 := by
  refine ct_i (cc := cX2_countSpilledUpTo) (maxL := 7) (by decide) rfl (Nat.le_of_ble_eq_true rfl) ?_
  intro p e s m args below meth c A Q H locs ls hx hb hml hown hin hts hK hN hP hD hS hA hl hret
  replace hl : lv_has ls 7 [(0, .ref (ps 0)), (1, .ref (d 0)), (2, .ref (a)), (3, .int (iI k)), (4, .int (iI mo))] := hl
  replace hown : s.vm.findClass RX2 = some m.cls := hown
  obtain ⟨⟨⟨hlt0, hlt1⟩, hmn0, hmn1⟩, ⟨hpt, htk, hmr⟩, ⟨hod, hpl, hpo, hop⟩, hrm, hcd⟩ := id hI
  refine lv_aload_n hx hb dX2_countSpilledUpTo_0 rfl (lv_at hl 0 rfl) ?_
  refine lv_aload_n hx hb dX2_countSpilledUpTo_1 rfl (lv_at hl 1 rfl) ?_
  have M_2 := k_X2_begin l D cy ps d H.size cm or sa so g0 g1 g2 g3 ht ld lt mn vs pt tk mr od pl rm cd (hI)
  refine kV_v (wr := [ai (cy 0) a 10 cx]) (As := [.ref (d 0)]) (rest := []) (q := (RX2, TX2, 7)) (ci := 2) ⟨hx, hb, hml, hown, hts⟩ M_2 0 rfl rfl (cwV 1 hts gX2_countSpilledUpTo_X2_begin rfl rfl rfl (by decide +kernel) ⟨Nat.le_of_ble_eq_true rfl, Nat.le_of_ble_eq_true rfl⟩) hN hK hP hD hS hA [0, 1, 2, 3, 4, 5, 6, 7, 8, 9, 10, 11, 12, 13, 14, 15, 16, 17, 18] [19] rfl rfl (by decide) (by decide) (by decide) rfl hl.1 rfl (Nat.le_of_ble_eq_true rfl) dX2_countSpilledUpTo_2 ⟨Nat.le_of_ble_eq_true rfl, Nat.le_of_ble_eq_true rfl⟩ (fun u_2 H locs hw_2 hP hD hS => ?_)
  obtain ⟨v_1, v_2, v_3⟩ := u_2
  try dsimp only at hw_2
  replace hP : va_P D vwCl [ai (cy 0) a 10 cx, oP ps v_1, ai (cy 0) (ps 1) 24 v_2, ai (cy 0) (ps 2) 24 v_3, ai (cy 0) (ps 3) 10 so, aq (cy 3) (ps 4) 4 (fun j => ps (5 + j)), ai (cy 0) (ps 5) 24 g0, ai (cy 0) (ps 6) 24 g1, ai (cy 0) (ps 7) 24 g2, ai (cy 0) (ps 8) 24 g3, ai (cy 0) (ps 9) 4 ht, ai (cy 0) (ps 10) 4 ld, oD d lt mn vs, ai (cy 0) (d 1) 24 pt, ai (cy 0) (d 2) 24 tk, ai (cy 0) (d 3) 24 mr, ai (cy 0) (d 4) 10 od, ai (cy 0) (d 5) 10 pl, ai (cy 0) (d 6) 4 rm, ai (cy 0) (d 7) 10 cd] H := hP
  replace hD : va_D A [ai (cy 0) a 10 cx, oP ps v_1, ai (cy 0) (ps 1) 24 v_2, ai (cy 0) (ps 2) 24 v_3, ai (cy 0) (ps 3) 10 so, aq (cy 3) (ps 4) 4 (fun j => ps (5 + j)), ai (cy 0) (ps 5) 24 g0, ai (cy 0) (ps 6) 24 g1, ai (cy 0) (ps 7) 24 g2, ai (cy 0) (ps 8) 24 g3, ai (cy 0) (ps 9) 4 ht, ai (cy 0) (ps 10) 4 ld, oD d lt mn vs, ai (cy 0) (d 1) 24 pt, ai (cy 0) (d 2) 24 tk, ai (cy 0) (d 3) 24 mr, ai (cy 0) (d 4) 10 od, ai (cy 0) (d 5) 10 pl, ai (cy 0) (d 6) 4 rm, ai (cy 0) (d 7) 10 cd] := hD
  refine r_const hx hb dX2_countSpilledUpTo_5 ?_
  refine lv_istore (lv' := [(5, .int (iI 1)), (0, .ref (ps 0)), (1, .ref (d 0)), (2, .ref (a)), (3, .int (iI k)), (4, .int (iI mo))]) hx hb dX2_countSpilledUpTo_6 hl (by decide) rfl (fun ls hl => ?_)
  refine r_const hx hb dX2_countSpilledUpTo_8 ?_
  refine lv_istore (lv' := [(6, .int (iI 1)), (5, .int (iI 1)), (0, .ref (ps 0)), (1, .ref (d 0)), (2, .ref (a)), (3, .int (iI k)), (4, .int (iI mo))]) hx hb dX2_countSpilledUpTo_9 hl (by decide) rfl (fun ls hl => ?_)
  have lp_11 : ∀ (fu : Nat) (un : Int) (j : Int) (cn : Int) (B : Int → Int) (SA : Int → Int) (SO : Int → Int) (A0 : Int → Int) (A1 : Int → Int) (A2 : Int → Int) (A3 : Int → Int) (HT : Int → Int) (LD : Int → Int), (1 ≤ j ∧ j ≤ k + 1) → (un = pw mn (j - 1).toNat) → (RnP lt mn pt tk mr rm cx (j - 1).toNat cn B SA LD) → (k + 1 - j).toNat < fu → ∀ (H : Heap) (locs : List Loc), va_P D vwCl [ai (cy 0) a 10 cx, oP ps cn, ai (cy 0) (ps 1) 24 B, ai (cy 0) (ps 2) 24 SA, ai (cy 0) (ps 3) 10 SO, aq (cy 3) (ps 4) 4 (fun j => ps (5 + j)), ai (cy 0) (ps 5) 24 A0, ai (cy 0) (ps 6) 24 A1, ai (cy 0) (ps 7) 24 A2, ai (cy 0) (ps 8) 24 A3, ai (cy 0) (ps 9) 4 HT, ai (cy 0) (ps 10) 4 LD, oD d lt mn vs, ai (cy 0) (d 1) 24 pt, ai (cy 0) (d 2) 24 tk, ai (cy 0) (d 3) 24 mr, ai (cy 0) (d 4) 10 od, ai (cy 0) (d 5) 10 pl, ai (cy 0) (d 6) 4 rm, ai (cy 0) (d 7) 10 cd] H → va_D A [ai (cy 0) a 10 cx, oP ps cn, ai (cy 0) (ps 1) 24 B, ai (cy 0) (ps 2) 24 SA, ai (cy 0) (ps 3) 10 SO, aq (cy 3) (ps 4) 4 (fun j => ps (5 + j)), ai (cy 0) (ps 5) 24 A0, ai (cy 0) (ps 6) 24 A1, ai (cy 0) (ps 7) 24 A2, ai (cy 0) (ps 8) 24 A3, ai (cy 0) (ps 9) 4 HT, ai (cy 0) (ps 10) 4 LD, oD d lt mn vs, ai (cy 0) (d 1) 24 pt, ai (cy 0) (d 2) 24 tk, ai (cy 0) (d 3) 24 mr, ai (cy 0) (d 4) 10 od, ai (cy 0) (d 5) 10 pl, ai (cy 0) (d 6) 4 rm, ai (cy 0) (d 7) 10 cd] → va_S A s.heap H locs → ∀ (ls : Array Slot), lv_has ls 7 [(0, .ref (ps 0)), (1, .ref (d 0)), (2, .ref (a)), (3, .int (iI k)), (4, .int (iI mo)), (5, .int (iI un)), (6, .int (iI j))] → W p l e rm_X2_countSpilledUpTo s m args below meth c H locs 0 0 Q (F0 m 11 ls []) := by
    intro fu
    induction fu with
    | zero =>
      intro un j cn B SA SO A0 A1 A2 A3 HT LD h1 h2 hp hm
      exact absurd hm (Nat.not_lt_zero _)
    | succ fu ih_11 =>
      intro un j cn B SA SO A0 A1 A2 A3 HT LD h1 h2 hp hm H locs hP hD hS ls hl
      have hcn := RnP_cm hp
      have hrl := rn_len lt mn pt tk mr rm cx hlt0 (j - 1).toNat
      have hub := pw_b hmn0 hmn1 (n := (j - 1).toNat) (by omega)
      refine lv_iload hx hb dX2_countSpilledUpTo_11 (lv_at hl 6 rfl) ?_
      refine lv_iload_n hx hb dX2_countSpilledUpTo_13 rfl (lv_at hl 3 rfl) ?_
      refine r_gt hx hb 72 dX2_countSpilledUpTo_14 (by decide) ⟨by omega, by omega⟩ ⟨by omega, by omega⟩ (fun c_14 => ?_) (fun c_14 => ?_)
      ·
        refine lv_aload_n hx hb dX2_countSpilledUpTo_72 rfl (lv_at hl 1 rfl) ?_
        refine va_getN (D := D) (C := RX1) (T := TX1) (N := 10) (ci := 1) (v := .int (iI lt)) hx hb hts iw_X2_countSpilledUpTo_1 hown hK hP 12 rfl rfl 0 (by decide) (nfX2_40 hN) (fun _ h9 => h9) rfl dX2_countSpilledUpTo_73 ?_
        refine lv_aload_n hx hb dX2_countSpilledUpTo_76 rfl (lv_at hl 0 rfl) ?_
        refine va_get (D := D) (C := RX2) (T := TX2) (N := 7) (ci := 2) (v := .int (iI cn)) hx hb hts iw_X2_countSpilledUpTo_2 hown hK hP 1 rfl rfl 1 (by decide) (hts _ fl_X2_countSpilledUpTo_46) (fun _ h9 => h9) rfl dX2_countSpilledUpTo_77 ?_
        refine r_sub hx hb dX2_countSpilledUpTo_80 ?_
        have hcn2 := rn_len lt mn pt tk mr rm cx hlt0 k.toNat
        exact hret [1, 2, 3, 4, 5, 6, 7, 8, 9, 10, 11, 12, 13, 14, 15, 16, 17, 18, 19, 0] (cn, B, SA, SO, A0, A1, A2, A3, HT, LD) dX2_countSpilledUpTo_81 hP hD hS (by decide) rfl (by first | (rw [show k.toNat = (j - 1).toNat by omega]; exact ⟨fun _ => ⟨by omega, hp⟩, fun q => by omega⟩) | (have hmm := rn_mono lt mn pt tk mr rm cx (j - 1).toNat (k.toNat - (j - 1).toNat); rw [show (j - 1).toNat + (k.toNat - (j - 1).toNat) = k.toNat by omega] at hmm; exact ⟨fun q => by omega, fun q => by omega⟩))
      ·
        refine lv_aload_n hx hb dX2_countSpilledUpTo_17 rfl (lv_at hl 1 rfl) ?_
        refine va_getN (D := D) (C := RX1) (T := TX1) (N := 10) (ci := 1) (v := .int (iI lt)) hx hb hts iw_X2_countSpilledUpTo_1 hown hK hP 12 rfl rfl 0 (by decide) (nfX2_40 hN) (fun _ h9 => h9) rfl dX2_countSpilledUpTo_18 ?_
        refine lv_aload_n hx hb dX2_countSpilledUpTo_21 rfl (lv_at hl 0 rfl) ?_
        refine va_get (D := D) (C := RX2) (T := TX2) (N := 7) (ci := 2) (v := .int (iI cn)) hx hb hts iw_X2_countSpilledUpTo_2 hown hK hP 1 rfl rfl 1 (by decide) (hts _ fl_X2_countSpilledUpTo_46) (fun _ h9 => h9) rfl dX2_countSpilledUpTo_22 ?_
        refine r_sub hx hb dX2_countSpilledUpTo_25 ?_
        refine lv_iload hx hb dX2_countSpilledUpTo_26 (lv_at hl 4 rfl) ?_
        refine r_gt hx hb 72 dX2_countSpilledUpTo_28 (by decide) ⟨by omega, by omega⟩ ⟨by omega, by omega⟩ (fun c_28 => ?_) (fun c_28 => ?_)
        ·
          refine lv_aload_n hx hb dX2_countSpilledUpTo_72 rfl (lv_at hl 1 rfl) ?_
          refine va_getN (D := D) (C := RX1) (T := TX1) (N := 10) (ci := 1) (v := .int (iI lt)) hx hb hts iw_X2_countSpilledUpTo_1 hown hK hP 12 rfl rfl 0 (by decide) (nfX2_40 hN) (fun _ h9 => h9) rfl dX2_countSpilledUpTo_73 ?_
          refine lv_aload_n hx hb dX2_countSpilledUpTo_76 rfl (lv_at hl 0 rfl) ?_
          refine va_get (D := D) (C := RX2) (T := TX2) (N := 7) (ci := 2) (v := .int (iI cn)) hx hb hts iw_X2_countSpilledUpTo_2 hown hK hP 1 rfl rfl 1 (by decide) (hts _ fl_X2_countSpilledUpTo_46) (fun _ h9 => h9) rfl dX2_countSpilledUpTo_77 ?_
          refine r_sub hx hb dX2_countSpilledUpTo_80 ?_
          have hcn2 := rn_len lt mn pt tk mr rm cx hlt0 k.toNat
          exact hret [1, 2, 3, 4, 5, 6, 7, 8, 9, 10, 11, 12, 13, 14, 15, 16, 17, 18, 19, 0] (cn, B, SA, SO, A0, A1, A2, A3, HT, LD) dX2_countSpilledUpTo_81 hP hD hS (by decide) rfl (by first | (rw [show k.toNat = (j - 1).toNat by omega]; exact ⟨fun _ => ⟨by omega, hp⟩, fun q => by omega⟩) | (have hmm := rn_mono lt mn pt tk mr rm cx (j - 1).toNat (k.toNat - (j - 1).toNat); rw [show (j - 1).toNat + (k.toNat - (j - 1).toNat) = k.toNat by omega] at hmm; exact ⟨fun q => by omega, fun q => by omega⟩))
        ·
          refine lv_aload_n hx hb dX2_countSpilledUpTo_31 rfl (lv_at hl 0 rfl) ?_
          refine lv_aload_n hx hb dX2_countSpilledUpTo_32 rfl (lv_at hl 2 rfl) ?_
          refine lv_iload hx hb dX2_countSpilledUpTo_33 (lv_at hl 5 rfl) ?_
          refine lv_aload_n hx hb dX2_countSpilledUpTo_35 rfl (lv_at hl 1 rfl) ?_
          refine va_getN (D := D) (C := RX1) (T := TX1) (N := 10) (ci := 1) (v := .int (iI mn)) hx hb hts iw_X2_countSpilledUpTo_1 hown hK hP 12 rfl rfl 6 (by decide) (nfX2_49 hN) (fun _ h9 => h9) rfl dX2_countSpilledUpTo_36 ?_
          have M_39 := k_X2_aim l D cy ps a H.size cn B SA SO A0 A1 A2 A3 HT LD cx un mn (hcx) (by omega) (⟨hmn0, hmn1⟩)
          refine kV_v (wr := [oD d lt mn vs, ai (cy 0) (d 1) 24 pt, ai (cy 0) (d 2) 24 tk, ai (cy 0) (d 3) 24 mr, ai (cy 0) (d 4) 10 od, ai (cy 0) (d 5) 10 pl, ai (cy 0) (d 6) 4 rm, ai (cy 0) (d 7) 10 cd]) (As := [.ref (a), .int (iI un), .int (iI mn)]) (rest := []) (q := (RX2, TX2, 7)) (ci := 2) ⟨hx, hb, hml, hown, hts⟩ M_39 1 rfl rfl (cwV 3 hts gX2_countSpilledUpTo_X2_aim rfl rfl rfl (by decide +kernel) ⟨Nat.le_of_ble_eq_true rfl, Nat.le_of_ble_eq_true rfl⟩) hN hK hP hD hS hA [1, 2, 3, 4, 5, 6, 7, 8, 9, 10, 11, 0] [12, 13, 14, 15, 16, 17, 18, 19] rfl rfl (by decide) (by decide) (by decide) rfl hl.1 rfl (Nat.le_of_ble_eq_true rfl) dX2_countSpilledUpTo_39 ⟨Nat.le_of_ble_eq_true rfl, Nat.le_of_ble_eq_true rfl⟩ (fun u_39 H locs hw_39 hP hD hS => ?_)
          obtain ⟨so1, rfl⟩ : ∃ z, z = u_39 := ⟨_, rfl⟩
          try dsimp only at hw_39
          replace hP : va_P D vwCl [oD d lt mn vs, ai (cy 0) (d 1) 24 pt, ai (cy 0) (d 2) 24 tk, ai (cy 0) (d 3) 24 mr, ai (cy 0) (d 4) 10 od, ai (cy 0) (d 5) 10 pl, ai (cy 0) (d 6) 4 rm, ai (cy 0) (d 7) 10 cd, oP ps cn, ai (cy 0) (ps 1) 24 B, ai (cy 0) (ps 2) 24 SA, ai (cy 0) (ps 3) 10 so1, aq (cy 3) (ps 4) 4 (fun j => ps (5 + j)), ai (cy 0) (ps 5) 24 A0, ai (cy 0) (ps 6) 24 A1, ai (cy 0) (ps 7) 24 A2, ai (cy 0) (ps 8) 24 A3, ai (cy 0) (ps 9) 4 HT, ai (cy 0) (ps 10) 4 LD, ai (cy 0) a 10 cx] H := hP
          replace hD : va_D A [oD d lt mn vs, ai (cy 0) (d 1) 24 pt, ai (cy 0) (d 2) 24 tk, ai (cy 0) (d 3) 24 mr, ai (cy 0) (d 4) 10 od, ai (cy 0) (d 5) 10 pl, ai (cy 0) (d 6) 4 rm, ai (cy 0) (d 7) 10 cd, oP ps cn, ai (cy 0) (ps 1) 24 B, ai (cy 0) (ps 2) 24 SA, ai (cy 0) (ps 3) 10 so1, aq (cy 3) (ps 4) 4 (fun j => ps (5 + j)), ai (cy 0) (ps 5) 24 A0, ai (cy 0) (ps 6) 24 A1, ai (cy 0) (ps 7) 24 A2, ai (cy 0) (ps 8) 24 A3, ai (cy 0) (ps 9) 4 HT, ai (cy 0) (ps 10) 4 LD, ai (cy 0) a 10 cx] := hD
          have hst := stk_so (cd := cx) hpt h2 hw_39
          refine lv_aload_n hx hb dX2_countSpilledUpTo_42 rfl (lv_at hl 0 rfl) ?_
          refine lv_aload_n hx hb dX2_countSpilledUpTo_43 rfl (lv_at hl 1 rfl) ?_
          refine lv_iload hx hb dX2_countSpilledUpTo_44 (lv_at hl 6 rfl) ?_
          have M_46 := k_X2_stack l D cy ps d H.size cn B SA so1 A0 A1 A2 A3 HT LD lt mn vs pt tk mr od pl rm cd j (hI) (by omega) (RnP_or hp) (fun q q1 q2 => (hw_39 q q1 q2).2)
          refine kV_v (wr := [ai (cy 0) a 10 cx]) (As := [.ref (d 0), .int (iI j)]) (rest := []) (q := (RX2, TX2, 7)) (ci := 2) ⟨hx, hb, hml, hown, hts⟩ M_46 8 rfl rfl (cwV 2 hts gX2_countSpilledUpTo_X2_stack rfl rfl rfl (by decide +kernel) ⟨Nat.le_of_ble_eq_true rfl, Nat.le_of_ble_eq_true rfl⟩) hN hK hP hD hS hA [8, 9, 10, 11, 12, 13, 14, 15, 16, 17, 18, 0, 1, 2, 3, 4, 5, 6, 7] [19] rfl rfl (by decide) (by decide) (by decide) rfl hl.1 rfl (Nat.le_of_ble_eq_true rfl) dX2_countSpilledUpTo_46 ⟨Nat.le_of_ble_eq_true rfl, Nat.le_of_ble_eq_true rfl⟩ (fun u_46 H locs hw_46 hP hD hS => ?_)
          obtain ⟨v_4, v_5, v_6, v_7, v_8, v_9, v_10⟩ := u_46
          try dsimp only at hw_46
          replace hP : va_P D vwCl [ai (cy 0) a 10 cx, oP ps cn, ai (cy 0) (ps 1) 24 B, ai (cy 0) (ps 2) 24 v_4, ai (cy 0) (ps 3) 10 so1, aq (cy 3) (ps 4) 4 (fun j => ps (5 + j)), ai (cy 0) (ps 5) 24 v_5, ai (cy 0) (ps 6) 24 v_6, ai (cy 0) (ps 7) 24 v_7, ai (cy 0) (ps 8) 24 v_8, ai (cy 0) (ps 9) 4 v_9, ai (cy 0) (ps 10) 4 v_10, oD d lt mn vs, ai (cy 0) (d 1) 24 pt, ai (cy 0) (d 2) 24 tk, ai (cy 0) (d 3) 24 mr, ai (cy 0) (d 4) 10 od, ai (cy 0) (d 5) 10 pl, ai (cy 0) (d 6) 4 rm, ai (cy 0) (d 7) 10 cd] H := hP
          replace hD : va_D A [ai (cy 0) a 10 cx, oP ps cn, ai (cy 0) (ps 1) 24 B, ai (cy 0) (ps 2) 24 v_4, ai (cy 0) (ps 3) 10 so1, aq (cy 3) (ps 4) 4 (fun j => ps (5 + j)), ai (cy 0) (ps 5) 24 v_5, ai (cy 0) (ps 6) 24 v_6, ai (cy 0) (ps 7) 24 v_7, ai (cy 0) (ps 8) 24 v_8, ai (cy 0) (ps 9) 4 v_9, ai (cy 0) (ps 10) 4 v_10, oD d lt mn vs, ai (cy 0) (d 1) 24 pt, ai (cy 0) (d 2) 24 tk, ai (cy 0) (d 3) 24 mr, ai (cy 0) (d 4) 10 od, ai (cy 0) (d 5) 10 pl, ai (cy 0) (d 6) 4 rm, ai (cy 0) (d 7) 10 cd] := hD
          refine lv_aload_n hx hb dX2_countSpilledUpTo_49 rfl (lv_at hl 0 rfl) ?_
          refine lv_aload_n hx hb dX2_countSpilledUpTo_50 rfl (lv_at hl 1 rfl) ?_
          refine va_getN (D := D) (C := RX1) (T := TX1) (N := 10) (ci := 1) (v := .int (iI mn)) hx hb hts iw_X2_countSpilledUpTo_1 hown hK hP 12 rfl rfl 6 (by decide) (nfX2_49 hN) (fun _ h9 => h9) rfl dX2_countSpilledUpTo_51 ?_
          have M_54 := k_X2_sweep l D cy ps H.size cn B v_4 so1 v_5 v_6 v_7 v_8 v_9 v_10 mn (pil (fun l => so1 (pt l)) (pas (fun l => so1 (pt l)) tk rm (lst B cn.toNat)).2.1) (hw_46.2.2.2) (StkP_h hw_46) (fun s q1 q2 => by have g1 := cat_le (fun l => so1 (pt l)) (pas (fun l => so1 (pt l)) tk rm (lst B cn.toNat)).2.1 s.toNat; have g2 := (pas_inv (fun l => so1 (pt l)) tk rm (lst B cn.toNat)).1; rw [lst_len] at g2; omega) (⟨hmn0, hmn1⟩)
          refine kV_v (wr := [ai (cy 0) a 10 cx, oD d lt mn vs, ai (cy 0) (d 1) 24 pt, ai (cy 0) (d 2) 24 tk, ai (cy 0) (d 3) 24 mr, ai (cy 0) (d 4) 10 od, ai (cy 0) (d 5) 10 pl, ai (cy 0) (d 6) 4 rm, ai (cy 0) (d 7) 10 cd]) (As := [.int (iI mn)]) (rest := []) (q := (RX2, TX2, 7)) (ci := 2) ⟨hx, hb, hml, hown, hts⟩ M_54 1 rfl rfl (cwV 1 hts gX2_countSpilledUpTo_X2_sweep rfl rfl rfl (by decide +kernel) ⟨Nat.le_of_ble_eq_true rfl, Nat.le_of_ble_eq_true rfl⟩) hN hK hP hD hS hA [1, 2, 3, 4, 5, 6, 7, 8, 9, 10, 11] [0, 12, 13, 14, 15, 16, 17, 18, 19] rfl rfl (by decide) (by decide) (by decide) rfl hl.1 rfl (Nat.le_of_ble_eq_true rfl) dX2_countSpilledUpTo_54 ⟨Nat.le_of_ble_eq_true rfl, Nat.le_of_ble_eq_true rfl⟩ (fun u_54 H locs hw_54 hP hD hS => ?_)
          obtain ⟨v_11, v_12⟩ := u_54
          try dsimp only at hw_54
          replace hP : va_P D vwCl [ai (cy 0) a 10 cx, oD d lt mn vs, ai (cy 0) (d 1) 24 pt, ai (cy 0) (d 2) 24 tk, ai (cy 0) (d 3) 24 mr, ai (cy 0) (d 4) 10 od, ai (cy 0) (d 5) 10 pl, ai (cy 0) (d 6) 4 rm, ai (cy 0) (d 7) 10 cd, oP ps v_11, ai (cy 0) (ps 1) 24 v_12, ai (cy 0) (ps 2) 24 v_4, ai (cy 0) (ps 3) 10 so1, aq (cy 3) (ps 4) 4 (fun j => ps (5 + j)), ai (cy 0) (ps 5) 24 v_5, ai (cy 0) (ps 6) 24 v_6, ai (cy 0) (ps 7) 24 v_7, ai (cy 0) (ps 8) 24 v_8, ai (cy 0) (ps 9) 4 v_9, ai (cy 0) (ps 10) 4 v_10] H := hP
          replace hD : va_D A [ai (cy 0) a 10 cx, oD d lt mn vs, ai (cy 0) (d 1) 24 pt, ai (cy 0) (d 2) 24 tk, ai (cy 0) (d 3) 24 mr, ai (cy 0) (d 4) 10 od, ai (cy 0) (d 5) 10 pl, ai (cy 0) (d 6) 4 rm, ai (cy 0) (d 7) 10 cd, oP ps v_11, ai (cy 0) (ps 1) 24 v_12, ai (cy 0) (ps 2) 24 v_4, ai (cy 0) (ps 3) 10 so1, aq (cy 3) (ps 4) 4 (fun j => ps (5 + j)), ai (cy 0) (ps 5) 24 v_5, ai (cy 0) (ps 6) 24 v_6, ai (cy 0) (ps 7) 24 v_7, ai (cy 0) (ps 8) 24 v_8, ai (cy 0) (ps 9) 4 v_9, ai (cy 0) (ps 10) 4 v_10] := hD
          refine lv_iload hx hb dX2_countSpilledUpTo_57 (lv_at hl 5 rfl) ?_
          refine lv_aload_n hx hb dX2_countSpilledUpTo_59 rfl (lv_at hl 1 rfl) ?_
          refine va_getN (D := D) (C := RX1) (T := TX1) (N := 10) (ci := 1) (v := .int (iI mn)) hx hb hts iw_X2_countSpilledUpTo_1 hown hK hP 1 rfl rfl 6 (by decide) (nfX2_49 hN) (fun _ h9 => h9) rfl dX2_countSpilledUpTo_60 ?_
          refine r_mul hx hb dX2_countSpilledUpTo_63 ?_
          refine lv_istore (lv' := [(5, .int (iI (un * mn))), (0, .ref (ps 0)), (1, .ref (d 0)), (2, .ref (a)), (3, .int (iI k)), (4, .int (iI mo)), (6, .int (iI j))]) hx hb dX2_countSpilledUpTo_64 hl (by decide) rfl (fun ls hl => ?_)
          refine r_inc (k := 6) (lv' := [(6, .int (iI (j + 1))), (5, .int (iI (un * mn))), (0, .ref (ps 0)), (1, .ref (d 0)), (2, .ref (a)), (3, .int (iI k)), (4, .int (iI mo))]) hx hb dX2_countSpilledUpTo_66 hl rfl (by decide) rfl (fun ls hl => ?_)
          refine lv_goto (tgt := 11) hx hb dX2_countSpilledUpTo_69 (by decide) ?_
          exact ih_11 (un * mn) (j + 1) v_11 v_12 v_4 so1 v_5 v_6 v_7 v_8 v_9 v_10 (by omega) (by rw [show (j + 1 - 1).toNat = (j - 1).toNat + 1 by omega, h2]; rfl) (by rw [show (j + 1 - 1).toNat = (j - 1).toNat + 1 by omega]; exact RnP_s hp hst (by omega) hw_46 hw_54) (by omega) H locs (pick_P hP (is := [0, 9, 10, 11, 12, 13, 14, 15, 16, 17, 18, 19, 1, 2, 3, 4, 5, 6, 7, 8]) rfl) (hD.sub [0, 9, 10, 11, 12, 13, 14, 15, 16, 17, 18, 19, 1, 2, 3, 4, 5, 6, 7, 8] (by decide) rfl) hS ls (lv_sub hl [2, 3, 4, 5, 6, 1, 0] rfl)
  exact lp_11 _ 1 1 v_1 v_2 v_3 so g0 g1 g2 g3 ht ld (by omega) (rfl) (⟨hw_2.1, hw_2.2.1, hw_2.2.2, fun q => absurd q (by decide)⟩) (Nat.lt_succ_self _) H locs (pick_P hP (is := [0, 1, 2, 3, 4, 5, 6, 7, 8, 9, 10, 11, 12, 13, 14, 15, 16, 17, 18, 19]) rfl) (hD.sub [0, 1, 2, 3, 4, 5, 6, 7, 8, 9, 10, 11, 12, 13, 14, 15, 16, 17, 18, 19] (by decide) rfl) hS ls (lv_sub hl [2, 3, 4, 5, 6, 1, 0] rfl)
abbrev rm_X2_countSpilledUpTo_o : Room := { frames := 2, cells := 0, slots := 0, locals := 62 }
set_option maxHeartbeats 4000000 in
set_option maxRecDepth 100000 in
theorem k_X2_countSpilledUpTo_o (l : Launch) (D : va_G) (cy : Nat → ClassId) (ps d : Nat → Nat) (z : Nat) (cm : Int) (or sa so g0 g1 g2 g3 ht ld : Int → Int) (lt mn vs : Int) (pt tk mr od pl rm cd : Int → Int) (k mo : Int) (hI : DI lt mn pt tk mr od pl rm cd) (hk : 1 ≤ k ∧ k ≤ 3) (hmo : 0 ≤ mo ∧ mo ≤ 100) : CtI l yX2_countSpilledUpTo wsX2_countSpilledUpTo rm_X2_countSpilledUpTo_o D (tyL cy) [.ref (ps 0), .ref (d 0), .ref (d 7), .int (iI k), .int (iI mo)] [oP ps cm, ai (cy 0) (ps 1) 24 or, ai (cy 0) (ps 2) 24 sa, ai (cy 0) (ps 3) 10 so, aq (cy 3) (ps 4) 4 (fun j => ps (5 + j)), ai (cy 0) (ps 5) 24 g0, ai (cy 0) (ps 6) 24 g1, ai (cy 0) (ps 7) 24 g2, ai (cy 0) (ps 8) 24 g3, ai (cy 0) (ps 9) 4 ht, ai (cy 0) (ps 10) 4 ld, oD d lt mn vs, ai (cy 0) (d 1) 24 pt, ai (cy 0) (d 2) 24 tk, ai (cy 0) (d 3) 24 mr, ai (cy 0) (d 4) 10 od, ai (cy 0) (d 5) 10 pl, ai (cy 0) (d 6) 4 rm, ai (cy 0) (d 7) 10 cd] z (fun (r : Int) (u : Int × (Int → Int) × (Int → Int) × (Int → Int) × (Int → Int) × (Int → Int) × (Int → Int) × (Int → Int) × (Int → Int) × (Int → Int)) => (lt - ((rnS lt mn pt tk mr rm cd k.toNat).1.length : Int) ≤ mo → r = lt - ((rnS lt mn pt tk mr rm cd k.toNat).1.length : Int) ∧ RnP lt mn pt tk mr rm cd k.toNat u.1 u.2.1 u.2.2.1 u.2.2.2.2.2.2.2.2.2) ∧ (mo < lt - ((rnS lt mn pt tk mr rm cd k.toNat).1.length : Int) → mo < r ∧ r ≤ 24)) (fun (u : Int × (Int → Int) × (Int → Int) × (Int → Int) × (Int → Int) × (Int → Int) × (Int → Int) × (Int → Int) × (Int → Int) × (Int → Int)) => [oP ps u.1, ai (cy 0) (ps 1) 24 u.2.1, ai (cy 0) (ps 2) 24 u.2.2.1, ai (cy 0) (ps 3) 10 u.2.2.2.1, aq (cy 3) (ps 4) 4 (fun j => ps (5 + j)), ai (cy 0) (ps 5) 24 u.2.2.2.2.1, ai (cy 0) (ps 6) 24 u.2.2.2.2.2.1, ai (cy 0) (ps 7) 24 u.2.2.2.2.2.2.1, ai (cy 0) (ps 8) 24 u.2.2.2.2.2.2.2.1, ai (cy 0) (ps 9) 4 u.2.2.2.2.2.2.2.2.1, ai (cy 0) (ps 10) 4 u.2.2.2.2.2.2.2.2.2, oD d lt mn vs, ai (cy 0) (d 1) 24 pt, ai (cy 0) (d 2) 24 tk, ai (cy 0) (d 3) 24 mr, ai (cy 0) (d 4) 10 od, ai (cy 0) (d 5) 10 pl, ai (cy 0) (d 6) 4 rm, ai (cy 0) (d 7) 10 cd]) 0 0 := by
  refine ct_i (cc := cX2_countSpilledUpTo) (maxL := 7) (by decide) rfl (Nat.le_of_ble_eq_true rfl) ?_
  intro p e s m args below meth c A Q H locs ls hx hb hml hown hin hts hK hN hP hD hS hA hl hret
  replace hl : lv_has ls 7 [(0, .ref (ps 0)), (1, .ref (d 0)), (2, .ref (d 7)), (3, .int (iI k)), (4, .int (iI mo))] := hl
  replace hown : s.vm.findClass RX2 = some m.cls := hown
  obtain ⟨⟨⟨hlt0, hlt1⟩, hmn0, hmn1⟩, ⟨hpt, htk, hmr⟩, ⟨hod, hpl, hpo, hop⟩, hrm, hcd⟩ := id hI
  refine lv_aload_n hx hb dX2_countSpilledUpTo_0 rfl (lv_at hl 0 rfl) ?_
  refine lv_aload_n hx hb dX2_countSpilledUpTo_1 rfl (lv_at hl 1 rfl) ?_
  have M_2 := k_X2_begin l D cy ps d H.size cm or sa so g0 g1 g2 g3 ht ld lt mn vs pt tk mr od pl rm cd (hI)
  refine kV_v (wr := []) (As := [.ref (d 0)]) (rest := []) (q := (RX2, TX2, 7)) (ci := 2) ⟨hx, hb, hml, hown, hts⟩ M_2 0 rfl rfl (cwV 1 hts gX2_countSpilledUpTo_X2_begin rfl rfl rfl (by decide +kernel) ⟨Nat.le_of_ble_eq_true rfl, Nat.le_of_ble_eq_true rfl⟩) hN hK hP hD hS hA [0, 1, 2, 3, 4, 5, 6, 7, 8, 9, 10, 11, 12, 13, 14, 15, 16, 17, 18] [] rfl rfl (by decide) (by decide) (by decide) rfl hl.1 rfl (Nat.le_of_ble_eq_true rfl) dX2_countSpilledUpTo_2 ⟨Nat.le_of_ble_eq_true rfl, Nat.le_of_ble_eq_true rfl⟩ (fun u_2 H locs hw_2 hP hD hS => ?_)
  obtain ⟨v_1, v_2, v_3⟩ := u_2
  try dsimp only at hw_2
  replace hP : va_P D vwCl [oP ps v_1, ai (cy 0) (ps 1) 24 v_2, ai (cy 0) (ps 2) 24 v_3, ai (cy 0) (ps 3) 10 so, aq (cy 3) (ps 4) 4 (fun j => ps (5 + j)), ai (cy 0) (ps 5) 24 g0, ai (cy 0) (ps 6) 24 g1, ai (cy 0) (ps 7) 24 g2, ai (cy 0) (ps 8) 24 g3, ai (cy 0) (ps 9) 4 ht, ai (cy 0) (ps 10) 4 ld, oD d lt mn vs, ai (cy 0) (d 1) 24 pt, ai (cy 0) (d 2) 24 tk, ai (cy 0) (d 3) 24 mr, ai (cy 0) (d 4) 10 od, ai (cy 0) (d 5) 10 pl, ai (cy 0) (d 6) 4 rm, ai (cy 0) (d 7) 10 cd] H := hP
  replace hD : va_D A [oP ps v_1, ai (cy 0) (ps 1) 24 v_2, ai (cy 0) (ps 2) 24 v_3, ai (cy 0) (ps 3) 10 so, aq (cy 3) (ps 4) 4 (fun j => ps (5 + j)), ai (cy 0) (ps 5) 24 g0, ai (cy 0) (ps 6) 24 g1, ai (cy 0) (ps 7) 24 g2, ai (cy 0) (ps 8) 24 g3, ai (cy 0) (ps 9) 4 ht, ai (cy 0) (ps 10) 4 ld, oD d lt mn vs, ai (cy 0) (d 1) 24 pt, ai (cy 0) (d 2) 24 tk, ai (cy 0) (d 3) 24 mr, ai (cy 0) (d 4) 10 od, ai (cy 0) (d 5) 10 pl, ai (cy 0) (d 6) 4 rm, ai (cy 0) (d 7) 10 cd] := hD
  refine r_const hx hb dX2_countSpilledUpTo_5 ?_
  refine lv_istore (lv' := [(5, .int (iI 1)), (0, .ref (ps 0)), (1, .ref (d 0)), (2, .ref (d 7)), (3, .int (iI k)), (4, .int (iI mo))]) hx hb dX2_countSpilledUpTo_6 hl (by decide) rfl (fun ls hl => ?_)
  refine r_const hx hb dX2_countSpilledUpTo_8 ?_
  refine lv_istore (lv' := [(6, .int (iI 1)), (5, .int (iI 1)), (0, .ref (ps 0)), (1, .ref (d 0)), (2, .ref (d 7)), (3, .int (iI k)), (4, .int (iI mo))]) hx hb dX2_countSpilledUpTo_9 hl (by decide) rfl (fun ls hl => ?_)
  have lp_11 : ∀ (fu : Nat) (un : Int) (j : Int) (cn : Int) (B : Int → Int) (SA : Int → Int) (SO : Int → Int) (A0 : Int → Int) (A1 : Int → Int) (A2 : Int → Int) (A3 : Int → Int) (HT : Int → Int) (LD : Int → Int), (1 ≤ j ∧ j ≤ k + 1) → (un = pw mn (j - 1).toNat) → (RnP lt mn pt tk mr rm cd (j - 1).toNat cn B SA LD) → (k + 1 - j).toNat < fu → ∀ (H : Heap) (locs : List Loc), va_P D vwCl [oP ps cn, ai (cy 0) (ps 1) 24 B, ai (cy 0) (ps 2) 24 SA, ai (cy 0) (ps 3) 10 SO, aq (cy 3) (ps 4) 4 (fun j => ps (5 + j)), ai (cy 0) (ps 5) 24 A0, ai (cy 0) (ps 6) 24 A1, ai (cy 0) (ps 7) 24 A2, ai (cy 0) (ps 8) 24 A3, ai (cy 0) (ps 9) 4 HT, ai (cy 0) (ps 10) 4 LD, oD d lt mn vs, ai (cy 0) (d 1) 24 pt, ai (cy 0) (d 2) 24 tk, ai (cy 0) (d 3) 24 mr, ai (cy 0) (d 4) 10 od, ai (cy 0) (d 5) 10 pl, ai (cy 0) (d 6) 4 rm, ai (cy 0) (d 7) 10 cd] H → va_D A [oP ps cn, ai (cy 0) (ps 1) 24 B, ai (cy 0) (ps 2) 24 SA, ai (cy 0) (ps 3) 10 SO, aq (cy 3) (ps 4) 4 (fun j => ps (5 + j)), ai (cy 0) (ps 5) 24 A0, ai (cy 0) (ps 6) 24 A1, ai (cy 0) (ps 7) 24 A2, ai (cy 0) (ps 8) 24 A3, ai (cy 0) (ps 9) 4 HT, ai (cy 0) (ps 10) 4 LD, oD d lt mn vs, ai (cy 0) (d 1) 24 pt, ai (cy 0) (d 2) 24 tk, ai (cy 0) (d 3) 24 mr, ai (cy 0) (d 4) 10 od, ai (cy 0) (d 5) 10 pl, ai (cy 0) (d 6) 4 rm, ai (cy 0) (d 7) 10 cd] → va_S A s.heap H locs → ∀ (ls : Array Slot), lv_has ls 7 [(0, .ref (ps 0)), (1, .ref (d 0)), (2, .ref (d 7)), (3, .int (iI k)), (4, .int (iI mo)), (5, .int (iI un)), (6, .int (iI j))] → W p l e rm_X2_countSpilledUpTo_o s m args below meth c H locs 0 0 Q (F0 m 11 ls []) := by
    intro fu
    induction fu with
    | zero =>
      intro un j cn B SA SO A0 A1 A2 A3 HT LD h1 h2 hp hm
      exact absurd hm (Nat.not_lt_zero _)
    | succ fu ih_11 =>
      intro un j cn B SA SO A0 A1 A2 A3 HT LD h1 h2 hp hm H locs hP hD hS ls hl
      have hcn := RnP_cm hp
      have hrl := rn_len lt mn pt tk mr rm cd hlt0 (j - 1).toNat
      have hub := pw_b hmn0 hmn1 (n := (j - 1).toNat) (by omega)
      refine lv_iload hx hb dX2_countSpilledUpTo_11 (lv_at hl 6 rfl) ?_
      refine lv_iload_n hx hb dX2_countSpilledUpTo_13 rfl (lv_at hl 3 rfl) ?_
      refine r_gt hx hb 72 dX2_countSpilledUpTo_14 (by decide) ⟨by omega, by omega⟩ ⟨by omega, by omega⟩ (fun c_14 => ?_) (fun c_14 => ?_)
      ·
        refine lv_aload_n hx hb dX2_countSpilledUpTo_72 rfl (lv_at hl 1 rfl) ?_
        refine va_getN (D := D) (C := RX1) (T := TX1) (N := 10) (ci := 1) (v := .int (iI lt)) hx hb hts iw_X2_countSpilledUpTo_1 hown hK hP 11 rfl rfl 0 (by decide) (nfX2_40 hN) (fun _ h9 => h9) rfl dX2_countSpilledUpTo_73 ?_
        refine lv_aload_n hx hb dX2_countSpilledUpTo_76 rfl (lv_at hl 0 rfl) ?_
        refine va_get (D := D) (C := RX2) (T := TX2) (N := 7) (ci := 2) (v := .int (iI cn)) hx hb hts iw_X2_countSpilledUpTo_2 hown hK hP 0 rfl rfl 1 (by decide) (hts _ fl_X2_countSpilledUpTo_46) (fun _ h9 => h9) rfl dX2_countSpilledUpTo_77 ?_
        refine r_sub hx hb dX2_countSpilledUpTo_80 ?_
        have hcn2 := rn_len lt mn pt tk mr rm cd hlt0 k.toNat
        exact hret [0, 1, 2, 3, 4, 5, 6, 7, 8, 9, 10, 11, 12, 13, 14, 15, 16, 17, 18] (cn, B, SA, SO, A0, A1, A2, A3, HT, LD) dX2_countSpilledUpTo_81 hP hD hS (by decide) rfl (by first | (rw [show k.toNat = (j - 1).toNat by omega]; exact ⟨fun _ => ⟨by omega, hp⟩, fun q => by omega⟩) | (have hmm := rn_mono lt mn pt tk mr rm cd (j - 1).toNat (k.toNat - (j - 1).toNat); rw [show (j - 1).toNat + (k.toNat - (j - 1).toNat) = k.toNat by omega] at hmm; exact ⟨fun q => by omega, fun q => by omega⟩))
      ·
        refine lv_aload_n hx hb dX2_countSpilledUpTo_17 rfl (lv_at hl 1 rfl) ?_
        refine va_getN (D := D) (C := RX1) (T := TX1) (N := 10) (ci := 1) (v := .int (iI lt)) hx hb hts iw_X2_countSpilledUpTo_1 hown hK hP 11 rfl rfl 0 (by decide) (nfX2_40 hN) (fun _ h9 => h9) rfl dX2_countSpilledUpTo_18 ?_
        refine lv_aload_n hx hb dX2_countSpilledUpTo_21 rfl (lv_at hl 0 rfl) ?_
        refine va_get (D := D) (C := RX2) (T := TX2) (N := 7) (ci := 2) (v := .int (iI cn)) hx hb hts iw_X2_countSpilledUpTo_2 hown hK hP 0 rfl rfl 1 (by decide) (hts _ fl_X2_countSpilledUpTo_46) (fun _ h9 => h9) rfl dX2_countSpilledUpTo_22 ?_
        refine r_sub hx hb dX2_countSpilledUpTo_25 ?_
        refine lv_iload hx hb dX2_countSpilledUpTo_26 (lv_at hl 4 rfl) ?_
        refine r_gt hx hb 72 dX2_countSpilledUpTo_28 (by decide) ⟨by omega, by omega⟩ ⟨by omega, by omega⟩ (fun c_28 => ?_) (fun c_28 => ?_)
        ·
          refine lv_aload_n hx hb dX2_countSpilledUpTo_72 rfl (lv_at hl 1 rfl) ?_
          refine va_getN (D := D) (C := RX1) (T := TX1) (N := 10) (ci := 1) (v := .int (iI lt)) hx hb hts iw_X2_countSpilledUpTo_1 hown hK hP 11 rfl rfl 0 (by decide) (nfX2_40 hN) (fun _ h9 => h9) rfl dX2_countSpilledUpTo_73 ?_
          refine lv_aload_n hx hb dX2_countSpilledUpTo_76 rfl (lv_at hl 0 rfl) ?_
          refine va_get (D := D) (C := RX2) (T := TX2) (N := 7) (ci := 2) (v := .int (iI cn)) hx hb hts iw_X2_countSpilledUpTo_2 hown hK hP 0 rfl rfl 1 (by decide) (hts _ fl_X2_countSpilledUpTo_46) (fun _ h9 => h9) rfl dX2_countSpilledUpTo_77 ?_
          refine r_sub hx hb dX2_countSpilledUpTo_80 ?_
          have hcn2 := rn_len lt mn pt tk mr rm cd hlt0 k.toNat
          exact hret [0, 1, 2, 3, 4, 5, 6, 7, 8, 9, 10, 11, 12, 13, 14, 15, 16, 17, 18] (cn, B, SA, SO, A0, A1, A2, A3, HT, LD) dX2_countSpilledUpTo_81 hP hD hS (by decide) rfl (by first | (rw [show k.toNat = (j - 1).toNat by omega]; exact ⟨fun _ => ⟨by omega, hp⟩, fun q => by omega⟩) | (have hmm := rn_mono lt mn pt tk mr rm cd (j - 1).toNat (k.toNat - (j - 1).toNat); rw [show (j - 1).toNat + (k.toNat - (j - 1).toNat) = k.toNat by omega] at hmm; exact ⟨fun q => by omega, fun q => by omega⟩))
        ·
          refine lv_aload_n hx hb dX2_countSpilledUpTo_31 rfl (lv_at hl 0 rfl) ?_
          refine lv_aload_n hx hb dX2_countSpilledUpTo_32 rfl (lv_at hl 2 rfl) ?_
          refine lv_iload hx hb dX2_countSpilledUpTo_33 (lv_at hl 5 rfl) ?_
          refine lv_aload_n hx hb dX2_countSpilledUpTo_35 rfl (lv_at hl 1 rfl) ?_
          refine va_getN (D := D) (C := RX1) (T := TX1) (N := 10) (ci := 1) (v := .int (iI mn)) hx hb hts iw_X2_countSpilledUpTo_1 hown hK hP 11 rfl rfl 6 (by decide) (nfX2_49 hN) (fun _ h9 => h9) rfl dX2_countSpilledUpTo_36 ?_
          have M_39 := k_X2_aim l D cy ps (d 7) H.size cn B SA SO A0 A1 A2 A3 HT LD cd un mn (hcd) (by omega) (⟨hmn0, hmn1⟩)
          refine kV_v (wr := [oD d lt mn vs, ai (cy 0) (d 1) 24 pt, ai (cy 0) (d 2) 24 tk, ai (cy 0) (d 3) 24 mr, ai (cy 0) (d 4) 10 od, ai (cy 0) (d 5) 10 pl, ai (cy 0) (d 6) 4 rm]) (As := [.ref (d 7), .int (iI un), .int (iI mn)]) (rest := []) (q := (RX2, TX2, 7)) (ci := 2) ⟨hx, hb, hml, hown, hts⟩ M_39 0 rfl rfl (cwV 3 hts gX2_countSpilledUpTo_X2_aim rfl rfl rfl (by decide +kernel) ⟨Nat.le_of_ble_eq_true rfl, Nat.le_of_ble_eq_true rfl⟩) hN hK hP hD hS hA [0, 1, 2, 3, 4, 5, 6, 7, 8, 9, 10, 18] [11, 12, 13, 14, 15, 16, 17] rfl rfl (by decide) (by decide) (by decide) rfl hl.1 rfl (Nat.le_of_ble_eq_true rfl) dX2_countSpilledUpTo_39 ⟨Nat.le_of_ble_eq_true rfl, Nat.le_of_ble_eq_true rfl⟩ (fun u_39 H locs hw_39 hP hD hS => ?_)
          obtain ⟨so1, rfl⟩ : ∃ z, z = u_39 := ⟨_, rfl⟩
          try dsimp only at hw_39
          replace hP : va_P D vwCl [oD d lt mn vs, ai (cy 0) (d 1) 24 pt, ai (cy 0) (d 2) 24 tk, ai (cy 0) (d 3) 24 mr, ai (cy 0) (d 4) 10 od, ai (cy 0) (d 5) 10 pl, ai (cy 0) (d 6) 4 rm, oP ps cn, ai (cy 0) (ps 1) 24 B, ai (cy 0) (ps 2) 24 SA, ai (cy 0) (ps 3) 10 so1, aq (cy 3) (ps 4) 4 (fun j => ps (5 + j)), ai (cy 0) (ps 5) 24 A0, ai (cy 0) (ps 6) 24 A1, ai (cy 0) (ps 7) 24 A2, ai (cy 0) (ps 8) 24 A3, ai (cy 0) (ps 9) 4 HT, ai (cy 0) (ps 10) 4 LD, ai (cy 0) (d 7) 10 cd] H := hP
          replace hD : va_D A [oD d lt mn vs, ai (cy 0) (d 1) 24 pt, ai (cy 0) (d 2) 24 tk, ai (cy 0) (d 3) 24 mr, ai (cy 0) (d 4) 10 od, ai (cy 0) (d 5) 10 pl, ai (cy 0) (d 6) 4 rm, oP ps cn, ai (cy 0) (ps 1) 24 B, ai (cy 0) (ps 2) 24 SA, ai (cy 0) (ps 3) 10 so1, aq (cy 3) (ps 4) 4 (fun j => ps (5 + j)), ai (cy 0) (ps 5) 24 A0, ai (cy 0) (ps 6) 24 A1, ai (cy 0) (ps 7) 24 A2, ai (cy 0) (ps 8) 24 A3, ai (cy 0) (ps 9) 4 HT, ai (cy 0) (ps 10) 4 LD, ai (cy 0) (d 7) 10 cd] := hD
          have hst := stk_so (cd := cd) hpt h2 hw_39
          refine lv_aload_n hx hb dX2_countSpilledUpTo_42 rfl (lv_at hl 0 rfl) ?_
          refine lv_aload_n hx hb dX2_countSpilledUpTo_43 rfl (lv_at hl 1 rfl) ?_
          refine lv_iload hx hb dX2_countSpilledUpTo_44 (lv_at hl 6 rfl) ?_
          have M_46 := k_X2_stack l D cy ps d H.size cn B SA so1 A0 A1 A2 A3 HT LD lt mn vs pt tk mr od pl rm cd j (hI) (by omega) (RnP_or hp) (fun q q1 q2 => (hw_39 q q1 q2).2)
          refine kV_v (wr := []) (As := [.ref (d 0), .int (iI j)]) (rest := []) (q := (RX2, TX2, 7)) (ci := 2) ⟨hx, hb, hml, hown, hts⟩ M_46 7 rfl rfl (cwV 2 hts gX2_countSpilledUpTo_X2_stack rfl rfl rfl (by decide +kernel) ⟨Nat.le_of_ble_eq_true rfl, Nat.le_of_ble_eq_true rfl⟩) hN hK hP hD hS hA [7, 8, 9, 10, 11, 12, 13, 14, 15, 16, 17, 0, 1, 2, 3, 4, 5, 6, 18] [] rfl rfl (by decide) (by decide) (by decide) rfl hl.1 rfl (Nat.le_of_ble_eq_true rfl) dX2_countSpilledUpTo_46 ⟨Nat.le_of_ble_eq_true rfl, Nat.le_of_ble_eq_true rfl⟩ (fun u_46 H locs hw_46 hP hD hS => ?_)
          obtain ⟨v_4, v_5, v_6, v_7, v_8, v_9, v_10⟩ := u_46
          try dsimp only at hw_46
          replace hP : va_P D vwCl [oP ps cn, ai (cy 0) (ps 1) 24 B, ai (cy 0) (ps 2) 24 v_4, ai (cy 0) (ps 3) 10 so1, aq (cy 3) (ps 4) 4 (fun j => ps (5 + j)), ai (cy 0) (ps 5) 24 v_5, ai (cy 0) (ps 6) 24 v_6, ai (cy 0) (ps 7) 24 v_7, ai (cy 0) (ps 8) 24 v_8, ai (cy 0) (ps 9) 4 v_9, ai (cy 0) (ps 10) 4 v_10, oD d lt mn vs, ai (cy 0) (d 1) 24 pt, ai (cy 0) (d 2) 24 tk, ai (cy 0) (d 3) 24 mr, ai (cy 0) (d 4) 10 od, ai (cy 0) (d 5) 10 pl, ai (cy 0) (d 6) 4 rm, ai (cy 0) (d 7) 10 cd] H := hP
          replace hD : va_D A [oP ps cn, ai (cy 0) (ps 1) 24 B, ai (cy 0) (ps 2) 24 v_4, ai (cy 0) (ps 3) 10 so1, aq (cy 3) (ps 4) 4 (fun j => ps (5 + j)), ai (cy 0) (ps 5) 24 v_5, ai (cy 0) (ps 6) 24 v_6, ai (cy 0) (ps 7) 24 v_7, ai (cy 0) (ps 8) 24 v_8, ai (cy 0) (ps 9) 4 v_9, ai (cy 0) (ps 10) 4 v_10, oD d lt mn vs, ai (cy 0) (d 1) 24 pt, ai (cy 0) (d 2) 24 tk, ai (cy 0) (d 3) 24 mr, ai (cy 0) (d 4) 10 od, ai (cy 0) (d 5) 10 pl, ai (cy 0) (d 6) 4 rm, ai (cy 0) (d 7) 10 cd] := hD
          refine lv_aload_n hx hb dX2_countSpilledUpTo_49 rfl (lv_at hl 0 rfl) ?_
          refine lv_aload_n hx hb dX2_countSpilledUpTo_50 rfl (lv_at hl 1 rfl) ?_
          refine va_getN (D := D) (C := RX1) (T := TX1) (N := 10) (ci := 1) (v := .int (iI mn)) hx hb hts iw_X2_countSpilledUpTo_1 hown hK hP 11 rfl rfl 6 (by decide) (nfX2_49 hN) (fun _ h9 => h9) rfl dX2_countSpilledUpTo_51 ?_
          have M_54 := k_X2_sweep l D cy ps H.size cn B v_4 so1 v_5 v_6 v_7 v_8 v_9 v_10 mn (pil (fun l => so1 (pt l)) (pas (fun l => so1 (pt l)) tk rm (lst B cn.toNat)).2.1) (hw_46.2.2.2) (StkP_h hw_46) (fun s q1 q2 => by have g1 := cat_le (fun l => so1 (pt l)) (pas (fun l => so1 (pt l)) tk rm (lst B cn.toNat)).2.1 s.toNat; have g2 := (pas_inv (fun l => so1 (pt l)) tk rm (lst B cn.toNat)).1; rw [lst_len] at g2; omega) (⟨hmn0, hmn1⟩)
          refine kV_v (wr := [oD d lt mn vs, ai (cy 0) (d 1) 24 pt, ai (cy 0) (d 2) 24 tk, ai (cy 0) (d 3) 24 mr, ai (cy 0) (d 4) 10 od, ai (cy 0) (d 5) 10 pl, ai (cy 0) (d 6) 4 rm, ai (cy 0) (d 7) 10 cd]) (As := [.int (iI mn)]) (rest := []) (q := (RX2, TX2, 7)) (ci := 2) ⟨hx, hb, hml, hown, hts⟩ M_54 0 rfl rfl (cwV 1 hts gX2_countSpilledUpTo_X2_sweep rfl rfl rfl (by decide +kernel) ⟨Nat.le_of_ble_eq_true rfl, Nat.le_of_ble_eq_true rfl⟩) hN hK hP hD hS hA [0, 1, 2, 3, 4, 5, 6, 7, 8, 9, 10] [11, 12, 13, 14, 15, 16, 17, 18] rfl rfl (by decide) (by decide) (by decide) rfl hl.1 rfl (Nat.le_of_ble_eq_true rfl) dX2_countSpilledUpTo_54 ⟨Nat.le_of_ble_eq_true rfl, Nat.le_of_ble_eq_true rfl⟩ (fun u_54 H locs hw_54 hP hD hS => ?_)
          obtain ⟨v_11, v_12⟩ := u_54
          try dsimp only at hw_54
          replace hP : va_P D vwCl [oD d lt mn vs, ai (cy 0) (d 1) 24 pt, ai (cy 0) (d 2) 24 tk, ai (cy 0) (d 3) 24 mr, ai (cy 0) (d 4) 10 od, ai (cy 0) (d 5) 10 pl, ai (cy 0) (d 6) 4 rm, ai (cy 0) (d 7) 10 cd, oP ps v_11, ai (cy 0) (ps 1) 24 v_12, ai (cy 0) (ps 2) 24 v_4, ai (cy 0) (ps 3) 10 so1, aq (cy 3) (ps 4) 4 (fun j => ps (5 + j)), ai (cy 0) (ps 5) 24 v_5, ai (cy 0) (ps 6) 24 v_6, ai (cy 0) (ps 7) 24 v_7, ai (cy 0) (ps 8) 24 v_8, ai (cy 0) (ps 9) 4 v_9, ai (cy 0) (ps 10) 4 v_10] H := hP
          replace hD : va_D A [oD d lt mn vs, ai (cy 0) (d 1) 24 pt, ai (cy 0) (d 2) 24 tk, ai (cy 0) (d 3) 24 mr, ai (cy 0) (d 4) 10 od, ai (cy 0) (d 5) 10 pl, ai (cy 0) (d 6) 4 rm, ai (cy 0) (d 7) 10 cd, oP ps v_11, ai (cy 0) (ps 1) 24 v_12, ai (cy 0) (ps 2) 24 v_4, ai (cy 0) (ps 3) 10 so1, aq (cy 3) (ps 4) 4 (fun j => ps (5 + j)), ai (cy 0) (ps 5) 24 v_5, ai (cy 0) (ps 6) 24 v_6, ai (cy 0) (ps 7) 24 v_7, ai (cy 0) (ps 8) 24 v_8, ai (cy 0) (ps 9) 4 v_9, ai (cy 0) (ps 10) 4 v_10] := hD
          refine lv_iload hx hb dX2_countSpilledUpTo_57 (lv_at hl 5 rfl) ?_
          refine lv_aload_n hx hb dX2_countSpilledUpTo_59 rfl (lv_at hl 1 rfl) ?_
          refine va_getN (D := D) (C := RX1) (T := TX1) (N := 10) (ci := 1) (v := .int (iI mn)) hx hb hts iw_X2_countSpilledUpTo_1 hown hK hP 0 rfl rfl 6 (by decide) (nfX2_49 hN) (fun _ h9 => h9) rfl dX2_countSpilledUpTo_60 ?_
          refine r_mul hx hb dX2_countSpilledUpTo_63 ?_
          refine lv_istore (lv' := [(5, .int (iI (un * mn))), (0, .ref (ps 0)), (1, .ref (d 0)), (2, .ref (d 7)), (3, .int (iI k)), (4, .int (iI mo)), (6, .int (iI j))]) hx hb dX2_countSpilledUpTo_64 hl (by decide) rfl (fun ls hl => ?_)
          refine r_inc (k := 6) (lv' := [(6, .int (iI (j + 1))), (5, .int (iI (un * mn))), (0, .ref (ps 0)), (1, .ref (d 0)), (2, .ref (d 7)), (3, .int (iI k)), (4, .int (iI mo))]) hx hb dX2_countSpilledUpTo_66 hl rfl (by decide) rfl (fun ls hl => ?_)
          refine lv_goto (tgt := 11) hx hb dX2_countSpilledUpTo_69 (by decide) ?_
          exact ih_11 (un * mn) (j + 1) v_11 v_12 v_4 so1 v_5 v_6 v_7 v_8 v_9 v_10 (by omega) (by rw [show (j + 1 - 1).toNat = (j - 1).toNat + 1 by omega, h2]; rfl) (by rw [show (j + 1 - 1).toNat = (j - 1).toNat + 1 by omega]; exact RnP_s hp hst (by omega) hw_46 hw_54) (by omega) H locs (pick_P hP (is := [8, 9, 10, 11, 12, 13, 14, 15, 16, 17, 18, 0, 1, 2, 3, 4, 5, 6, 7]) rfl) (hD.sub [8, 9, 10, 11, 12, 13, 14, 15, 16, 17, 18, 0, 1, 2, 3, 4, 5, 6, 7] (by decide) rfl) hS ls (lv_sub hl [2, 3, 4, 5, 6, 1, 0] rfl)
  exact lp_11 _ 1 1 v_1 v_2 v_3 so g0 g1 g2 g3 ht ld (by omega) (rfl) (⟨hw_2.1, hw_2.2.1, hw_2.2.2, fun q => absurd q (by decide)⟩) (Nat.lt_succ_self _) H locs (pick_P hP (is := [0, 1, 2, 3, 4, 5, 6, 7, 8, 9, 10, 11, 12, 13, 14, 15, 16, 17, 18]) rfl) (hD.sub [0, 1, 2, 3, 4, 5, 6, 7, 8, 9, 10, 11, 12, 13, 14, 15, 16, 17, 18] (by decide) rfl) hS ls (lv_sub hl [2, 3, 4, 5, 6, 1, 0] rfl)
end
section
abbrev rm_X3_begin : Room := { frames := 1, cells := 0, slots := 0, locals := 23 }
theorem fl_X3_begin_9 : Cond.fieldLink RX3 9 "WalkPasses$Plans" "points" "[I" ∈ wsX3_begin := by decide +kernel
theorem fl_X3_begin_15 : Cond.fieldLink RX3 15 "WalkPasses$Plans" "codes" "[I" ∈ wsX3_begin := by decide +kernel
theorem fl_X3_begin_28 : Cond.fieldLink RX3 28 "WalkPasses$Plans" "below" "I" ∈ wsX3_begin := by decide +kernel
theorem fl_X3_begin_31 : Cond.fieldLink RX3 31 "WalkPasses$Plans" "size" "I" ∈ wsX3_begin := by decide +kernel
theorem iw_X3_begin_1 : ∀ w ∈ u_ws RX1 TX1 10, w ∈ wsX3_begin := by decide +kernel
theorem iw_X3_begin_3 : ∀ w ∈ u_ws RX3 TX3 4, w ∈ wsX3_begin := by decide +kernel
set_option maxHeartbeats 4000000 in
set_option maxRecDepth 100000 in
theorem k_X3_begin (l : Launch) (D : va_G) (cy : Nat → ClassId) (fs d : Nat → Nat) (z : Nat) (sz be : Int) (fp fc : Int → Int) (lt mn vs : Int) (pt tk mr od pl rm cd : Int → Int) (k : Int) (hI : DI lt mn pt tk mr od pl rm cd) (hk : 1 ≤ k ∧ k ≤ 3) (hfp : ∀ j, 0 ≤ fp j ∧ fp j ≤ 9) (hfc : ∀ j, 0 ≤ fc j ∧ fc j ≤ 63) : CtI l yX3_begin wsX3_begin rm_X3_begin D (tyL cy) [.ref (fs 0), .ref (d 0), .int (iI k)] [oF fs sz be, ai (cy 0) (fs 1) 10 fp, ai (cy 0) (fs 2) 10 fc, oD d lt mn vs, ai (cy 0) (d 1) 24 pt, ai (cy 0) (d 2) 24 tk, ai (cy 0) (d 3) 24 mr, ai (cy 0) (d 4) 10 od, ai (cy 0) (d 5) 10 pl, ai (cy 0) (d 6) 4 rm, ai (cy 0) (d 7) 10 cd] z (fun (r : Int) (u : Int × (Int → Int) × (Int → Int)) => PlI u.1 (pw mn k.toNat) u.2.1 u.2.2 ∧ lst u.2.1 u.1.toNat = usd (hasI pt lt) od 10 ∧ cds u.2.1 u.2.2 u.1 = seqF 0 u.1.toNat ∧ ((r = 1 ∧ u.1 ≤ pw mn k.toNat) ∨ (r = 0 ∧ pw mn k.toNat < u.1))) (fun (u : Int × (Int → Int) × (Int → Int)) => [oF fs u.1 (pw mn k.toNat), ai (cy 0) (fs 1) 10 u.2.1, ai (cy 0) (fs 2) 10 u.2.2, oD d lt mn vs, ai (cy 0) (d 1) 24 pt, ai (cy 0) (d 2) 24 tk, ai (cy 0) (d 3) 24 mr, ai (cy 0) (d 4) 10 od, ai (cy 0) (d 5) 10 pl, ai (cy 0) (d 6) 4 rm, ai (cy 0) (d 7) 10 cd]) 0 0 := by
  refine ct_z (cc := cX3_begin) (maxL := 5) (by decide) rfl (Nat.le_of_ble_eq_true rfl) ?_
  intro p e s m args below meth c A Q H locs ls hx hb hml hown hin hts hK hN hP hD hS hA hl hret
  replace hl : lv_has ls 5 [(0, .ref (fs 0)), (1, .ref (d 0)), (2, .int (iI k))] := hl
  replace hown : s.vm.findClass RX3 = some m.cls := hown
  obtain ⟨⟨⟨hlt0, hlt1⟩, hmn0, hmn1⟩, ⟨hpt, htk, hmr⟩, ⟨hod, hpl, hpo, hop⟩, hrm, hcd⟩ := id hI
  have hpb := pw_b hmn0 hmn1 (n := k.toNat) (by omega)
  refine lv_aload_n hx hb dX3_begin_0 rfl (lv_at hl 0 rfl) ?_
  refine lv_aload_n hx hb dX3_begin_1 rfl (lv_at hl 1 rfl) ?_
  refine va_getN (D := D) (C := RX1) (T := TX1) (N := 10) (ci := 1) (v := .int (iI mn)) hx hb hts iw_X3_begin_1 hown hK hP 3 rfl rfl 6 (by decide) (nfX3_18 hN) (fun _ h9 => h9) rfl dX3_begin_2 ?_
  refine lv_iload_n hx hb dX3_begin_5 rfl (lv_at hl 2 rfl) ?_
  have M_6 := k_X5_power l D cy  H.size mn k (by omega)
  refine kSN_i (wr := [oF fs sz be, ai (cy 0) (fs 1) 10 fp, ai (cy 0) (fs 2) 10 fc, oD d lt mn vs, ai (cy 0) (d 1) 24 pt, ai (cy 0) (d 2) 24 tk, ai (cy 0) (d 3) 24 mr, ai (cy 0) (d 4) 10 od, ai (cy 0) (d 5) 10 pl, ai (cy 0) (d 6) 4 rm, ai (cy 0) (d 7) 10 cd]) (As := [.int (iI mn), .int (iI k)]) (rest := [.ref (fs 0)]) ⟨hx, hb, hml, hown, hts⟩ M_6 ⟨va_cnB 2 hts gX3_begin_X5_power_n24 rfl rfl rfl (nmX3_24 hN) (hts (.initialized RX5) (by decide +kernel)) (by decide +kernel) ⟨Nat.le_of_ble_eq_true rfl, Nat.le_of_ble_eq_true rfl⟩, hts (.static yX5_power) (by decide +kernel), trivial⟩ hN hK hP hD hS hA [] [0, 1, 2, 3, 4, 5, 6, 7, 8, 9, 10] rfl rfl (by decide) (by decide) (by decide) rfl hl.1 rfl (Nat.le_of_ble_eq_true rfl) dX3_begin_6 ⟨Nat.le_of_ble_eq_true rfl, Nat.le_of_ble_eq_true rfl⟩ (fun r_6 u_6 H locs hw_6 hP hD hS => ?_)
  replace hP : va_P D vwCl [oF fs sz be, ai (cy 0) (fs 1) 10 fp, ai (cy 0) (fs 2) 10 fc, oD d lt mn vs, ai (cy 0) (d 1) 24 pt, ai (cy 0) (d 2) 24 tk, ai (cy 0) (d 3) 24 mr, ai (cy 0) (d 4) 10 od, ai (cy 0) (d 5) 10 pl, ai (cy 0) (d 6) 4 rm, ai (cy 0) (d 7) 10 cd] H := hP
  replace hD : va_D A [oF fs sz be, ai (cy 0) (fs 1) 10 fp, ai (cy 0) (fs 2) 10 fc, oD d lt mn vs, ai (cy 0) (d 1) 24 pt, ai (cy 0) (d 2) 24 tk, ai (cy 0) (d 3) 24 mr, ai (cy 0) (d 4) 10 od, ai (cy 0) (d 5) 10 pl, ai (cy 0) (d 6) 4 rm, ai (cy 0) (d 7) 10 cd] := hD
  subst hw_6
  refine va_put (D := D) (C := RX3) (T := TX3) (N := 4) (ci := 3) (v := .int (iI (pw mn k.toNat))) (ty := .int) hx hb hts iw_X3_begin_3 tyX3 tyX3_ok nmX3 hown hK hP hD hS 0 rfl rfl 2 (by decide) (hts _ fl_X3_begin_28) (fun _ h9 => h9) rfl (by decide +kernel) rfl rfl (Nat.le_of_ble_eq_true rfl) dX3_begin_9 (fun H locs hP hD hS => ?_)
  replace hP : va_P D vwCl [oF fs sz (pw mn k.toNat), ai (cy 0) (fs 1) 10 fp, ai (cy 0) (fs 2) 10 fc, oD d lt mn vs, ai (cy 0) (d 1) 24 pt, ai (cy 0) (d 2) 24 tk, ai (cy 0) (d 3) 24 mr, ai (cy 0) (d 4) 10 od, ai (cy 0) (d 5) 10 pl, ai (cy 0) (d 6) 4 rm, ai (cy 0) (d 7) 10 cd] H := hP
  replace hD : va_D A [oF fs sz (pw mn k.toNat), ai (cy 0) (fs 1) 10 fp, ai (cy 0) (fs 2) 10 fc, oD d lt mn vs, ai (cy 0) (d 1) 24 pt, ai (cy 0) (d 2) 24 tk, ai (cy 0) (d 3) 24 mr, ai (cy 0) (d 4) 10 od, ai (cy 0) (d 5) 10 pl, ai (cy 0) (d 6) 4 rm, ai (cy 0) (d 7) 10 cd] := hD
  refine lv_aload_n hx hb dX3_begin_12 rfl (lv_at hl 0 rfl) ?_
  refine r_const hx hb dX3_begin_13 ?_
  refine va_put (D := D) (C := RX3) (T := TX3) (N := 4) (ci := 3) (v := .int (iI 0)) (ty := .int) hx hb hts iw_X3_begin_3 tyX3 tyX3_ok nmX3 hown hK hP hD hS 0 rfl rfl 1 (by decide) (hts _ fl_X3_begin_31) (fun _ h9 => h9) rfl (by decide +kernel) rfl rfl (Nat.le_of_ble_eq_true rfl) dX3_begin_14 (fun H locs hP hD hS => ?_)
  replace hP : va_P D vwCl [oF fs 0 (pw mn k.toNat), ai (cy 0) (fs 1) 10 fp, ai (cy 0) (fs 2) 10 fc, oD d lt mn vs, ai (cy 0) (d 1) 24 pt, ai (cy 0) (d 2) 24 tk, ai (cy 0) (d 3) 24 mr, ai (cy 0) (d 4) 10 od, ai (cy 0) (d 5) 10 pl, ai (cy 0) (d 6) 4 rm, ai (cy 0) (d 7) 10 cd] H := hP
  replace hD : va_D A [oF fs 0 (pw mn k.toNat), ai (cy 0) (fs 1) 10 fp, ai (cy 0) (fs 2) 10 fc, oD d lt mn vs, ai (cy 0) (d 1) 24 pt, ai (cy 0) (d 2) 24 tk, ai (cy 0) (d 3) 24 mr, ai (cy 0) (d 4) 10 od, ai (cy 0) (d 5) 10 pl, ai (cy 0) (d 6) 4 rm, ai (cy 0) (d 7) 10 cd] := hD
  refine r_const hx hb dX3_begin_17 ?_
  refine lv_istore_n (lv' := [(3, .int (iI 0)), (0, .ref (fs 0)), (1, .ref (d 0)), (2, .int (iI k))]) hx hb dX3_begin_18 rfl hl (by decide) rfl (fun ls hl => ?_)
  have lp_19 : ∀ (fu : Nat) (i : Int) (n : Int) (B : Int → Int) (C : Int → Int), (0 ≤ i ∧ i ≤ 10) → (0 ≤ n ∧ n ≤ i) → (lst B n.toNat = usd (hasI pt lt) od i.toNat) → (∀ t, 0 ≤ t → t < n → C (B t) = t) → (∀ t, 0 ≤ t → t < n → pl (B t) < i) → (∀ j, 0 ≤ B j ∧ B j ≤ 9) → (∀ j, 0 ≤ C j ∧ C j ≤ 63) → (∀ i k, 0 ≤ i → i < n → 0 ≤ k → k < n → B i = B k → i = k) → (10 - i).toNat < fu → ∀ (H : Heap) (locs : List Loc), va_P D vwCl [oF fs n (pw mn k.toNat), ai (cy 0) (fs 1) 10 B, ai (cy 0) (fs 2) 10 C, oD d lt mn vs, ai (cy 0) (d 1) 24 pt, ai (cy 0) (d 2) 24 tk, ai (cy 0) (d 3) 24 mr, ai (cy 0) (d 4) 10 od, ai (cy 0) (d 5) 10 pl, ai (cy 0) (d 6) 4 rm, ai (cy 0) (d 7) 10 cd] H → va_D A [oF fs n (pw mn k.toNat), ai (cy 0) (fs 1) 10 B, ai (cy 0) (fs 2) 10 C, oD d lt mn vs, ai (cy 0) (d 1) 24 pt, ai (cy 0) (d 2) 24 tk, ai (cy 0) (d 3) 24 mr, ai (cy 0) (d 4) 10 od, ai (cy 0) (d 5) 10 pl, ai (cy 0) (d 6) 4 rm, ai (cy 0) (d 7) 10 cd] → va_S A s.heap H locs → ∀ (ls : Array Slot), lv_has ls 5 [(0, .ref (fs 0)), (1, .ref (d 0)), (2, .int (iI k)), (3, .int (iI i))] → W p l e rm_X3_begin s m args below meth c H locs 0 0 Q (F0 m 19 ls []) := by
    intro fu
    induction fu with
    | zero =>
      intro i n B C h1 h0 h2 h3 h4 hB hC h5 hm
      exact absurd hm (Nat.not_lt_zero _)
    | succ fu ih_19 =>
      intro i n B C h1 h0 h2 h3 h4 hB hC h5 hm H locs hP hD hS ls hl
      refine lv_iload_n hx hb dX3_begin_19 rfl (lv_at hl 3 rfl) ?_
      refine r_bip hx hb (10) dX3_begin_20 (by decide) ?_
      refine r_ge hx hb 80 dX3_begin_22 (by decide) ⟨by omega, by omega⟩ ⟨by omega, by omega⟩ (fun c_22 => ?_) (fun c_22 => ?_)
      ·
        refine lv_aload_n hx hb dX3_begin_80 rfl (lv_at hl 0 rfl) ?_
        refine va_get (D := D) (C := RX3) (T := TX3) (N := 4) (ci := 3) (v := .int (iI n)) hx hb hts iw_X3_begin_3 hown hK hP 0 rfl rfl 1 (by decide) (hts _ fl_X3_begin_31) (fun _ h9 => h9) rfl dX3_begin_81 ?_
        refine lv_aload_n hx hb dX3_begin_84 rfl (lv_at hl 0 rfl) ?_
        refine va_get (D := D) (C := RX3) (T := TX3) (N := 4) (ci := 3) (v := .int (iI (pw mn k.toNat))) hx hb hts iw_X3_begin_3 hown hK hP 0 rfl rfl 2 (by decide) (hts _ fl_X3_begin_28) (fun _ h9 => h9) rfl dX3_begin_85 ?_
        refine r_gt hx hb 95 dX3_begin_88 (by decide) ⟨by omega, by omega⟩ ⟨by omega, by omega⟩ (fun c_88 => ?_) (fun c_88 => ?_)
        ·
          refine r_const hx hb dX3_begin_95 ?_
          obtain rfl : i = 10 := by omega
          exact hret [0, 1, 2, 3, 4, 5, 6, 7, 8, 9, 10] (n, B, C) dX3_begin_96 hP hD hS (by decide) rfl (by omega) (by exact ⟨⟨⟨⟨h0.1, h0.2⟩, by omega, by omega⟩, ⟨hB, hC⟩, h5⟩, h2, pl_b2 h3, by omega⟩)
        ·
          refine r_const hx hb dX3_begin_91 ?_
          refine lv_goto (tgt := 96) hx hb dX3_begin_92 (by decide) ?_
          obtain rfl : i = 10 := by omega
          exact hret [0, 1, 2, 3, 4, 5, 6, 7, 8, 9, 10] (n, B, C) dX3_begin_96 hP hD hS (by decide) rfl (by omega) (by exact ⟨⟨⟨⟨h0.1, h0.2⟩, by omega, by omega⟩, ⟨hB, hC⟩, h5⟩, h2, pl_b2 h3, by omega⟩)
      ·
        refine lv_aload_n hx hb dX3_begin_25 rfl (lv_at hl 1 rfl) ?_
        refine va_getN (D := D) (C := RX1) (T := TX1) (N := 10) (ci := 1) (v := .ref (d 4)) hx hb hts iw_X3_begin_1 hown hK hP 3 rfl rfl 4 (by decide) (nfX3_34 hN) (fun _ h9 => h9) rfl dX3_begin_26 ?_
        refine lv_iload_n hx hb dX3_begin_29 rfl (lv_at hl 3 rfl) ?_
        refine r_ald hx hb hK hP 7 rfl rfl ⟨by omega, by omega, by omega⟩ dX3_begin_30 ?_
        have b_30 := hod i
        refine lv_istore (lv' := [(4, .int (iI (od i))), (0, .ref (fs 0)), (1, .ref (d 0)), (2, .int (iI k)), (3, .int (iI i))]) hx hb dX3_begin_31 hl (by decide) rfl (fun ls hl => ?_)
        refine lv_aload_n hx hb dX3_begin_33 rfl (lv_at hl 2 rfl) ?_
        refine lv_iload hx hb dX3_begin_34 (lv_at hl 0 rfl) ?_
        have M_36 := k_X1_hasLetterAt l D cy d H.size lt mn vs pt tk mr od pl rm cd (od i) (⟨⟨hlt0, hlt1⟩, hpt⟩) (⟨by omega, by omega⟩)
        refine kV_i (wr := [oF fs n (pw mn k.toNat), ai (cy 0) (fs 1) 10 B, ai (cy 0) (fs 2) 10 C]) (As := [.int (iI (od i))]) (rest := []) (q := (RX1, TX1, 10)) (ci := 1) ⟨hx, hb, hml, hown, hts⟩ M_36 3 rfl rfl (cwV 1 hts gX3_begin_X1_hasLetterAt rfl rfl rfl (by decide +kernel) ⟨Nat.le_of_ble_eq_true rfl, Nat.le_of_ble_eq_true rfl⟩) hN hK hP hD hS hA [3, 4, 5, 6, 7, 8, 9, 10] [0, 1, 2] rfl rfl (by decide) (by decide) (by decide) rfl hl.1 rfl (Nat.le_of_ble_eq_true rfl) dX3_begin_36 ⟨Nat.le_of_ble_eq_true rfl, Nat.le_of_ble_eq_true rfl⟩ (fun r_36 u_36 H locs hw_36 hP hD hS => ?_)
        replace hP : va_P D vwCl [oF fs n (pw mn k.toNat), ai (cy 0) (fs 1) 10 B, ai (cy 0) (fs 2) 10 C, oD d lt mn vs, ai (cy 0) (d 1) 24 pt, ai (cy 0) (d 2) 24 tk, ai (cy 0) (d 3) 24 mr, ai (cy 0) (d 4) 10 od, ai (cy 0) (d 5) 10 pl, ai (cy 0) (d 6) 4 rm, ai (cy 0) (d 7) 10 cd] H := hP
        replace hD : va_D A [oF fs n (pw mn k.toNat), ai (cy 0) (fs 1) 10 B, ai (cy 0) (fs 2) 10 C, oD d lt mn vs, ai (cy 0) (d 1) 24 pt, ai (cy 0) (d 2) 24 tk, ai (cy 0) (d 3) 24 mr, ai (cy 0) (d 4) 10 od, ai (cy 0) (d 5) 10 pl, ai (cy 0) (d 6) 4 rm, ai (cy 0) (d 7) 10 cd] := hD
        have hb0 := hasI_b pt lt (od i)
        refine r_eq0 hx hb 74 dX3_begin_39 (by decide) ⟨by omega, by omega⟩ (fun c_39 => ?_) (fun c_39 => ?_)
        ·
          refine r_inc (k := 4) (lv' := [(3, .int (iI (i + 1))), (4, .int (iI (od i))), (0, .ref (fs 0)), (1, .ref (d 0)), (2, .int (iI k))]) hx hb dX3_begin_74 hl rfl (by decide) rfl (fun ls hl => ?_)
          refine lv_goto (tgt := 19) hx hb dX3_begin_77 (by decide) ?_
          have hpi := hpo i h1.1 (by omega)
          exact ih_19 (i + 1) n B C (by omega) (by omega) (by first | (rw [usd_s h1.1, if_neg (by omega), h2]; done) | (rw [lst_push h0.1, h2, usd_s h1.1, if_pos (by omega)]; done)) (by first | exact h3 | exact fun t q1 q2 => pl_b3 hpi h3 h4 t q1 (by omega)) (by first | exact fun t q1 q2 => by have := h4 t q1 q2; omega | exact fun t q1 q2 => pl_b4 hpi h4 t q1 (by omega)) (by first | exact hB | exact ud_b hB (by omega) (by omega)) (by first | exact hC | exact ud_b hC (by omega) (by omega)) (by first | exact h5 | exact pl_b5 hpi h4 h5) (by omega) H locs (pick_P hP (is := [0, 1, 2, 3, 4, 5, 6, 7, 8, 9, 10]) rfl) (hD.sub [0, 1, 2, 3, 4, 5, 6, 7, 8, 9, 10] (by decide) rfl) hS ls (lv_sub hl [2, 3, 4, 0] rfl)
        ·
          refine lv_aload_n hx hb dX3_begin_42 rfl (lv_at hl 1 rfl) ?_
          refine va_get (D := D) (C := RX3) (T := TX3) (N := 4) (ci := 3) (v := .ref (fs 1)) hx hb hts iw_X3_begin_3 hown hK hP 0 rfl rfl 0 (by decide) (hts _ fl_X3_begin_9) (fun _ h9 => h9) rfl dX3_begin_43 ?_
          refine lv_aload_n hx hb dX3_begin_46 rfl (lv_at hl 1 rfl) ?_
          refine va_get (D := D) (C := RX3) (T := TX3) (N := 4) (ci := 3) (v := .int (iI n)) hx hb hts iw_X3_begin_3 hown hK hP 0 rfl rfl 1 (by decide) (hts _ fl_X3_begin_31) (fun _ h9 => h9) rfl dX3_begin_47 ?_
          refine lv_iload hx hb dX3_begin_50 (lv_at hl 0 rfl) ?_
          refine r_ast hx hb hK hP hD hS 1 rfl rfl ⟨by omega, by omega, by omega⟩ dX3_begin_52 (fun H locs hP hD hS => ?_)
          replace hP : va_P D vwCl [oF fs n (pw mn k.toNat), ai (cy 0) (fs 1) 10 (ud B n (od i)), ai (cy 0) (fs 2) 10 C, oD d lt mn vs, ai (cy 0) (d 1) 24 pt, ai (cy 0) (d 2) 24 tk, ai (cy 0) (d 3) 24 mr, ai (cy 0) (d 4) 10 od, ai (cy 0) (d 5) 10 pl, ai (cy 0) (d 6) 4 rm, ai (cy 0) (d 7) 10 cd] H := hP
          replace hD : va_D A [oF fs n (pw mn k.toNat), ai (cy 0) (fs 1) 10 (ud B n (od i)), ai (cy 0) (fs 2) 10 C, oD d lt mn vs, ai (cy 0) (d 1) 24 pt, ai (cy 0) (d 2) 24 tk, ai (cy 0) (d 3) 24 mr, ai (cy 0) (d 4) 10 od, ai (cy 0) (d 5) 10 pl, ai (cy 0) (d 6) 4 rm, ai (cy 0) (d 7) 10 cd] := hD
          refine lv_aload_n hx hb dX3_begin_53 rfl (lv_at hl 1 rfl) ?_
          refine va_get (D := D) (C := RX3) (T := TX3) (N := 4) (ci := 3) (v := .ref (fs 2)) hx hb hts iw_X3_begin_3 hown hK hP 0 rfl rfl 3 (by decide) (hts _ fl_X3_begin_15) (fun _ h9 => h9) rfl dX3_begin_54 ?_
          refine lv_iload hx hb dX3_begin_57 (lv_at hl 0 rfl) ?_
          refine lv_aload_n hx hb dX3_begin_59 rfl (lv_at hl 1 rfl) ?_
          refine va_get (D := D) (C := RX3) (T := TX3) (N := 4) (ci := 3) (v := .int (iI n)) hx hb hts iw_X3_begin_3 hown hK hP 0 rfl rfl 1 (by decide) (hts _ fl_X3_begin_31) (fun _ h9 => h9) rfl dX3_begin_60 ?_
          refine r_ast hx hb hK hP hD hS 2 rfl rfl ⟨by omega, by omega, by omega⟩ dX3_begin_63 (fun H locs hP hD hS => ?_)
          replace hP : va_P D vwCl [oF fs n (pw mn k.toNat), ai (cy 0) (fs 1) 10 (ud B n (od i)), ai (cy 0) (fs 2) 10 (ud C (od i) n), oD d lt mn vs, ai (cy 0) (d 1) 24 pt, ai (cy 0) (d 2) 24 tk, ai (cy 0) (d 3) 24 mr, ai (cy 0) (d 4) 10 od, ai (cy 0) (d 5) 10 pl, ai (cy 0) (d 6) 4 rm, ai (cy 0) (d 7) 10 cd] H := hP
          replace hD : va_D A [oF fs n (pw mn k.toNat), ai (cy 0) (fs 1) 10 (ud B n (od i)), ai (cy 0) (fs 2) 10 (ud C (od i) n), oD d lt mn vs, ai (cy 0) (d 1) 24 pt, ai (cy 0) (d 2) 24 tk, ai (cy 0) (d 3) 24 mr, ai (cy 0) (d 4) 10 od, ai (cy 0) (d 5) 10 pl, ai (cy 0) (d 6) 4 rm, ai (cy 0) (d 7) 10 cd] := hD
          refine lv_aload_n hx hb dX3_begin_64 rfl (lv_at hl 1 rfl) ?_
          refine lv_dup hx hb dX3_begin_65 rfl ?_
          refine va_get (D := D) (C := RX3) (T := TX3) (N := 4) (ci := 3) (v := .int (iI n)) hx hb hts iw_X3_begin_3 hown hK hP 0 rfl rfl 1 (by decide) (hts _ fl_X3_begin_31) (fun _ h9 => h9) rfl dX3_begin_66 ?_
          refine r_const hx hb dX3_begin_69 ?_
          refine r_add hx hb dX3_begin_70 ?_
          refine va_put (D := D) (C := RX3) (T := TX3) (N := 4) (ci := 3) (v := .int (iI (n + 1))) (ty := .int) hx hb hts iw_X3_begin_3 tyX3 tyX3_ok nmX3 hown hK hP hD hS 0 rfl rfl 1 (by decide) (hts _ fl_X3_begin_31) (fun _ h9 => h9) rfl (by decide +kernel) rfl rfl (Nat.le_of_ble_eq_true rfl) dX3_begin_71 (fun H locs hP hD hS => ?_)
          replace hP : va_P D vwCl [oF fs (n + 1) (pw mn k.toNat), ai (cy 0) (fs 1) 10 (ud B n (od i)), ai (cy 0) (fs 2) 10 (ud C (od i) n), oD d lt mn vs, ai (cy 0) (d 1) 24 pt, ai (cy 0) (d 2) 24 tk, ai (cy 0) (d 3) 24 mr, ai (cy 0) (d 4) 10 od, ai (cy 0) (d 5) 10 pl, ai (cy 0) (d 6) 4 rm, ai (cy 0) (d 7) 10 cd] H := hP
          replace hD : va_D A [oF fs (n + 1) (pw mn k.toNat), ai (cy 0) (fs 1) 10 (ud B n (od i)), ai (cy 0) (fs 2) 10 (ud C (od i) n), oD d lt mn vs, ai (cy 0) (d 1) 24 pt, ai (cy 0) (d 2) 24 tk, ai (cy 0) (d 3) 24 mr, ai (cy 0) (d 4) 10 od, ai (cy 0) (d 5) 10 pl, ai (cy 0) (d 6) 4 rm, ai (cy 0) (d 7) 10 cd] := hD
          refine r_inc (k := 4) (lv' := [(3, .int (iI (i + 1))), (4, .int (iI (od i))), (0, .ref (fs 0)), (1, .ref (d 0)), (2, .int (iI k))]) hx hb dX3_begin_74 hl rfl (by decide) rfl (fun ls hl => ?_)
          refine lv_goto (tgt := 19) hx hb dX3_begin_77 (by decide) ?_
          have hpi := hpo i h1.1 (by omega)
          exact ih_19 (i + 1) (n + 1) (ud B n (od i)) (ud C (od i) n) (by omega) (by omega) (by first | (rw [usd_s h1.1, if_neg (by omega), h2]; done) | (rw [lst_push h0.1, h2, usd_s h1.1, if_pos (by omega)]; done)) (by first | exact h3 | exact fun t q1 q2 => pl_b3 hpi h3 h4 t q1 (by omega)) (by first | exact fun t q1 q2 => by have := h4 t q1 q2; omega | exact fun t q1 q2 => pl_b4 hpi h4 t q1 (by omega)) (by first | exact hB | exact ud_b hB (by omega) (by omega)) (by first | exact hC | exact ud_b hC (by omega) (by omega)) (by first | exact h5 | exact pl_b5 hpi h4 h5) (by omega) H locs (pick_P hP (is := [0, 1, 2, 3, 4, 5, 6, 7, 8, 9, 10]) rfl) (hD.sub [0, 1, 2, 3, 4, 5, 6, 7, 8, 9, 10] (by decide) rfl) hS ls (lv_sub hl [2, 3, 4, 0] rfl)
  exact lp_19 _ 0 0 fp fc (by omega) (by omega) (rfl) (fun t q1 q2 => by omega) (fun t q1 q2 => by omega) (hfp) (hfc) (fun i k q1 q2 => by omega) (Nat.lt_succ_self _) H locs (pick_P hP (is := [0, 1, 2, 3, 4, 5, 6, 7, 8, 9, 10]) rfl) (hD.sub [0, 1, 2, 3, 4, 5, 6, 7, 8, 9, 10] (by decide) rfl) hS ls (lv_sub hl [1, 2, 3, 0] rfl)
abbrev rm_X3_raise : Room := { frames := 0, cells := 0, slots := 0, locals := 0 }
theorem fl_X3_raise_9 : Cond.fieldLink RX3 9 "WalkPasses$Plans" "points" "[I" ∈ wsX3_raise := by decide +kernel
theorem fl_X3_raise_15 : Cond.fieldLink RX3 15 "WalkPasses$Plans" "codes" "[I" ∈ wsX3_raise := by decide +kernel
theorem fl_X3_raise_31 : Cond.fieldLink RX3 31 "WalkPasses$Plans" "size" "I" ∈ wsX3_raise := by decide +kernel
theorem iw_X3_raise_3 : ∀ w ∈ u_ws RX3 TX3 4, w ∈ wsX3_raise := by decide +kernel
set_option maxHeartbeats 4000000 in
set_option maxRecDepth 100000 in
theorem k_X3_raise (l : Launch) (D : va_G) (cy : Nat → ClassId) (fs : Nat → Nat) (z : Nat) (sz be : Int) (fp fc : Int → Int) (a : Int) (hP9 : PlI sz be fp fc) (ha : 0 ≤ a ∧ a < sz) (hc : fc (fp a) + (sz - a) ≤ 63) : CtV l yX3_raise wsX3_raise rm_X3_raise D (tyL cy) [.ref (fs 0), .int (iI a)] [oF fs sz be, ai (cy 0) (fs 1) 10 fp, ai (cy 0) (fs 2) 10 fc] z (fun (u : Int → Int) => PlI sz be fp u ∧ raiF fp fc u a sz) (fun (u : Int → Int) => [oF fs sz be, ai (cy 0) (fs 1) 10 fp, ai (cy 0) (fs 2) 10 u]) 0 0 := by
  refine ct_v (cc := cX3_raise) (maxL := 4) (by decide) rfl (Nat.le_of_ble_eq_true rfl) ?_
  intro p e s m args below meth c A Q H locs ls hx hb hml hown hin hts hK hN hP hD hS hA hl hret
  replace hl : lv_has ls 4 [(0, .ref (fs 0)), (1, .int (iI a))] := hl
  replace hown : s.vm.findClass RX3 = some m.cls := hown
  obtain ⟨⟨⟨hs0, hs1⟩, hb0, hb1⟩, ⟨hfp, hfc⟩, hdi⟩ := id hP9
  refine lv_aload_n hx hb dX3_raise_0 rfl (lv_at hl 0 rfl) ?_
  refine va_get (D := D) (C := RX3) (T := TX3) (N := 4) (ci := 3) (v := .ref (fs 2)) hx hb hts iw_X3_raise_3 hown hK hP 0 rfl rfl 3 (by decide) (hts _ fl_X3_raise_15) (fun _ h9 => h9) rfl dX3_raise_1 ?_
  refine lv_aload_n hx hb dX3_raise_4 rfl (lv_at hl 0 rfl) ?_
  refine va_get (D := D) (C := RX3) (T := TX3) (N := 4) (ci := 3) (v := .ref (fs 1)) hx hb hts iw_X3_raise_3 hown hK hP 0 rfl rfl 0 (by decide) (hts _ fl_X3_raise_9) (fun _ h9 => h9) rfl dX3_raise_5 ?_
  refine lv_iload_n hx hb dX3_raise_8 rfl (lv_at hl 1 rfl) ?_
  refine r_ald hx hb hK hP 1 rfl rfl ⟨by omega, by omega, by omega⟩ dX3_raise_9 ?_
  have b_9 := hfp a
  refine r_ald hx hb hK hP 2 rfl rfl ⟨by omega, by omega, by omega⟩ dX3_raise_10 ?_
  have b_10 := hfc (fp a)
  refine lv_istore_n (lv' := [(2, .int (iI (fc (fp a)))), (0, .ref (fs 0)), (1, .int (iI a))]) hx hb dX3_raise_11 rfl hl (by decide) rfl (fun ls hl => ?_)
  refine lv_iload_n hx hb dX3_raise_12 rfl (lv_at hl 2 rfl) ?_
  refine lv_istore_n (lv' := [(3, .int (iI a)), (2, .int (iI (fc (fp a)))), (0, .ref (fs 0)), (1, .int (iI a))]) hx hb dX3_raise_13 rfl hl (by decide) rfl (fun ls hl => ?_)
  have lp_14 : ∀ (fu : Nat) (x : Int) (i : Int) (B : Int → Int), (a ≤ i ∧ i ≤ sz) → (x = fc (fp a) + (i - a)) → (∀ j, 0 ≤ B j ∧ B j ≤ 63) → (∀ t, 0 ≤ t → t < a → B (fp t) = fc (fp t)) → (∀ t, a ≤ t → t < i → B (fp t) = fc (fp a) + 1 + (t - a)) → (sz - i).toNat < fu → ∀ (H : Heap) (locs : List Loc), va_P D vwCl [oF fs sz be, ai (cy 0) (fs 1) 10 fp, ai (cy 0) (fs 2) 10 B] H → va_D A [oF fs sz be, ai (cy 0) (fs 1) 10 fp, ai (cy 0) (fs 2) 10 B] → va_S A s.heap H locs → ∀ (ls : Array Slot), lv_has ls 4 [(0, .ref (fs 0)), (1, .int (iI a)), (2, .int (iI x)), (3, .int (iI i))] → W p l e rm_X3_raise s m args below meth c H locs 0 0 Q (F0 m 14 ls []) := by
    intro fu
    induction fu with
    | zero =>
      intro x i B h1 h2 hB h3 h4 hm
      exact absurd hm (Nat.not_lt_zero _)
    | succ fu ih_14 =>
      intro x i B h1 h2 hB h3 h4 hm H locs hP hD hS ls hl
      have hxa := hfc (fp a)
      refine lv_iload_n hx hb dX3_raise_14 rfl (lv_at hl 3 rfl) ?_
      refine lv_aload_n hx hb dX3_raise_15 rfl (lv_at hl 0 rfl) ?_
      refine va_get (D := D) (C := RX3) (T := TX3) (N := 4) (ci := 3) (v := .int (iI sz)) hx hb hts iw_X3_raise_3 hown hK hP 0 rfl rfl 1 (by decide) (hts _ fl_X3_raise_31) (fun _ h9 => h9) rfl dX3_raise_16 ?_
      refine r_ge hx hb 43 dX3_raise_19 (by decide) ⟨by omega, by omega⟩ ⟨by omega, by omega⟩ (fun c_19 => ?_) (fun c_19 => ?_)
      ·
        exact hret [0, 1, 2] B dX3_raise_43 hP hD hS (by decide) rfl (⟨⟨⟨⟨hs0, hs1⟩, hb0, hb1⟩, ⟨hfp, hB⟩, hdi⟩, h3, fun t q1 q2 => h4 t q1 (by omega)⟩)
      ·
        refine r_inc (k := 2) (lv' := [(2, .int (iI (x + 1))), (0, .ref (fs 0)), (1, .int (iI a)), (3, .int (iI i))]) hx hb dX3_raise_22 hl rfl (by decide) rfl (fun ls hl => ?_)
        refine lv_aload_n hx hb dX3_raise_25 rfl (lv_at hl 1 rfl) ?_
        refine va_get (D := D) (C := RX3) (T := TX3) (N := 4) (ci := 3) (v := .ref (fs 2)) hx hb hts iw_X3_raise_3 hown hK hP 0 rfl rfl 3 (by decide) (hts _ fl_X3_raise_15) (fun _ h9 => h9) rfl dX3_raise_26 ?_
        refine lv_aload_n hx hb dX3_raise_29 rfl (lv_at hl 1 rfl) ?_
        refine va_get (D := D) (C := RX3) (T := TX3) (N := 4) (ci := 3) (v := .ref (fs 1)) hx hb hts iw_X3_raise_3 hown hK hP 0 rfl rfl 0 (by decide) (hts _ fl_X3_raise_9) (fun _ h9 => h9) rfl dX3_raise_30 ?_
        refine lv_iload_n hx hb dX3_raise_33 rfl (lv_at hl 3 rfl) ?_
        refine r_ald hx hb hK hP 1 rfl rfl ⟨by omega, by omega, by omega⟩ dX3_raise_34 ?_
        have b_34 := hfp i
        refine lv_iload_n hx hb dX3_raise_35 rfl (lv_at hl 0 rfl) ?_
        refine r_ast hx hb hK hP hD hS 2 rfl rfl ⟨by omega, by omega, by omega⟩ dX3_raise_36 (fun H locs hP hD hS => ?_)
        replace hP : va_P D vwCl [oF fs sz be, ai (cy 0) (fs 1) 10 fp, ai (cy 0) (fs 2) 10 (ud B (fp i) (x + 1))] H := hP
        replace hD : va_D A [oF fs sz be, ai (cy 0) (fs 1) 10 fp, ai (cy 0) (fs 2) 10 (ud B (fp i) (x + 1))] := hD
        refine r_inc (k := 3) (lv' := [(3, .int (iI (i + 1))), (2, .int (iI (x + 1))), (0, .ref (fs 0)), (1, .int (iI a))]) hx hb dX3_raise_37 hl rfl (by decide) rfl (fun ls hl => ?_)
        refine lv_goto (tgt := 14) hx hb dX3_raise_40 (by decide) ?_
        exact ih_14 (x + 1) (i + 1) (ud B (fp i) (x + 1)) (by omega) (by omega) (ud_b hB (by omega) (by omega)) (fun t q1 q2 => by rw [ud_ne (fun q => by have := hdi t i q1 (by omega) (by omega) (by omega) q; omega)]; exact h3 t q1 q2) (fun t q1 q2 => by by_cases e : t = i; (subst e; rw [ud_at]; omega); (rw [ud_ne (fun q => by have := hdi t i (by omega) (by omega) (by omega) (by omega) q; omega)]; exact h4 t q1 (by omega))) (by omega) H locs (pick_P hP (is := [0, 1, 2]) rfl) (hD.sub [0, 1, 2] (by decide) rfl) hS ls (lv_sub hl [2, 3, 1, 0] rfl)
  exact lp_14 _ (fc (fp a)) a fc (by omega) (by omega) (hfc) (fun t _ _ => rfl) (fun t q1 q2 => by omega) (Nat.lt_succ_self _) H locs (pick_P hP (is := [0, 1, 2]) rfl) (hD.sub [0, 1, 2] (by decide) rfl) hS ls (lv_sub hl [2, 3, 1, 0] rfl)
abbrev rm_X3_advance : Room := { frames := 1, cells := 0, slots := 0, locals := 23 }
theorem fl_X3_advance_9 : Cond.fieldLink RX3 9 "WalkPasses$Plans" "points" "[I" ∈ wsX3_advance := by decide +kernel
theorem fl_X3_advance_15 : Cond.fieldLink RX3 15 "WalkPasses$Plans" "codes" "[I" ∈ wsX3_advance := by decide +kernel
theorem fl_X3_advance_28 : Cond.fieldLink RX3 28 "WalkPasses$Plans" "below" "I" ∈ wsX3_advance := by decide +kernel
theorem fl_X3_advance_31 : Cond.fieldLink RX3 31 "WalkPasses$Plans" "size" "I" ∈ wsX3_advance := by decide +kernel
theorem iw_X3_advance_3 : ∀ w ∈ u_ws RX3 TX3 4, w ∈ wsX3_advance := by decide +kernel
set_option maxHeartbeats 4000000 in
set_option maxRecDepth 100000 in
theorem k_X3_advance (l : Launch) (D : va_G) (cy : Nat → ClassId) (fs : Nat → Nat) (z : Nat) (sz be : Int) (fp fc : Int → Int) (f : Int) (hP9 : PlI sz be fp fc) (hf : 0 ≤ f ∧ f ≤ 100) : CtI l yX3_advance wsX3_advance rm_X3_advance D (tyL cy) [.ref (fs 0), .int (iI f)] [oF fs sz be, ai (cy 0) (fs 1) 10 fp, ai (cy 0) (fs 2) 10 fc] z (fun (r : Int) (u : Int → Int) => PlI sz be fp u ∧ ((r = 1 ∧ nxt be f.toNat (cds fp fc sz) = some (cds fp u sz)) ∨ (r = 0 ∧ nxt be f.toNat (cds fp fc sz) = none ∧ u = fc))) (fun (u : Int → Int) => [oF fs sz be, ai (cy 0) (fs 1) 10 fp, ai (cy 0) (fs 2) 10 u]) 0 0 := by
  refine ct_z (cc := cX3_advance) (maxL := 4) (by decide) rfl (Nat.le_of_ble_eq_true rfl) ?_
  intro p e s m args below meth c A Q H locs ls hx hb hml hown hin hts hK hN hP hD hS hA hl hret
  replace hl : lv_has ls 4 [(0, .ref (fs 0)), (1, .int (iI f))] := hl
  replace hown : s.vm.findClass RX3 = some m.cls := hown
  obtain ⟨⟨⟨hs0, hs1⟩, hb0, hb1⟩, ⟨hfp, hfc⟩, hdi⟩ := id hP9
  refine lv_iload_n hx hb dX3_advance_0 rfl (lv_at hl 1 rfl) ?_
  refine lv_aload_n hx hb dX3_advance_1 rfl (lv_at hl 0 rfl) ?_
  refine va_get (D := D) (C := RX3) (T := TX3) (N := 4) (ci := 3) (v := .int (iI sz)) hx hb hts iw_X3_advance_3 hown hK hP 0 rfl rfl 1 (by decide) (hts _ fl_X3_advance_31) (fun _ h9 => h9) rfl dX3_advance_2 ?_
  refine r_min (own := RX3) (index := 41) hx hb (by rw [hml]; exact hl.1.symm) hown (hts _ (by decide +kernel)) (hts _ (by decide +kernel)) (hts _ (by decide +kernel)) (hts _ (by decide +kernel)) (Nat.le_of_ble_eq_true rfl) (Nat.le_of_ble_eq_true rfl) (Nat.zero_le _) (Nat.zero_le _) ⟨by omega, by omega⟩ ⟨by omega, by omega⟩ dX3_advance_5 ?_
  refine r_const hx hb dX3_advance_8 ?_
  refine r_sub hx hb dX3_advance_9 ?_
  refine lv_istore_n (lv' := [(2, .int (iI ((min f sz) - 1))), (0, .ref (fs 0)), (1, .int (iI f))]) hx hb dX3_advance_10 rfl hl (by decide) rfl (fun ls hl => ?_)
  have lp_11 : ∀ (fu : Nat) (i : Int), (-1 ≤ i ∧ i < f ∧ i < sz) → (∀ k, i < k → k < f → k < sz → ¬ fc (fp k) < be - (sz - k)) → (i + 1).toNat < fu → ∀ (H : Heap) (locs : List Loc), va_P D vwCl [oF fs sz be, ai (cy 0) (fs 1) 10 fp, ai (cy 0) (fs 2) 10 fc] H → va_D A [oF fs sz be, ai (cy 0) (fs 1) 10 fp, ai (cy 0) (fs 2) 10 fc] → va_S A s.heap H locs → ∀ (ls : Array Slot), lv_has ls 4 [(0, .ref (fs 0)), (1, .int (iI f)), (2, .int (iI i))] → W p l e rm_X3_advance s m args below meth c H locs 0 0 Q (F0 m 11 ls []) := by
    intro fu
    induction fu with
    | zero =>
      intro i h1 h2 hm
      exact absurd hm (Nat.not_lt_zero _)
    | succ fu ih_11 =>
      intro i h1 h2 hm H locs hP hD hS ls hl
      refine lv_iload_n hx hb dX3_advance_11 rfl (lv_at hl 2 rfl) ?_
      refine r_lt0 hx hb 55 dX3_advance_12 (by decide) ⟨by omega, by omega⟩ (fun c_12 => ?_) (fun c_12 => ?_)
      ·
        refine r_const hx hb dX3_advance_55 ?_
        exact hret [0, 1, 2] fc dX3_advance_56 hP hD hS (by decide) rfl (by omega) (⟨hP9, Or.inr ⟨rfl, adv_no (fun k q1 q2 q3 => h2 k (by omega) q2 q3), rfl⟩⟩)
      ·
        refine lv_aload_n hx hb dX3_advance_15 rfl (lv_at hl 0 rfl) ?_
        refine va_get (D := D) (C := RX3) (T := TX3) (N := 4) (ci := 3) (v := .int (iI sz)) hx hb hts iw_X3_advance_3 hown hK hP 0 rfl rfl 1 (by decide) (hts _ fl_X3_advance_31) (fun _ h9 => h9) rfl dX3_advance_16 ?_
        refine lv_iload_n hx hb dX3_advance_19 rfl (lv_at hl 2 rfl) ?_
        refine r_sub hx hb dX3_advance_20 ?_
        refine lv_istore_n (lv' := [(3, .int (iI (sz - i))), (0, .ref (fs 0)), (1, .int (iI f)), (2, .int (iI i))]) hx hb dX3_advance_21 rfl hl (by decide) rfl (fun ls hl => ?_)
        refine lv_aload_n hx hb dX3_advance_22 rfl (lv_at hl 1 rfl) ?_
        refine va_get (D := D) (C := RX3) (T := TX3) (N := 4) (ci := 3) (v := .ref (fs 2)) hx hb hts iw_X3_advance_3 hown hK hP 0 rfl rfl 3 (by decide) (hts _ fl_X3_advance_15) (fun _ h9 => h9) rfl dX3_advance_23 ?_
        refine lv_aload_n hx hb dX3_advance_26 rfl (lv_at hl 1 rfl) ?_
        refine va_get (D := D) (C := RX3) (T := TX3) (N := 4) (ci := 3) (v := .ref (fs 1)) hx hb hts iw_X3_advance_3 hown hK hP 0 rfl rfl 0 (by decide) (hts _ fl_X3_advance_9) (fun _ h9 => h9) rfl dX3_advance_27 ?_
        refine lv_iload_n hx hb dX3_advance_30 rfl (lv_at hl 3 rfl) ?_
        refine r_ald hx hb hK hP 1 rfl rfl ⟨by omega, by omega, by omega⟩ dX3_advance_31 ?_
        have b_31 := hfp i
        refine r_ald hx hb hK hP 2 rfl rfl ⟨by omega, by omega, by omega⟩ dX3_advance_32 ?_
        have b_32 := hfc (fp i)
        refine lv_aload_n hx hb dX3_advance_33 rfl (lv_at hl 1 rfl) ?_
        refine va_get (D := D) (C := RX3) (T := TX3) (N := 4) (ci := 3) (v := .int (iI be)) hx hb hts iw_X3_advance_3 hown hK hP 0 rfl rfl 2 (by decide) (hts _ fl_X3_advance_28) (fun _ h9 => h9) rfl dX3_advance_34 ?_
        refine lv_iload_n hx hb dX3_advance_37 rfl (lv_at hl 0 rfl) ?_
        refine r_sub hx hb dX3_advance_38 ?_
        refine r_ge hx hb 49 dX3_advance_39 (by decide) ⟨by omega, by omega⟩ ⟨by omega, by omega⟩ (fun c_39 => ?_) (fun c_39 => ?_)
        ·
          refine r_inc (k := 3) (lv' := [(2, .int (iI (i + -1))), (3, .int (iI (sz - i))), (0, .ref (fs 0)), (1, .int (iI f))]) hx hb dX3_advance_49 hl rfl (by decide) rfl (fun ls hl => ?_)
          refine lv_goto (tgt := 11) hx hb dX3_advance_52 (by decide) ?_
          exact ih_11 (i + -1) (by omega) (fun k q1 q2 q3 => by by_cases e : k = i; (subst e; omega); (exact h2 k (by omega) q2 q3)) (by omega) H locs (pick_P hP (is := [0, 1, 2]) rfl) (hD.sub [0, 1, 2] (by decide) rfl) hS ls (lv_sub hl [2, 3, 0] rfl)
        ·
          refine lv_aload_n hx hb dX3_advance_42 rfl (lv_at hl 1 rfl) ?_
          refine lv_iload_n hx hb dX3_advance_43 rfl (lv_at hl 3 rfl) ?_
          have M_44 := k_X3_raise l D cy fs H.size sz be fp fc i (hP9) (by omega) (by omega)
          refine kV_v (wr := []) (As := [.int (iI i)]) (rest := []) (q := (RX3, TX3, 4)) (ci := 3) ⟨hx, hb, hml, hown, hts⟩ M_44 0 rfl rfl (cwV 1 hts gX3_advance_X3_raise rfl rfl rfl (by decide +kernel) ⟨Nat.le_of_ble_eq_true rfl, Nat.le_of_ble_eq_true rfl⟩) hN hK hP hD hS hA [0, 1, 2] [] rfl rfl (by decide) (by decide) (by decide) rfl hl.1 rfl (Nat.le_of_ble_eq_true rfl) dX3_advance_44 ⟨Nat.le_of_ble_eq_true rfl, Nat.le_of_ble_eq_true rfl⟩ (fun u_44 H locs hw_44 hP hD hS => ?_)
          obtain ⟨v_1, rfl⟩ : ∃ z, z = u_44 := ⟨_, rfl⟩
          try dsimp only at hw_44
          replace hP : va_P D vwCl [oF fs sz be, ai (cy 0) (fs 1) 10 fp, ai (cy 0) (fs 2) 10 v_1] H := hP
          replace hD : va_D A [oF fs sz be, ai (cy 0) (fs 1) 10 fp, ai (cy 0) (fs 2) 10 v_1] := hD
          refine r_const hx hb dX3_advance_47 ?_
          exact hret [0, 1, 2] v_1 dX3_advance_48 hP hD hS (by decide) rfl (by omega) (⟨hw_44.1, Or.inl ⟨rfl, adv_yes (by omega) (by omega) (by omega) hw_44.2 (by omega) h2⟩⟩)
  exact lp_11 _ ((min f sz) - 1) (by omega) (fun k q1 q2 q3 => by omega) (Nat.lt_succ_self _) H locs (pick_P hP (is := [0, 1, 2]) rfl) (hD.sub [0, 1, 2] (by decide) rfl) hS ls (lv_sub hl [1, 2, 0] rfl)
end
