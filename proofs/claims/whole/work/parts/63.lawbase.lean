/-! ===== the law: its world ===== -/
abbrev GI (lt : Int) (mn : Int) (vs : Int) (pt : Int → Int) (tk : Int → Int) (mr : Int → Int) (od : Int → Int) (pl : Int → Int) (rm : Int → Int) (cd : Int → Int) (kp : Int) (kv : Int) (pn : Int) (le : Int) (ti : Int) (bc : Int → Int) (fp : Int → Int) (fc : Int → Int) (fp2 : Int → Int) (fc2 : Int → Int) (f0 : Int) (f1 : Int) (im : Int → Int) (kf : Int → Int) (alt : Int) (amn : Int) (apt : Int → Int) (atk : Int → Int) (amr : Int → Int) (aod : Int → Int) (apl : Int → Int) (arm : Int → Int) (acd : Int → Int) (blt : Int) (bmn : Int) (bpt : Int → Int) (btk : Int → Int) (bmr : Int → Int) (bod : Int → Int) (bpl : Int → Int) (brm : Int → Int) (bcd : Int → Int) (i : Int) : Prop := DI lt mn pt tk mr od pl rm cd ∧ BI lt mn vs pt tk mr od rm kp kv pn le ti bc fp fc ∧ (0 ≤ vs ∧ vs ≤ i) ∧ ((∀ j, 0 ≤ fp2 j ∧ fp2 j ≤ 9) ∧ (∀ j, 0 ≤ fc2 j ∧ fc2 j ≤ 63)) ∧ (Im1 f0 0 im alt amn apt atk amr aod apl arm acd ∧ Im1 f1 1 im blt bmn bpt btk bmr bod bpl brm bcd) ∧ (kf 0 = f0 ∧ kf 1 = f1) ∧ ∀ j, 0 ≤ kf j ∧ kf j ≤ 1
abbrev LW (cy : Nat → ClassId) (xo d e0 e1 ps bs fb pb wt fw mo : Nat → Nat) (f0 f1 lt mn vs alt amn avs blt bmn bvs cm kp kv pn le ti sz be cm2 sz2 be2 rn sn co bp ag pn2 : Int) (pt tk mr od pl rm cd apt atk amr aod apl arm acd bpt btk bmr bod bpl brm bcd or sa so g0 g1 g2 g3 ht ld bc fp fc orb sab sob g0b g1b g2b g3b htb ldb wq l0 l1 l2 li fp2 fc2 im kf rv sw gt sam ldm cq rq : Int → Int) : va_W := [oX xo d ps bs wt (f0 + 2 * f1), aq (cy 2) (xo 1) 2 (fun ix => if ix = 0 then e0 0 else e1 0), oD d lt mn vs, ai (cy 0) (d 1) 24 pt, ai (cy 0) (d 2) 24 tk, ai (cy 0) (d 3) 24 mr, ai (cy 0) (d 4) 10 od, ai (cy 0) (d 5) 10 pl, ai (cy 0) (d 6) 4 rm, ai (cy 0) (d 7) 10 cd, oD e0 alt amn avs, ai (cy 0) (e0 1) 24 apt, ai (cy 0) (e0 2) 24 atk, ai (cy 0) (e0 3) 24 amr, ai (cy 0) (e0 4) 10 aod, ai (cy 0) (e0 5) 10 apl, ai (cy 0) (e0 6) 4 arm, ai (cy 0) (e0 7) 10 acd, oD e1 blt bmn bvs, ai (cy 0) (e1 1) 24 bpt, ai (cy 0) (e1 2) 24 btk, ai (cy 0) (e1 3) 24 bmr, ai (cy 0) (e1 4) 10 bod, ai (cy 0) (e1 5) 10 bpl, ai (cy 0) (e1 6) 4 brm, ai (cy 0) (e1 7) 10 bcd, oP ps cm, ai (cy 0) (ps 1) 24 or, ai (cy 0) (ps 2) 24 sa, ai (cy 0) (ps 3) 10 so, aq (cy 3) (ps 4) 4 (fun ix => ps (5 + ix)), ai (cy 0) (ps 5) 24 g0, ai (cy 0) (ps 6) 24 g1, ai (cy 0) (ps 7) 24 g2, ai (cy 0) (ps 8) 24 g3, ai (cy 0) (ps 9) 4 ht, ai (cy 0) (ps 10) 4 ld, oB bs fb pb kp kv pn le ti, ai (cy 0) (bs 1) 10 bc, oF fb sz be, ai (cy 0) (fb 1) 10 fp, ai (cy 0) (fb 2) 10 fc, oP pb cm2, ai (cy 0) (pb 1) 24 orb, ai (cy 0) (pb 2) 24 sab, ai (cy 0) (pb 3) 10 sob, aq (cy 3) (pb 4) 4 (fun ix => pb (5 + ix)), ai (cy 0) (pb 5) 24 g0b, ai (cy 0) (pb 6) 24 g1b, ai (cy 0) (pb 7) 24 g2b, ai (cy 0) (pb 8) 24 g3b, ai (cy 0) (pb 9) 4 htb, ai (cy 0) (pb 10) 4 ldb, oW wt fw, ai (cy 0) (wt 1) 10 wq, aq (cy 3) (wt 2) 3 (fun ix => wt (3 + ix)), ai (cy 0) (wt 3) 4 l0, ai (cy 0) (wt 4) 4 l1, ai (cy 0) (wt 5) 4 l2, ai (cy 0) (wt 6) 4 li, oF fw sz2 be2, ai (cy 0) (fw 1) 10 fp2, ai (cy 0) (fw 2) 10 fc2, oM mo rn sn co bp ag pn2, ai (cy 0) (mo 1) 98 (stF lt mn pt tk mr od rm cd), ai (cy 0) (mo 2) 196 im, ai (cy 1) (mo 3) 2 kf, ai (cy 0) (mo 4) 24 rv, ai (cy 0) (mo 5) 24 sw, ai (cy 0) (mo 6) 24 gt, ai (cy 0) (mo 7) 24 sam, ai (cy 0) (mo 8) 4 ldm, ai (cy 0) (mo 9) 10 cq, ai (cy 0) (mo 10) 4 rq]
def sx (xs : Nat → Int32) (i : Int) : Int := (xs i.toNat).toInt
theorem sx_R (xs : Nat → Int32) (i : Int) : inR (sx xs i) := inR_of _
section RL9
variable {p : Program} {l : Launch} {e : Env} {R : Room} {s : State} {m : MethodId} {args : Array Value} {below : List Frame} {meth : Method} {c : Code} {H : Heap} {locs : List Loc} {cells slots : Nat} {Q : State → Prop}
variable {cc : ByteArray} {pc : Nat} {ls : Array Slot} {rest : List Value} {A : Nat → Prop} {H0 : Heap}
theorem r_sld (hx : p.tables.exec = Jvm.exec) (hb : c.code = cc) {b L : Nat} {xs : Nat → Int32} (hX : va_X b L xs s H0) (hbl : b < H0.size) (hbA : ¬ A b) (hS : va_S A H0 H locs) {i : Int} (hin : 0 ≤ i ∧ i < L ∧ i ≤ 2147483647) (hdg : decode cc pc = .ok (.iaload, 1))
    (kk : W p l e R s m args below meth c H locs cells slots Q (F0 m (pc + 1) ls (.int (iI (sx xs i)) :: rest))) : W p l e R s m args below meth c H locs cells slots Q (F0 m pc ls (.int (iI i) :: .ref b :: rest)) := by
  refine va_sld hx hb hX hbl hbA hS (iI_in hin.1 hin.2.1 hin.2.2) hdg ?_
  rw [iI_nat ⟨by omega, hin.2.2⟩, iI_of (xs i.toNat)]
  exact kk
theorem r_slen (hx : p.tables.exec = Jvm.exec) (hb : c.code = cc) {b L : Nat} {xs : Nat → Int32} (hX : va_X b L xs s H0) (hbl : b < H0.size) (hbA : ¬ A b) (hS : va_S A H0 H locs) (hdg : decode cc pc = .ok (.arraylength, 1))
    (kk : W p l e R s m args below meth c H locs cells slots Q (F0 m (pc + 1) ls (.int (iI (L : Int)) :: rest))) : W p l e R s m args below meth c H locs cells slots Q (F0 m pc ls (.ref b :: rest)) := by
  refine va_slen hx hb hX hbl hbA hS hdg ?_
  rw [iI_natC]
  exact kk
theorem r_same (hx : p.tables.exec = Jvm.exec) (hb : c.code = cc) {a : Int} {off : Int} (tgt : Nat) (hdg : decode cc pc = .ok (.if_icmp .eq off, 3)) (ht : (pc : Int) + off = (tgt : Int)) (kt : W p l e R s m args below meth c H locs cells slots Q (F0 m tgt ls rest)) : W p l e R s m args below meth c H locs cells slots Q (F0 m pc ls (.int (iI a) :: .int (iI a) :: rest)) := lv_icmp_eq (tgt := tgt) hx hb hdg ht (fun _ => kt) (fun z => absurd rfl z)
end RL9
theorem pw_pos {b : Int} (h : 1 ≤ b) : ∀ n : Nat, 1 ≤ pw b n
  | 0 => Int.le_refl _
  | n + 1 => Int.mul_pos (pw_pos h n) h
/-! THE CLAIM OUT OF ONE WALK OF THE LAW'S BODY. Your part is whole_start (and what it stands on); all else here is the same for every law, but numbers. -/
def R_law : String := "WalkPassesLaw"
def lw_P (b : Addr) (xs : List Int32) (args : Array Value) (s : State) : Prop := args = #[.ref b] ∧ s.IntsAt b xs ∧ xs.length ≤ 1536 ∧ (Jvm.Cond.and given_1 narrow_1).before args s = true
def lw_Q (_ : Array Value) (s : State) (o : Outcome) (t : State) : Prop := o = .returned (some (.int 1)) ∧ Framed s o t [] 600000 7302250
def lw_Z (below : List Frame) (a : Array Value) (s : State) : State → Prop := fun t => ∃ o, t.status = .running ∧ Ended t below o ∧ lw_Q a s o t
/-- the law's own end, with 1 on the stack, nothing written that was there before, its room as the claim has it -/
theorem lw_ret {p : Program} {l : Launch} {e : Env} {s : State} {m : MethodId} {below : List Frame} {meth : Method} {c : Code} {b : Nat} (hx : p.tables.exec = Jvm.exec) (hb : c.code = code) (hr : meth.sig.returnType = ret) (hlocks : meth.locks = false) {pc : Nat} {H : Heap} {ls : Array Slot} (hdg : decode code pc = .ok (.ireturn, 1)) : W p l e room_1 s m #[Value.ref b] below meth c H [] 600000 7302250 (lw_Z below #[Value.ref b] s) (F0 m pc ls [.int 1]) := by
  intro T hT X
  obtain ⟨fs, hret, hrun, hended, hW, hframe⟩ := X.leave (v := some (.int 1)) (hlocks := hlocks) (fun h => by rw [hr] at h; cases h)
  have hmeth' : T.vm.method? m = some meth := X.method'
  refine ⟨T.setFrames fs, ?_, .returned (some (.int 1)), hrun, hended, rfl, ⟨_, rfl⟩, hW, hframe⟩
  jvm_step X.here [X.here.top, hx, hb, hdg, hmeth', hr, ret, narrow_b1]
  (try refine ⟨rfl, ?_⟩); (try refine ⟨rfl, ?_⟩)
  first | (intro acts; rw [hret _ acts rfl rfl rfl]) | rw [hret _ _ rfl rfl rfl]
  exact Steps.refl _
/-- what holds at the law's entry: the machine, the code, the tables' words (any of lw_tbl by 'hts w (by decide +kernel)'), the script of L ints xs at the cell b, what the Statement gives of the start (any of its parts by flat_of_before) -/
def lw_At (p : Program) (s : State) (m : MethodId) (meth : Method) (c : Code) (b L : Nat) (xs : Nat → Int32) : Prop :=
  p.tables.exec = Jvm.exec ∧ c.code = code ∧ meth.sig.returnType = ret ∧ c.maxLocals = 4 ∧ s.vm.findClass R_law = some m.cls ∧ (∀ w ∈ lw_tbl, w.before #[Value.ref b] s = true) ∧ va_X b L xs s s.heap ∧ b < s.heap.size ∧ meth.locks = false ∧ (Jvm.Cond.and given_1 narrow_1).before #[Value.ref b] s = true
