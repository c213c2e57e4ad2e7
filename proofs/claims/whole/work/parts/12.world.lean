/-! ===== array classes, objects, the frame of a contract ===== -/
abbrev tyL (cy : Nat → ClassId) : List (ClassId × FieldType) := [(cy 0, .int), (cy 1, .boolean), (cy 2, .object RX1), (cy 3, .array .int)]
abbrev oD (d : Nat → Nat) (lt mn vs : Int) : Nat × va_E := (d 0, .inr (1, [.int (iI lt), .ref (d 1), .ref (d 2), .ref (d 3), .ref (d 4), .ref (d 5), .int (iI mn), .ref (d 6), .ref (d 7), .int (iI vs)]))
abbrev oP (p : Nat → Nat) (cm : Int) : Nat × va_E := (p 0, .inr (2, [.ref (p 1), .int (iI cm), .ref (p 2), .ref (p 3), .ref (p 4), .ref (p 9), .ref (p 10)]))
abbrev oF (f : Nat → Nat) (sz be : Int) : Nat × va_E := (f 0, .inr (3, [.ref (f 1), .int (iI sz), .int (iI be), .ref (f 2)]))
abbrev oB (b f p : Nat → Nat) (kp kv pn le ti : Int) : Nat × va_E := (b 0, .inr (0, [.ref (f 0), .ref (p 0), .int (iI kp), .int (iI kv), .int (iI pn), .int (iI le), .int (iI ti), .ref (b 1)]))
abbrev oW (w f : Nat → Nat) : Nat × va_E := (w 0, .inr (4, [.ref (f 0), .ref (w 1), .ref (w 2), .ref (w 6)]))
abbrev oX (x d p b w : Nat → Nat) (ki : Int) : Nat × va_E := (x 0, .inr (5, [.ref (d 0), .ref (x 1), .int (iI ki), .ref (p 0), .ref (b 0), .ref (w 0)]))
abbrev oM (m : Nat → Nat) (rn sn co bp ag pn : Int) : Nat × va_E := (m 0, .inr (6, [.ref (m 1), .ref (m 2), .ref (m 3), .ref (m 4), .int (iI rn), .ref (m 5), .int (iI sn), .ref (m 6), .ref (m 7), .ref (m 8), .ref (m 9), .int (iI co), .int (iI bp), .int (iI ag), .int (iI pn), .ref (m 10)]))
theorem ct_i {S : Type} {l : Launch} {y : MethodName} {wy ws' : List Cond} {rm : Room} {D : va_G} {tys : List (ClassId × FieldType)} {av : List Value} {wc : va_W} {sz : Nat} {post : Int → S → Prop} {w1 : S → va_W} {mc ms : Nat} {cc : ByteArray} {maxL : Nat} (hy : plainName y.cls = true) (hw : wy = Cond.code y cc maxL (some .int) :: ws') (hlen : (lg_sl av).length ≤ maxL)
    (body : ∀ (p : Program) (e : Env) (s : State) (m : MethodId) (args : Array Value) (below : List Frame) (meth : Method) (c : Code) (A : Nat → Prop) (Q : State → Prop) (H : Heap) (locs : List Loc) (ls : Array Slot), p.tables.exec = Jvm.exec → c.code = cc → c.maxLocals = maxL → s.vm.findClass y.cls = some m.cls → meth.name = y.name → (∀ w ∈ wy, w.before args s = true) → va_K D vwCl tys s → nestOK s → va_P D vwCl wc H → va_D A wc → va_S A s.heap H locs → (∀ q, s.heap.size ≤ q → A q) → lv_has ls maxL (lv_args 0 av) →
      (∀ {H : Heap} {locs : List Loc} {ws : va_W} {pc : Nat} {ls : Array Slot} {v : Int} (is : List Nat) (u : S), decode cc pc = .ok (.ireturn, 1) → va_P D vwCl ws H → va_D A ws → va_S A s.heap H locs → va_nd is = true → is.map (fun i => ws[i]?) = (w1 u).map some → post v u → W p l e rm s m args below meth c H locs mc ms Q (F0 m pc ls [.int (iI v)])) →
      W p l e rm s m args below meth c H locs 0 0 Q (F0 m 0 ls [])) : CtI l y wy rm D tys av wc sz post w1 mc ms := by
  refine Met.ofW (cc := cc) (maxL := maxL) (ret := some .int) hy hw ?_
  intro p e s m args below meth c s₁ B hml hv
  obtain ⟨rfl, hsz, hP, hK, hD0, hN⟩ := hv
  subst hsz
  rw [lg_entry_eq]
  exact body p e s m _ below meth c (va_A wc s.heap.size) _ s.heap [] _ B.exec B.bytes hml (findClass_of_methodNamed B.named) (name_of_methodNamed B.named B.method).1 (atoms_spec (ws := wy) B.pre) hK hN hP hD0.self va_S.rf (fun q h => Or.inr h) (lv_entry av hlen) (fun is u hd hP hD hS hn hs hp => e_i B.exec B.bytes B.returns B.notSynchronized hK hP hD hS is hn u hs hp hd rfl)
theorem ct_z {S : Type} {l : Launch} {y : MethodName} {wy ws' : List Cond} {rm : Room} {D : va_G} {tys : List (ClassId × FieldType)} {av : List Value} {wc : va_W} {sz : Nat} {post : Int → S → Prop} {w1 : S → va_W} {mc ms : Nat} {cc : ByteArray} {maxL : Nat} (hy : plainName y.cls = true) (hw : wy = Cond.code y cc maxL (some .boolean) :: ws') (hlen : (lg_sl av).length ≤ maxL)
    (body : ∀ (p : Program) (e : Env) (s : State) (m : MethodId) (args : Array Value) (below : List Frame) (meth : Method) (c : Code) (A : Nat → Prop) (Q : State → Prop) (H : Heap) (locs : List Loc) (ls : Array Slot), p.tables.exec = Jvm.exec → c.code = cc → c.maxLocals = maxL → s.vm.findClass y.cls = some m.cls → meth.name = y.name → (∀ w ∈ wy, w.before args s = true) → va_K D vwCl tys s → nestOK s → va_P D vwCl wc H → va_D A wc → va_S A s.heap H locs → (∀ q, s.heap.size ≤ q → A q) → lv_has ls maxL (lv_args 0 av) →
      (∀ {H : Heap} {locs : List Loc} {ws : va_W} {pc : Nat} {ls : Array Slot} {v : Int} (is : List Nat) (u : S), decode cc pc = .ok (.ireturn, 1) → va_P D vwCl ws H → va_D A ws → va_S A s.heap H locs → va_nd is = true → is.map (fun i => ws[i]?) = (w1 u).map some → (v = 0 ∨ v = 1) → post v u → W p l e rm s m args below meth c H locs mc ms Q (F0 m pc ls [.int (iI v)])) →
      W p l e rm s m args below meth c H locs 0 0 Q (F0 m 0 ls [])) : CtI l y wy rm D tys av wc sz post w1 mc ms := by
  refine Met.ofW (cc := cc) (maxL := maxL) (ret := some .boolean) hy hw ?_
  intro p e s m args below meth c s₁ B hml hv
  obtain ⟨rfl, hsz, hP, hK, hD0, hN⟩ := hv
  subst hsz
  rw [lg_entry_eq]
  exact body p e s m _ below meth c (va_A wc s.heap.size) _ s.heap [] _ B.exec B.bytes hml (findClass_of_methodNamed B.named) (name_of_methodNamed B.named B.method).1 (atoms_spec (ws := wy) B.pre) hK hN hP hD0.self va_S.rf (fun q h => Or.inr h) (lv_entry av hlen) (fun is u hd hP hD hS hn hs hv hp => e_z B.exec B.bytes B.returns B.notSynchronized hK hP hD hS is hn hv u hs hp hd rfl)
theorem ct_v {S : Type} {l : Launch} {y : MethodName} {wy ws' : List Cond} {rm : Room} {D : va_G} {tys : List (ClassId × FieldType)} {av : List Value} {wc : va_W} {sz : Nat} {post : S → Prop} {w1 : S → va_W} {mc ms : Nat} {cc : ByteArray} {maxL : Nat} (hy : plainName y.cls = true) (hw : wy = Cond.code y cc maxL none :: ws') (hlen : (lg_sl av).length ≤ maxL)
    (body : ∀ (p : Program) (e : Env) (s : State) (m : MethodId) (args : Array Value) (below : List Frame) (meth : Method) (c : Code) (A : Nat → Prop) (Q : State → Prop) (H : Heap) (locs : List Loc) (ls : Array Slot), p.tables.exec = Jvm.exec → c.code = cc → c.maxLocals = maxL → s.vm.findClass y.cls = some m.cls → meth.name = y.name → (∀ w ∈ wy, w.before args s = true) → va_K D vwCl tys s → nestOK s → va_P D vwCl wc H → va_D A wc → va_S A s.heap H locs → (∀ q, s.heap.size ≤ q → A q) → lv_has ls maxL (lv_args 0 av) →
      (∀ {H : Heap} {locs : List Loc} {ws : va_W} {pc : Nat} {ls : Array Slot} (is : List Nat) (u : S), decode cc pc = .ok (.return_, 1) → va_P D vwCl ws H → va_D A ws → va_S A s.heap H locs → va_nd is = true → is.map (fun i => ws[i]?) = (w1 u).map some → post u → W p l e rm s m args below meth c H locs mc ms Q (F0 m pc ls [])) →
      W p l e rm s m args below meth c H locs 0 0 Q (F0 m 0 ls [])) : CtV l y wy rm D tys av wc sz post w1 mc ms := by
  refine Met.ofW (cc := cc) (maxL := maxL) (ret := none) hy hw ?_
  intro p e s m args below meth c s₁ B hml hv
  obtain ⟨rfl, hsz, hP, hK, hD0, hN⟩ := hv
  subst hsz
  rw [lg_entry_eq]
  exact body p e s m _ below meth c (va_A wc s.heap.size) _ s.heap [] _ B.exec B.bytes hml (findClass_of_methodNamed B.named) (name_of_methodNamed B.named B.method).1 (atoms_spec (ws := wy) B.pre) hK hN hP hD0.self va_S.rf (fun q h => Or.inr h) (lv_entry av hlen) (fun is u hd hP hD hS hn hs hp => e_v B.exec B.bytes B.returns B.notSynchronized hK hP hD hS is hn u hs hp hd rfl)
/-! more rows -/
def zand (a b : Int) : Int := (iI a &&& iI b).toInt
def zor (a b : Int) : Int := (iI a ||| iI b).toInt
def zxor (a b : Int) : Int := (iI a ^^^ iI b).toInt
def zshl (a b : Int) : Int := (iI a <<< (iI b &&& 31)).toInt
def zshr (a b : Int) : Int := (iI a >>> (iI b &&& 31)).toInt
def cpy (F G : Int → Int) (sp dp n : Int) : Int → Int := fun j => if dp ≤ j ∧ j < dp + n then F (sp + (j - dp)) else G j
theorem iI_natC (n : Nat) : Int32.ofNat n = iI (n : Int) := by
  apply Int32.toInt_inj.1
  show (Int32.ofNat n).toInt = (Int32.ofInt (n : Int)).toInt
  first | rfl | simp
theorem cI_cpy {F G : Int → Int} {sp dp n : Int} (h1 : 0 ≤ sp) (h2 : 0 ≤ dp) (h3 : 0 ≤ n) (k1 : sp ≤ 2147483647) (k2 : dp ≤ 2147483647) (k3 : n ≤ 2147483647) : va_cpy (cI F) (cI G) (iI sp).toNatClampNeg (iI dp).toNatClampNeg (iI n).toNatClampNeg = cI (cpy F G sp dp n) := by
  funext j
  rw [iI_nat ⟨by omega, k1⟩, iI_nat ⟨by omega, k2⟩, iI_nat ⟨by omega, k3⟩]
  show (if dp.toNat ≤ j ∧ j < dp.toNat + n.toNat then iI (F ((sp.toNat + (j - dp.toNat) : Nat) : Int)) else iI (G j)) = iI (if dp ≤ (j : Int) ∧ (j : Int) < dp + n then F (sp + (j - dp)) else G j)
  by_cases e : dp ≤ (j : Int) ∧ (j : Int) < dp + n
  · rw [if_pos e, if_pos (by omega), show ((sp.toNat + (j - dp.toNat) : Nat) : Int) = sp + (j - dp) by omega]
  · rw [if_neg e, if_neg (by omega)]
section RW2
variable {p : Program} {l : Launch} {e : Env} {R : Room} {s : State} {m : MethodId} {args : Array Value} {below : List Frame} {meth : Method} {c : Code} {H : Heap} {locs : List Loc} {cells slots : Nat} {Q : State → Prop}
variable {cc : ByteArray} {pc : Nat} {ls : Array Slot} {rest : List Value}
theorem r_and (hx : p.tables.exec = Jvm.exec) (hb : c.code = cc) {a b : Int} (hdg : decode cc pc = .ok (.iand, 1)) (k : W p l e R s m args below meth c H locs cells slots Q (F0 m (pc + 1) ls (.int (iI (zand a b)) :: rest))) : W p l e R s m args below meth c H locs cells slots Q (F0 m pc ls (.int (iI b) :: .int (iI a) :: rest)) := lv_iand hx hb hdg (by rw [iI_of (iI a &&& iI b)]; exact k)
theorem r_or (hx : p.tables.exec = Jvm.exec) (hb : c.code = cc) {a b : Int} (hdg : decode cc pc = .ok (.ior, 1)) (k : W p l e R s m args below meth c H locs cells slots Q (F0 m (pc + 1) ls (.int (iI (zor a b)) :: rest))) : W p l e R s m args below meth c H locs cells slots Q (F0 m pc ls (.int (iI b) :: .int (iI a) :: rest)) := lv_ior hx hb hdg (by rw [iI_of (iI a ||| iI b)]; exact k)
theorem r_xor (hx : p.tables.exec = Jvm.exec) (hb : c.code = cc) {a b : Int} (hdg : decode cc pc = .ok (.ixor, 1)) (k : W p l e R s m args below meth c H locs cells slots Q (F0 m (pc + 1) ls (.int (iI (zxor a b)) :: rest))) : W p l e R s m args below meth c H locs cells slots Q (F0 m pc ls (.int (iI b) :: .int (iI a) :: rest)) := lv_ixor hx hb hdg (by rw [iI_of (iI a ^^^ iI b)]; exact k)
theorem r_shl (hx : p.tables.exec = Jvm.exec) (hb : c.code = cc) {a b : Int} (hdg : decode cc pc = .ok (.ishl, 1)) (k : W p l e R s m args below meth c H locs cells slots Q (F0 m (pc + 1) ls (.int (iI (zshl a b)) :: rest))) : W p l e R s m args below meth c H locs cells slots Q (F0 m pc ls (.int (iI b) :: .int (iI a) :: rest)) := lv_ishl hx hb hdg (by rw [iI_of (iI a <<< (iI b &&& 31))]; exact k)
theorem r_shr (hx : p.tables.exec = Jvm.exec) (hb : c.code = cc) {a b : Int} (hdg : decode cc pc = .ok (.ishr, 1)) (k : W p l e R s m args below meth c H locs cells slots Q (F0 m (pc + 1) ls (.int (iI (zshr a b)) :: rest))) : W p l e R s m args below meth c H locs cells slots Q (F0 m pc ls (.int (iI b) :: .int (iI a) :: rest)) := lv_ishr hx hb hdg (by rw [iI_of (iI a >>> (iI b &&& 31))]; exact k)
theorem r_min {own : String} {index : Nat} (hx : p.tables.exec = Jvm.exec) (hb : c.code = cc) (hml : c.maxLocals = ls.size) (hown : s.vm.findClass own = some m.cls) (hlink : (Cond.methodLink own index Lib.Math.min.name).before args s = true) (hstat : (Cond.static Lib.Math.min.name).before args s = true) (hini : (Cond.initialized "java/lang/Math").before args s = true) (hcode : (Cond.code Lib.Math.min.name Lib.Math.min.code 2 (some .int)).before args s = true)
    (hframes : 1 ≤ R.frames) (hlocals : (rest.map fun v => v.category).sum + 13 ≤ R.locals) (hc : cells ≤ R.cells) (hs : slots ≤ R.slots) {a b : Int} (ha : inR a) (hbb : inR b) (hdg : decode cc pc = .ok (.invokestatic index, 3))
    (kk : W p l e R s m args below meth c H locs cells slots Q (F0 m (pc + 3) ls (.int (iI (min a b)) :: rest))) : W p l e R s m args below meth c H locs cells slots Q (F0 m pc ls (.int (iI b) :: .int (iI a) :: rest)) := by
  refine va_mmin hx hb hml hown hlink hstat hini hcode hframes hlocals hc hs hdg ?_
  have h : (if iI b < iI a then iI b else iI a) = iI (min a b) := by
    by_cases q : b < a
    · rw [if_pos ((iI_lt hbb ha).mpr q), show min a b = b by omega]
    · rw [if_neg (fun z => q ((iI_lt hbb ha).mp z)), show min a b = a by omega]
  rw [h]
  exact kk
variable {D : va_G} {cl : List vw_C} {A : Nat → Prop} {a : Nat} {tys : List (ClassId × FieldType)} {ws : va_W} {H0 : Heap}
theorem r_len (hx : p.tables.exec = Jvm.exec) (hb : c.code = cc) (hK : va_K D cl tys s) (hP : va_P D cl ws H) (q0 t0 : Nat) {cA : ClassId} {n : Nat} {F : Int → Int} (ha : ws[q0]? = some (ai cA a n F)) {ty : FieldType} (ht : tys[t0]? = some (cA, ty)) (hdg : decode cc pc = .ok (.arraylength, 1))
    (kk : W p l e R s m args below meth c H locs cells slots Q (F0 m (pc + 1) ls (.int (iI (n : Int)) :: rest))) : W p l e R s m args below meth c H locs cells slots Q (F0 m pc ls (.ref a :: rest)) := va_alen hx hb hK hP q0 t0 ha ht (iI_natC n) hdg kk
theorem r_zald (hx : p.tables.exec = Jvm.exec) (hb : c.code = cc) (hK : va_K D cl tys s) (hP : va_P D cl ws H) (q0 : Nat) {cA : ClassId} {n : Nat} {F : Int → Int} (ha : ws[q0]? = some (ai cA a n F)) (ht : tys[1]? = some (cA, .boolean)) {i : Int} (hin : 0 ≤ i ∧ i < n ∧ i ≤ 2147483647) (hdg : decode cc pc = .ok (.baload, 1))
    (kk : W p l e R s m args below meth c H locs cells slots Q (F0 m (pc + 1) ls (.int (iI (F i)) :: rest))) : W p l e R s m args below meth c H locs cells slots Q (F0 m pc ls (.int (iI i) :: .ref a :: rest)) :=
  va_zald hx hb hK hP q0 1 ha ht (iI_in hin.1 hin.2.1 hin.2.2) hdg (by rw [cI_at hin.1 hin.2.2]; exact kk)
theorem r_zast (hx : p.tables.exec = Jvm.exec) (hb : c.code = cc) (hK : va_K D cl tys s) (hP : va_P D cl ws H) (hD : va_D A ws) (hS : va_S A H0 H locs) (q0 : Nat) {cA : ClassId} {n : Nat} {F : Int → Int} (ha : ws[q0]? = some (ai cA a n F)) (ht : tys[1]? = some (cA, .boolean)) {i v : Int} (hin : 0 ≤ i ∧ i < n ∧ i ≤ 2147483647) (hv : v = 0 ∨ v = 1) (hdg : decode cc pc = .ok (.bastore, 1))
    (kk : ∀ (H1 : Heap) (locs1 : List Loc), va_P D cl (ws.set q0 (ai cA a n (ud F i v))) H1 → va_D A (ws.set q0 (ai cA a n (ud F i v))) → va_S A H0 H1 locs1 → W p l e R s m args below meth c H1 locs1 cells slots Q (F0 m (pc + 1) ls rest)) : W p l e R s m args below meth c H locs cells slots Q (F0 m pc ls (.int (iI v) :: .int (iI i) :: .ref a :: rest)) := by
  refine va_zast hx hb hK hP hD hS q0 1 ha ht (iI_in hin.1 hin.2.1 hin.2.2) hdg fun H1 locs1 h1 h2 h3 => ?_
  have hq : vp_nar .boolean (iI v) = iI v := by rcases hv with rfl | rfl <;> decide
  rw [hq, cI_ud hin.1 hin.2.2] at h1 h2
  exact kk H1 locs1 h1 h2 h3
theorem r_copy {own : String} {index : Nat} (hx : p.tables.exec = Jvm.exec) (hb : c.code = cc) (hml : c.maxLocals = ls.size) (hown : s.vm.findClass own = some m.cls) (hlink : (Cond.methodLink own index arraycopyName).before args s = true) (hnat : (Cond.native arraycopyName).before args s = true) (hstat : (Cond.static arraycopyName).before args s = true) (hini : (Cond.initialized "java/lang/System").before args s = true)
    (hK : va_K D cl tys s) (hP : va_P D cl ws H) (hD : va_D A ws) (hS : va_S A H0 H locs) (q0 q1 : Nat) {a0 : Nat} {cA : ClassId} {n0 n1 : Nat} {F G : Int → Int} (ha0 : ws[q0]? = some (ai cA a0 n0 F)) (ha1 : ws[q1]? = some (ai cA a n1 G)) (ht : tys[0]? = some (cA, .int))
    {sp dp n : Int} (h : 0 ≤ sp ∧ 0 ≤ dp ∧ 0 ≤ n ∧ (sp + n ≤ n0 ∧ sp + n ≤ 2147483647) ∧ (dp + n ≤ n1 ∧ dp + n ≤ 2147483647))
    (hframes : 1 ≤ R.frames) (hlocals : (rest.map fun v => v.category).sum + (nativeFrameWords "java/lang/System" "arraycopy" 5 + 11) ≤ R.locals) (hdg : decode cc pc = .ok (.invokestatic index, 3))
    (kk : ∀ (H1 : Heap) (locs1 : List Loc), va_P D cl (ws.set q1 (ai cA a n1 (cpy F G sp dp n))) H1 → va_D A (ws.set q1 (ai cA a n1 (cpy F G sp dp n))) → va_S A H0 H1 locs1 → W p l e R s m args below meth c H1 locs1 cells slots Q (F0 m (pc + 3) ls rest)) : W p l e R s m args below meth c H locs cells slots Q (F0 m pc ls (.int (iI n) :: .int (iI dp) :: .ref a :: .int (iI sp) :: .ref a0 :: rest)) := by
  obtain ⟨g1, g2, g3, g4, g5⟩ := h
  have ng : ∀ z : Int, 0 ≤ z → z ≤ 2147483647 → ¬ iI z < 0 := fun z q1 q2 q => by
    rw [iI_zero, iI_lt ⟨by omega, q2⟩ ⟨by omega, by omega⟩] at q
    omega
  have r1 : inR sp := ⟨by omega, by omega⟩
  have r2 : inR dp := ⟨by omega, by omega⟩
  have r3 : inR n := ⟨by omega, by omega⟩
  refine va_copyi hx hb hml hown hlink hnat hstat hini hK hP hD hS q0 q1 0 0 ha0 ha1 ht ht rfl (ng _ g1 r1.2) (ng _ g2 r2.2) (ng _ g3 r3.2) (by rw [iI_nat r1, iI_nat r3]; omega) (by rw [iI_nat r2, iI_nat r3]; omega) (fun _ _ => rfl) hframes hlocals hdg fun H1 locs1 h1 h2 h3 => ?_
  rw [cI_cpy g1 g2 g3 r1.2 r2.2 r3.2] at h1 h2
  exact kk H1 locs1 h1 h2 h3
/-- a row out of a row of rows -/
theorem r_ald2 (hx : p.tables.exec = Jvm.exec) (hb : c.code = cc) (hK : va_K D cl tys s) (hP : va_P D cl ws H) (q0 : Nat) {cA : ClassId} {n : Nat} {r : Nat → Nat} (ha : ws[q0]? = some (aq cA a n r)) (ht : tys[3]? = some (cA, .array .int)) {i : Int} (hin : 0 ≤ i ∧ i < n ∧ i ≤ 2147483647) (hdg : decode cc pc = .ok (.aaload, 1))
    (kk : W p l e R s m args below meth c H locs cells slots Q (F0 m (pc + 1) ls (.ref (r i.toNat) :: rest))) : W p l e R s m args below meth c H locs cells slots Q (F0 m pc ls (.int (iI i) :: .ref a :: rest)) := by
  have hv := iI_in hin.1 hin.2.1 hin.2.2
  have hlt : (iI i).toNatClampNeg < n := Nat.not_le.mp fun q => hv (Or.inr q)
  refine W.aald (v := va_rf (some (r (iI i).toNatClampNeg))) (ty := .array .int) hx hb (hP q0 _ ha) ((hK.2 3 _ ht).1 n (fun j => va_rf (some (r j)))) rfl (fun q => by cases q) (by show ¬ (iI i < 0 ∨ (arrV _ _ _).slots.size ≤ _); rw [arrV_size]; exact hv) (by show (arrV _ _ _).slots[_]? = _; rw [arrV_read _ _ hlt]) rfl rfl hdg ?_
  rw [iI_nat ⟨by omega, hin.2.2⟩]
  exact kk
theorem r_aldo (hx : p.tables.exec = Jvm.exec) (hb : c.code = cc) (hK : va_K D cl tys s) (hP : va_P D cl ws H) (q0 : Nat) {cA : ClassId} {n : Nat} {r : Nat → Nat} (ha : ws[q0]? = some (aq cA a n r)) (ht : tys[2]? = some (cA, .object RX1)) {i : Int} (hin : 0 ≤ i ∧ i < n ∧ i ≤ 2147483647) (hdg : decode cc pc = .ok (.aaload, 1))
    (kk : W p l e R s m args below meth c H locs cells slots Q (F0 m (pc + 1) ls (.ref (r i.toNat) :: rest))) : W p l e R s m args below meth c H locs cells slots Q (F0 m pc ls (.int (iI i) :: .ref a :: rest)) := by
  refine va_aldq hx hb hK hP q0 2 ha ht (iI_in hin.1 hin.2.1 hin.2.2) hdg ?_
  rw [iI_nat ⟨by omega, hin.2.2⟩]
  exact kk
end RW2
