/-! The state of both systems as one value, and rows that the walks use. -/
abbrev hg_S : Type := (Nat → Nat) × (Nat → Nat → Int32) × (Nat → Nat → Int64) × Int64
/-- scalars: 0 wells, 1 turbines, 2 the share that is given back, 3 the box, 4 years told, 5 candidates -/
def hg_n (S : hg_S) (k : Nat) : Nat := S.1 k
/-- int rows: 0 kind, 1 box, 2 age, 3 open, 4 corners, 5 least, 6 rate, 7 most, 8 on, 9 leak, 10 feed, 11 shares, 12 put, 13 cost, 14 year, 15 steam, 16 promise -/
def hg_i (S : hg_S) (k : Nat) : Nat → Int32 := S.2.1 k
/-- long rows: 0 mass, 1 heat, 2 sums -/
def hg_l (S : hg_S) (k : Nat) : Nat → Int64 := S.2.2.1 k
def hg_t (S : hg_S) : Int64 := S.2.2.2
def hg_sn (S : hg_S) (k v : Nat) : hg_S := (va_up S.1 k v, S.2)
def hg_si (S : hg_S) (k : Nat) (f : Nat → Int32) : hg_S := (S.1, va_up S.2.1 k f, S.2.2)
def hg_sl (S : hg_S) (k : Nat) (f : Nat → Int64) : hg_S := (S.1, S.2.1, va_up S.2.2.1 k f, S.2.2.2)
def hg_st (S : hg_S) (v : Int64) : hg_S := (S.1, S.2.1, S.2.2.1, v)
/-- the system's cells: six objects, then their rows -/
def xW (o : Nat → Nat) (cI cJ cZ : ClassId) (S : hg_S) : va_W := [
  (o 0, .inr (5, [.ref (o 1), .ref (o 2), .ref (o 3), .ref (o 4), .ref (o 5), .long (hg_t S)])),
  (o 1, .inr (4, [.int (nI (hg_n S 0)), .ref (o 6), .ref (o 7), .ref (o 8), .ref (o 9), .ref (o 10)])),
  (o 2, .inr (3, [.int (nI (hg_n S 1)), .ref (o 11), .ref (o 12), .ref (o 13), .ref (o 14)])),
  (o 3, .inr (0, [.ref (o 15), .ref (o 16), .ref (o 17), .ref (o 18), .int (nI (hg_n S 2)), .int (nI (hg_n S 3)), .ref (o 19)])),
  (o 4, .inr (1, [.int (nI (hg_n S 4)), .ref (o 20), .ref (o 21)])),
  (o 5, .inr (2, [.int (nI (hg_n S 5)), .ref (o 22), .ref (o 23), .ref (o 24), .ref (o 25)])),
  (o 6, .inl (cI, 8, .inl (hg_i S 0))), (o 7, .inl (cI, 8, .inl (hg_i S 1))), (o 8, .inl (cI, 8, .inl (hg_i S 2))), (o 9, .inl (cZ, 8, .inl (hg_i S 3))), (o 10, .inl (cI, 40, .inl (hg_i S 4))),
  (o 11, .inl (cI, 4, .inl (hg_i S 5))), (o 12, .inl (cI, 4, .inl (hg_i S 6))), (o 13, .inl (cI, 4, .inl (hg_i S 7))), (o 14, .inl (cZ, 4, .inl (hg_i S 8))),
  (o 15, .inl (cJ, 4, .inr (.inl (hg_l S 0)))), (o 16, .inl (cJ, 4, .inr (.inl (hg_l S 1)))), (o 17, .inl (cI, 4, .inl (hg_i S 10))), (o 18, .inl (cI, 3, .inl (hg_i S 9))), (o 19, .inl (cJ, 9, .inr (.inl (hg_l S 2)))),
  (o 20, .inl (cI, 6, .inl (hg_i S 11))), (o 21, .inl (cI, 12, .inl (hg_i S 12))),
  (o 22, .inl (cI, 8, .inl (hg_i S 13))), (o 23, .inl (cI, 8, .inl (hg_i S 14))), (o 24, .inl (cI, 8, .inl (hg_i S 15))), (o 25, .inl (cI, 6, .inl (hg_i S 16)))]
/-- the reference's cells: its object, then its rows -/
def mW (o : Nat → Nat) (cI cJ cZ : ClassId) (S : hg_S) : va_W := [
  (o 0, .inr (6, [.int (nI (hg_n S 0)), .ref (o 1), .ref (o 2), .ref (o 3), .ref (o 4), .ref (o 5), .long (hg_t S), .int (nI (hg_n S 1)), .ref (o 6), .ref (o 7), .ref (o 8), .ref (o 9), .ref (o 10), .ref (o 11), .ref (o 12), .ref (o 13), .int (nI (hg_n S 2)), .int (nI (hg_n S 3)), .ref (o 14), .ref (o 15), .int (nI (hg_n S 4)), .ref (o 16), .int (nI (hg_n S 5)), .ref (o 17), .ref (o 18), .ref (o 19), .ref (o 20)])),
  (o 1, .inl (cI, 8, .inl (hg_i S 0))), (o 2, .inl (cI, 8, .inl (hg_i S 1))), (o 3, .inl (cI, 8, .inl (hg_i S 2))), (o 4, .inl (cZ, 8, .inl (hg_i S 3))), (o 5, .inl (cI, 40, .inl (hg_i S 4))),
  (o 6, .inl (cI, 4, .inl (hg_i S 5))), (o 7, .inl (cI, 4, .inl (hg_i S 6))), (o 8, .inl (cI, 4, .inl (hg_i S 7))), (o 9, .inl (cZ, 4, .inl (hg_i S 8))),
  (o 10, .inl (cJ, 4, .inr (.inl (hg_l S 0)))), (o 11, .inl (cJ, 4, .inr (.inl (hg_l S 1)))), (o 12, .inl (cI, 3, .inl (hg_i S 9))), (o 13, .inl (cI, 4, .inl (hg_i S 10))), (o 14, .inl (cJ, 9, .inr (.inl (hg_l S 2)))),
  (o 15, .inl (cI, 6, .inl (hg_i S 11))), (o 16, .inl (cI, 12, .inl (hg_i S 12))),
  (o 17, .inl (cI, 8, .inl (hg_i S 13))), (o 18, .inl (cI, 8, .inl (hg_i S 14))), (o 19, .inl (cI, 8, .inl (hg_i S 15))), (o 20, .inl (cI, 6, .inl (hg_i S 16)))]
abbrev hg_ty (cI cJ cZ : ClassId) : List (ClassId × FieldType) := [(cI, .int), (cJ, .long), (cZ, .boolean)]
/-- a picture that is only read -/
def hg_R (D : va_G) (ws : va_W) (tys : List (ClassId × FieldType)) (U : State) : Prop := va_P D vwCl ws U.heap ∧ va_K D vwCl tys U
/-- a picture that is written -/
def hg_Wr (D : va_G) (ws : va_W) (tys : List (ClassId × FieldType)) (sz : Nat) (U : State) : Prop := U.heap.size = sz ∧ va_P D vwCl ws U.heap ∧ va_K D vwCl tys U ∧ va_D (fun _ => True) ws
def hg_At (D : va_G) (ws : va_W) (A : Nat → Prop) (t : State) : Prop := va_P D vwCl ws t.heap ∧ va_D A ws
theorem h_start {l : Launch} {y : MethodName} {ws ws' : List Cond} {rm : Room} {Qc : Array Value → State → Outcome → State → Prop} {mc ms : Nat} {free : Addr → Prop} {cc : ByteArray} {maxL : Nat} {ret : Option FieldType} {av : List Value} {Pic : State → Prop}
    (hy : plainName y.cls = true) (hw : ws = Cond.code y cc maxL ret :: ws') (hn : (lg_sl av).length ≤ maxL)
    (body : ∀ (p : Program) (e : Env) (s : State) (m : MethodId) (args : Array Value) (below : List Frame) (meth : Method) (c : Code) (ls : Array Slot), p.tables.exec = Jvm.exec → c.code = cc → meth.sig.returnType = ret → (∀ w ∈ ws, w.before args s = true) → s.vm.findClass y.cls = some m.cls → meth.locks = false → c.maxLocals = maxL → meth.name = y.name → Pic s → lv_has ls maxL (lv_args 0 av) →
      W p l e rm s m args below meth c s.heap [] 0 0 (MQ below Qc args s mc ms free) (F0 m 0 ls [])) : Met l y ws rm (va_Pc av Pic) Qc mc ms free := by
  refine Met.ofW (cc := cc) (maxL := maxL) (ret := ret) hy hw ?_
  intro p e s m args below meth c s₁ B hml hv
  obtain ⟨rfl, hpic⟩ := hv
  rw [lg_entry_eq]
  exact body p e s m _ below meth c _ B.exec B.bytes B.returns (atoms_spec (ws := ws) B.pre) (findClass_of_methodNamed B.named) B.notSynchronized hml ((name_of_methodNamed B.named B.method).1) hpic (lv_entry av hn)
section HG
variable {p : Program} {l : Launch} {e : Env} {R : Room} {s : State} {m : MethodId} {args : Array Value} {below : List Frame} {meth : Method} {c : Code} {H : Heap} {locs : List Loc} {cells slots : Nat} {Q : State → Prop}
variable {cc : ByteArray} {pc : Nat} {ls : Array Slot} {rest st0 : List Value} {D : va_G} {cl : List vw_C} {A : Nat → Prop} {a : Nat} {tys : List (ClassId × FieldType)} {ws ws' : va_W} {H0 : Heap}
theorem h_topi {x y : Int32} (h : x = y) (k : W p l e R s m args below meth c H locs cells slots Q (F0 m pc ls (.int y :: rest))) : W p l e R s m args below meth c H locs cells slots Q (F0 m pc ls (.int x :: rest)) := by subst h; exact k
theorem h_topl {x y : Int64} (h : x = y) (k : W p l e R s m args below meth c H locs cells slots Q (F0 m pc ls (.long y :: rest))) : W p l e R s m args below meth c H locs cells slots Q (F0 m pc ls (.long x :: rest)) := by subst h; exact k
theorem h_iald (hexec : p.tables.exec = Jvm.exec) (hb : c.code = cc) (hK : va_K D cl tys s) (hP : va_P D cl ws H) (q0 t0 : Nat) {cA : ClassId} {n : Nat} {f : Nat → Int32} (ha : ws[q0]? = some (a, .inl (cA, n, .inl f))) (ht : tys[t0]? = some (cA, .int)) {i : Int32} (k : Nat) (hi : i = nI k) (hk : k < n) (hn : n < 2 ^ 31) (hdg : decode cc pc = .ok (.iaload, 1))
    (kk : W p l e R s m args below meth c H locs cells slots Q (F0 m (pc + 1) ls (.int (f k) :: rest))) : W p l e R s m args below meth c H locs cells slots Q (F0 m pc ls (.int i :: .ref a :: rest)) := by
  subst hi
  refine va_iald hexec hb hK hP q0 t0 ha ht (vp_in_nI hk hn) hdg ?_
  rw [nI_clamp (Nat.lt_trans hk hn)]; exact kk
theorem h_zald (hexec : p.tables.exec = Jvm.exec) (hb : c.code = cc) (hK : va_K D cl tys s) (hP : va_P D cl ws H) (q0 t0 : Nat) {cA : ClassId} {n : Nat} {f : Nat → Int32} (ha : ws[q0]? = some (a, .inl (cA, n, .inl f))) (ht : tys[t0]? = some (cA, .boolean)) {i : Int32} (k : Nat) (hi : i = nI k) (hk : k < n) (hn : n < 2 ^ 31) (hdg : decode cc pc = .ok (.baload, 1))
    (kk : W p l e R s m args below meth c H locs cells slots Q (F0 m (pc + 1) ls (.int (f k) :: rest))) : W p l e R s m args below meth c H locs cells slots Q (F0 m pc ls (.int i :: .ref a :: rest)) := by
  subst hi
  refine va_zald hexec hb hK hP q0 t0 ha ht (vp_in_nI hk hn) hdg ?_
  rw [nI_clamp (Nat.lt_trans hk hn)]; exact kk
theorem h_lald (hexec : p.tables.exec = Jvm.exec) (hb : c.code = cc) (hK : va_K D cl tys s) (hP : va_P D cl ws H) (q0 t0 : Nat) {cA : ClassId} {n : Nat} {f : Nat → Int64} (ha : ws[q0]? = some (a, .inl (cA, n, .inr (.inl f)))) (ht : tys[t0]? = some (cA, .long)) {i : Int32} (k : Nat) (hi : i = nI k) (hk : k < n) (hn : n < 2 ^ 31) (hdg : decode cc pc = .ok (.laload, 1))
    (kk : W p l e R s m args below meth c H locs cells slots Q (F0 m (pc + 1) ls (.long (f k) :: rest))) : W p l e R s m args below meth c H locs cells slots Q (F0 m pc ls (.int i :: .ref a :: rest)) := by
  subst hi
  refine va_lald hexec hb hK hP q0 t0 ha ht (vp_in_nI hk hn) hdg ?_
  rw [nI_clamp (Nat.lt_trans hk hn)]; exact kk
theorem h_iast (hexec : p.tables.exec = Jvm.exec) (hb : c.code = cc) (hK : va_K D cl tys s) (hP : va_P D cl ws H) (hD : va_D A ws) (hS : va_S A H0 H locs) (q0 t0 : Nat) {cA : ClassId} {n : Nat} {f : Nat → Int32} (ha : ws[q0]? = some (a, .inl (cA, n, .inl f))) (ht : tys[t0]? = some (cA, .int)) {i : Int32} {x : Int32} (k : Nat) (hi : i = nI k) (hk : k < n) (hn : n < 2 ^ 31) (hw : ws.set q0 (a, .inl (cA, n, .inl (upd f k x))) = ws') (hdg : decode cc pc = .ok (.iastore, 1))
    (kk : ∀ (H1 : Heap) (locs1 : List Loc), va_P D cl ws' H1 → va_D A ws' → va_S A H0 H1 locs1 → W p l e R s m args below meth c H1 locs1 cells slots Q (F0 m (pc + 1) ls rest)) : W p l e R s m args below meth c H locs cells slots Q (F0 m pc ls (.int x :: .int i :: .ref a :: rest)) := by
  subst hi
  refine va_iast hexec hb hK hP hD hS q0 t0 ha ht (vp_in_nI hk hn) hdg ?_
  rw [nI_clamp (Nat.lt_trans hk hn), hw]; exact kk
theorem h_zast (hexec : p.tables.exec = Jvm.exec) (hb : c.code = cc) (hK : va_K D cl tys s) (hP : va_P D cl ws H) (hD : va_D A ws) (hS : va_S A H0 H locs) (q0 t0 : Nat) {cA : ClassId} {n : Nat} {f : Nat → Int32} (ha : ws[q0]? = some (a, .inl (cA, n, .inl f))) (ht : tys[t0]? = some (cA, .boolean)) {i : Int32} {x : Int32} (k : Nat) (hi : i = nI k) (hk : k < n) (hn : n < 2 ^ 31) (hx : vp_nar .boolean x = x) (hw : ws.set q0 (a, .inl (cA, n, .inl (upd f k x))) = ws') (hdg : decode cc pc = .ok (.bastore, 1))
    (kk : ∀ (H1 : Heap) (locs1 : List Loc), va_P D cl ws' H1 → va_D A ws' → va_S A H0 H1 locs1 → W p l e R s m args below meth c H1 locs1 cells slots Q (F0 m (pc + 1) ls rest)) : W p l e R s m args below meth c H locs cells slots Q (F0 m pc ls (.int x :: .int i :: .ref a :: rest)) := by
  subst hi
  refine va_zast hexec hb hK hP hD hS q0 t0 ha ht (vp_in_nI hk hn) hdg ?_
  rw [nI_clamp (Nat.lt_trans hk hn), hx, hw]; exact kk
theorem h_last (hexec : p.tables.exec = Jvm.exec) (hb : c.code = cc) (hK : va_K D cl tys s) (hP : va_P D cl ws H) (hD : va_D A ws) (hS : va_S A H0 H locs) (q0 t0 : Nat) {cA : ClassId} {n : Nat} {f : Nat → Int64} (ha : ws[q0]? = some (a, .inl (cA, n, .inr (.inl f)))) (ht : tys[t0]? = some (cA, .long)) {i : Int32} {x : Int64} (k : Nat) (hi : i = nI k) (hk : k < n) (hn : n < 2 ^ 31) (hw : ws.set q0 (a, .inl (cA, n, .inr (.inl (vp_updL f k x)))) = ws') (hdg : decode cc pc = .ok (.lastore, 1))
    (kk : ∀ (H1 : Heap) (locs1 : List Loc), va_P D cl ws' H1 → va_D A ws' → va_S A H0 H1 locs1 → W p l e R s m args below meth c H1 locs1 cells slots Q (F0 m (pc + 1) ls rest)) : W p l e R s m args below meth c H locs cells slots Q (F0 m pc ls (.long x :: .int i :: .ref a :: rest)) := by
  subst hi
  refine va_last hexec hb hK hP hD hS q0 t0 ha ht (vp_in_nI hk hn) hdg ?_
  rw [nI_clamp (Nat.lt_trans hk hn), hw]; exact kk
theorem h_put (hexec : p.tables.exec = Jvm.exec) (hb : c.code = cc) {own ref C : String} {T : u_T} {N ci index : Nat} {Ts : List Cond} (hts : ∀ w ∈ Ts, w.before args s = true) (hin : ∀ w ∈ u_ws C T N, w ∈ Ts) (ty0 : Nat → FieldType) (hty : ∀ k, k < N → parseFieldDescriptor (T k).2.2.1 = some (ty0 k)) (hnm : ∀ a, a < N → ∀ b, b < N → a ≠ b → (T a).2.1 ≠ (T b).2.1) (hown : s.vm.findClass own = some m.cls) (hK : va_K D cl tys s) (hP : va_P D cl ws H) (hD : va_D A ws) (hS0 : va_S A H0 H locs) (q0 : Nat) {fs : List Value} (he : ws[q0]? = some (a, .inr (ci, fs))) (hc : cl[ci]? = some (C, T, N)) (k : Nat) (hk : k < N) (hlink : (Cond.fieldLink own index ref (T k).2.1 (T k).2.2.1).before args s = true) (hsame : ∀ x, s.fieldFound? (T k).1 (T k).2.1 (T k).2.2.1 = some x → s.fieldFound? ref (T k).2.1 (T k).2.2.1 = some x) (hfin : (T k).2.2.2 = false) {ty : FieldType} {v : Value} (hd : parseFieldDescriptor (T k).2.2.1 = some ty) (hn : narrow ty v = v) (hfit : fits ty v = true) (hl : k < fs.length) (hw : ws.set q0 (a, .inr (ci, fs.set k v)) = ws')
    (hdg : decode cc pc = .ok (.putfield index, 3)) (kk : ∀ (H1 : Heap) (locs1 : List Loc), va_P D cl ws' H1 → va_D A ws' → va_S A H0 H1 locs1 → W p l e R s m args below meth c H1 locs1 cells slots Q (F0 m (pc + 3) ls rest)) : W p l e R s m args below meth c H locs cells slots Q (F0 m pc ls (v :: .ref a :: rest)) := by
  refine va_put hexec hb hts hin ty0 hty hnm hown hK hP hD hS0 q0 he hc k hk hlink hsame hfin hd hn hfit hl hdg ?_
  rw [hw]; exact kk
theorem h_blindR {av : List Value} : FrameBlind (va_Pc av (hg_R D ws tys)) := fun a U g mk q => by
  obtain ⟨q1, qP, qK⟩ := q
  exact ⟨q1, qP, va_K.moved (u := U) (U := U.calling g mk a) (Vm.Alike.refl U.vm) qK⟩
theorem h_blindW {av : List Value} {sz : Nat} : FrameBlind (va_Pc av (hg_Wr D ws tys sz)) := fun a U g mk q => by
  obtain ⟨q0, q1, qP, qK, qD⟩ := q
  exact ⟨q0, q1, qP, va_K.moved (u := U) (U := U.calling g mk a) (Vm.Alike.refl U.vm) qK, qD⟩
theorem h_blind0 {av : List Value} : FrameBlind (va_Pc av (fun _ => True)) := fun a U g mk q => q
/-- a static method that looks at no cell -/
theorem h_preS0 {As : List Value} : PreS s H (va_Pc As (fun _ => True)) As := ⟨h_blind0, fun U hU hW => ⟨rfl, trivial⟩⟩
theorem h_preSR {As : List Value} (hK : va_K D vwCl tys s) (hP : va_P D vwCl ws H) : PreS s H (va_Pc As (hg_R D ws tys)) As := ⟨h_blindR, fun U hU hW => ⟨rfl, by rw [hU]; exact hP, va_K.moved hW.alike hK⟩⟩
theorem h_preR {As : List Value} {C : String} (hK : va_K D vwCl tys s) (hP : va_P D vwCl ws H) (q0 : Nat) {ci : Nat} {q : vw_C} {fs : List Value} (he : ws[q0]? = some (a, .inr (ci, fs))) (hc : vwCl[ci]? = some q) (hC : q.1 = C) : PreV s H C a (va_Pc (.ref a :: As) (hg_R D ws tys)) As := by
  subst hC
  exact ⟨h_blindR, va_recv hK hP hc he, fun U hU hW => ⟨rfl, by rw [hU]; exact hP, va_K.moved hW.alike hK⟩⟩
theorem h_preW {As : List Value} {C : String} (hK : va_K D vwCl tys s) (hP : va_P D vwCl ws H) (hD : va_D A ws) (q0 : Nat) {ci : Nat} {q : vw_C} {fs : List Value} (he : ws[q0]? = some (a, .inr (ci, fs))) (hc : vwCl[ci]? = some q) (hC : q.1 = C) : PreV s H C a (va_Pc (.ref a :: As) (hg_Wr D ws tys H.size)) As := by
  subst hC
  exact ⟨h_blindW, va_recv hK hP hc he, fun U hU hW => ⟨rfl, by rw [hU], by rw [hU]; exact hP, va_K.moved hW.alike hK, hD.weaken (fun _ _ _ _ => trivial)⟩⟩
/-- all of the world may be written, and what is new -/
theorem h_all (hD : va_D A ws) (hS : va_S A H0 H locs) (hA : ∀ q, H0.size ≤ q → A q) : ∀ q, va_A ws H.size q → A q := by
  rintro q (⟨k, e, h⟩ | h)
  · exact hD.2 k (q, e) h
  · exact hA q (Nat.le_trans hS.1 h)
theorem h_calli {a : Array Value} {w1 : va_W} {post : Int32 → Prop} (hr : va_Run p l e R s m args below meth c H locs cells slots 0 0 (F0 m pc ls st0) rest (va_Qi (fun (r : Int32) (_ : Unit) => post r) (fun _ t => hg_At D w1 (va_A ws H.size) t) (va_A ws H.size) a) (va_A ws H.size)) (hS : va_S A H0 H locs) (hF : ∀ q, va_A ws H.size q → A q)
    (kk : ∀ (r : Int32) (H1 : Heap) (locs1 : List Loc), post r → va_P D vwCl w1 H1 → va_D A w1 → va_S A H0 H1 locs1 → W p l e R s m args below meth c H1 locs1 cells slots Q (F0 m (pc + 3) ls (.int r :: rest))) : W p l e R s m args below meth c H locs cells slots Q (F0 m pc ls st0) := by
  refine va_calli hr hS (fun q _ h => hF q h) hF (fun r u t H1 locs1 ht hvm hp hB hz hk hS1 => ?_)
  obtain ⟨hP1, hD1⟩ := hB
  rw [ht] at hP1
  exact kk r H1 locs1 hp hP1 (hD1.weaken (fun _ _ _ h => hF _ h)) hS1
theorem h_calll {a : Array Value} {w1 : va_W} {post : Int64 → Prop} (hr : va_Run p l e R s m args below meth c H locs cells slots 0 0 (F0 m pc ls st0) rest (va_Ql (fun (r : Int64) (_ : Unit) => post r) (fun _ t => hg_At D w1 (va_A ws H.size) t) (va_A ws H.size) a) (va_A ws H.size)) (hS : va_S A H0 H locs) (hF : ∀ q, va_A ws H.size q → A q)
    (kk : ∀ (r : Int64) (H1 : Heap) (locs1 : List Loc), post r → va_P D vwCl w1 H1 → va_D A w1 → va_S A H0 H1 locs1 → W p l e R s m args below meth c H1 locs1 cells slots Q (F0 m (pc + 3) ls (.long r :: rest))) : W p l e R s m args below meth c H locs cells slots Q (F0 m pc ls st0) := by
  refine va_calll hr hS (fun q _ h => hF q h) hF (fun r u t H1 locs1 ht hvm hp hB hz hk hS1 => ?_)
  obtain ⟨hP1, hD1⟩ := hB
  rw [ht] at hP1
  exact kk r H1 locs1 hp hP1 (hD1.weaken (fun _ _ _ h => hF _ h)) hS1
theorem h_callv {a : Array Value} {w1 : va_W} (hr : va_Run p l e R s m args below meth c H locs cells slots 0 0 (F0 m pc ls st0) rest (va_Qv (fun (_ : Unit) => True) (fun _ t => hg_At D w1 (va_A ws H.size) t) (va_A ws H.size) a) (va_A ws H.size)) (hS : va_S A H0 H locs) (hF : ∀ q, va_A ws H.size q → A q)
    (kk : ∀ (H1 : Heap) (locs1 : List Loc), va_P D vwCl w1 H1 → va_D A w1 → va_S A H0 H1 locs1 → W p l e R s m args below meth c H1 locs1 cells slots Q (F0 m (pc + 3) ls rest)) : W p l e R s m args below meth c H locs cells slots Q (F0 m pc ls st0) := by
  refine va_callv hr hS (fun q _ h => hF q h) hF (fun u t H1 locs1 ht hvm hp hB hz hk hS1 => ?_)
  obtain ⟨hP1, hD1⟩ := hB
  rw [ht] at hP1
  exact kk H1 locs1 hP1 (hD1.weaken (fun _ _ _ h => hF _ h)) hS1
end HG
/-- what a boolean method answers -/
def hg_in (v lo hi : Int32) : Int32 := if lo ≤ v ∧ v ≤ hi then 1 else 0
def hg_b (P : Prop) [Decidable P] : Int32 := if P then 1 else 0
theorem hg_in_nar (v lo hi : Int32) : narrow .boolean (.int (hg_in v lo hi)) = .int (hg_in v lo hi) := by
  unfold hg_in
  split <;> rfl
theorem hg_in_1 {v lo hi : Int32} (h : lo ≤ v ∧ v ≤ hi) : hg_in v lo hi = 1 := if_pos h
theorem hg_in_0 {v lo hi : Int32} (h : ¬ (lo ≤ v ∧ v ≤ hi)) : hg_in v lo hi = 0 := if_neg h
theorem hg_le {a b : Int32} : a ≤ b ↔ a.toInt ≤ b.toInt := Int32.le_iff_toInt_le
theorem hg_lt {a b : Int32} : a < b ↔ a.toInt < b.toInt := Int32.lt_iff_toInt_lt
/-- sums over the first n -/
def hg_sum (g : Nat → Int32) : Nat → Int32
  | 0 => 0
  | n + 1 => hg_sum g n + g n
