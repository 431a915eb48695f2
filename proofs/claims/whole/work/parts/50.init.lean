/-! Constructors. -/
theorem h_tyu {D : va_G} {cl : List vw_C} {tys : List (ClassId × FieldType)} {U : State} (hK : va_K D cl tys U) {i j : Nat} {c1 c2 : ClassId} {ty : FieldType} (h1 : tys[i]? = some (c1, ty)) (h2 : tys[j]? = some (c2, ty)) (ht : ty = .int ∨ ty = .long ∨ ty = .boolean) : c1 = c2 := by
  have a1 := (hK.2 i _ h1).2
  have a2 := (hK.2 j _ h2).2
  rcases ht with rfl | rfl | rfl
  · exact Option.some.inj ((show U.vm.findClass _ = some c1 from a1).symm.trans (show U.vm.findClass _ = some c2 from a2))
  · exact Option.some.inj ((show U.vm.findClass _ = some c1 from a1).symm.trans (show U.vm.findClass _ = some c2 from a2))
  · exact Option.some.inj ((show U.vm.findClass _ = some c1 from a1).symm.trans (show U.vm.findClass _ = some c2 from a2))
set_option maxHeartbeats 4000000 in
set_option maxRecDepth 100000 in
theorem m_X4_init (l : Launch) (D : va_G) (h0 : Nat) (sz : Nat) : Met l yX4_init wsX4_init ({ frames := 1, cells := 5, slots := 72, locals := 12 }) (va_Pc [.ref h0] (hg_Wr D [(h0, .inr (4, [.int (nI 0), .null, .null, .null, .null, .null]))] [] sz)) (va_Qv (fun (_ : Unit) => True) (fun _ t => ∃ (q1 q2 q3 q4 q5 : Nat) (cI1 cZ4 : ClassId), va_P D vwCl [(h0, .inr (4, [.int (nI 0), .ref q1, .ref q2, .ref q3, .ref q4, .ref q5])), (q1, .inl (cI1, 8, .inl (fun _ => nI 0))), (q2, .inl (cI1, 8, .inl (fun _ => nI 0))), (q3, .inl (cI1, 8, .inl (fun _ => nI 0))), (q4, .inl (cZ4, 8, .inl (fun _ => nI 0))), (q5, .inl (cI1, 40, .inl (fun _ => nI 0)))] t.heap ∧ va_K D vwCl [(cI1, .int), (cZ4, .boolean)] t ∧ va_D (va_A [(h0, .inr (4, [.int (nI 0), .null, .null, .null, .null, .null]))] sz) [(h0, .inr (4, [.int (nI 0), .ref q1, .ref q2, .ref q3, .ref q4, .ref q5])), (q1, .inl (cI1, 8, .inl (fun _ => nI 0))), (q2, .inl (cI1, 8, .inl (fun _ => nI 0))), (q3, .inl (cI1, 8, .inl (fun _ => nI 0))), (q4, .inl (cZ4, 8, .inl (fun _ => nI 0))), (q5, .inl (cI1, 40, .inl (fun _ => nI 0)))]) (va_A [(h0, .inr (4, [.int (nI 0), .null, .null, .null, .null, .null]))] sz)) 5 72 (va_A [(h0, .inr (4, [.int (nI 0), .null, .null, .null, .null, .null]))] sz) := by
  refine h_start (cc := cX4_init) (maxL := 1) (ret := none) (by decide) rfl (Nat.le_of_ble_eq_true rfl) ?_
  intro pg ev s mi args below meth cd ls hx hb hr hts hown hlocks hml hnm hpic hl
  obtain ⟨hsz, hP, hK, hD0⟩ := hpic
  subst hsz
  have hD := hD0.self (sz := s.heap.size)
  generalize hAe : va_A [(h0, .inr (4, [.int (nI 0), .null, .null, .null, .null, .null]))] s.heap.size = A at hD ⊢
  have hA : ∀ q : Nat, s.heap.size ≤ q → A q := fun q h => by rw [← hAe]; exact Or.inr h
  have hS : va_S A s.heap s.heap [] := va_S.rf
  have hi4 : ∀ w ∈ u_ws RX4 TX4 6, w ∈ wsX4_init := by decide +kernel
  have hl : lv_has ls 1 [(0, .ref h0)] := hl
  refine lv_aload_n hx hb dX4_init_0 rfl (lv_at hl 0 rfl) ?_
  refine W.objInit hx hb hown (hts (.methodLink RX4 1 objectInit) (by decide +kernel)) (hts (.instanceMethod objectInit) (by decide +kernel)) (hts (.code objectInit ⟨#[0xb1]⟩ 1 none) (by decide +kernel)) rfl (by rw [hml]; exact hl.1) rfl dX4_init_1 (Nat.le_of_ble_eq_true rfl) (Nat.le_of_ble_eq_true rfl) ?_
  refine W.eq (g2 := F0 mi 4 ls []) rfl ?_
  refine lv_aload_n hx hb dX4_init_4 rfl (lv_at hl 0 rfl) ?_
  refine lv_bipush (v := nI 8) hx hb dX4_init_5 (by decide) ?_
  refine va_newa (atype := .int) (a0 := (8, .inl (fun _ => nI 0))) hx hb (hts (.arrayClass .int) (by decide +kernel)) rfl hK hP hD hS hA (fun _ => rfl) (by decide) (by decide) (by decide) (Nat.le_of_ble_eq_true rfl) (Nat.le_of_ble_eq_true rfl) dX4_init_7 (fun q1 cI1 H hK hP hD hS => ?_)
  have hK : va_K D vwCl ([] ++ [(cI1, .int)]) s := hK
  have hK : va_K D vwCl [(cI1, .int)] s := hK
  have hP : va_P D vwCl [(h0, .inr (4, [.int (nI 0), .null, .null, .null, .null, .null])), (q1, .inl (cI1, 8, .inl (fun _ => nI 0)))] H := hP
  have hD : va_D A [(h0, .inr (4, [.int (nI 0), .null, .null, .null, .null, .null])), (q1, .inl (cI1, 8, .inl (fun _ => nI 0)))] := hD
  refine W.widen (k := 1) (n := 8) (by omega) (by omega) ?_
  refine va_putF (ci := 4) (v := .ref q1) (ty := .array .int) (C := RX4) (T := TX4) (N := 6) hx hb hts hi4 tyX4 tyX4_ok nmX4 hown hK hP hD hS 0 rfl rfl 1 (by decide) (hts (.fieldLink RX4 9 "HotGround$Wells" "kind" "[I") (by decide +kernel)) (fun _ h9 => h9) rfl hnm rfl (by decide +kernel) rfl rfl (Nat.le_of_ble_eq_true rfl) dX4_init_9 (fun H locs hP hD hS => ?_)
  have hP : va_P D vwCl [(h0, .inr (4, [.int (nI 0), .ref q1, .null, .null, .null, .null])), (q1, .inl (cI1, 8, .inl (fun _ => nI 0)))] H := hP
  have hD : va_D A [(h0, .inr (4, [.int (nI 0), .ref q1, .null, .null, .null, .null])), (q1, .inl (cI1, 8, .inl (fun _ => nI 0)))] := hD
  refine lv_aload_n hx hb dX4_init_12 rfl (lv_at hl 0 rfl) ?_
  refine lv_bipush (v := nI 8) hx hb dX4_init_13 (by decide) ?_
  refine va_newa (atype := .int) (a0 := (8, .inl (fun _ => nI 0))) hx hb (hts (.arrayClass .int) (by decide +kernel)) rfl hK hP hD hS hA (fun _ => rfl) (by decide) (by decide) (by decide) (Nat.le_of_ble_eq_true rfl) (Nat.le_of_ble_eq_true rfl) dX4_init_15 (fun q2 cI2 H hK hP hD hS => ?_)
  have hK : va_K D vwCl ([(cI1, .int)] ++ [(cI2, .int)]) s := hK
  obtain rfl : cI1 = cI2 := h_tyu hK (i := 0) (j := 1) rfl rfl (by decide)
  have hK : va_K D vwCl [(cI1, .int)] s := hK.sub [0] rfl
  have hP : va_P D vwCl [(h0, .inr (4, [.int (nI 0), .ref q1, .null, .null, .null, .null])), (q1, .inl (cI1, 8, .inl (fun _ => nI 0))), (q2, .inl (cI1, 8, .inl (fun _ => nI 0)))] H := hP
  have hD : va_D A [(h0, .inr (4, [.int (nI 0), .ref q1, .null, .null, .null, .null])), (q1, .inl (cI1, 8, .inl (fun _ => nI 0))), (q2, .inl (cI1, 8, .inl (fun _ => nI 0)))] := hD
  refine W.widen (k := 2) (n := 16) (by omega) (by omega) ?_
  refine va_putF (ci := 4) (v := .ref q2) (ty := .array .int) (C := RX4) (T := TX4) (N := 6) hx hb hts hi4 tyX4 tyX4_ok nmX4 hown hK hP hD hS 0 rfl rfl 2 (by decide) (hts (.fieldLink RX4 13 "HotGround$Wells" "box" "[I") (by decide +kernel)) (fun _ h9 => h9) rfl hnm rfl (by decide +kernel) rfl rfl (Nat.le_of_ble_eq_true rfl) dX4_init_17 (fun H locs hP hD hS => ?_)
  have hP : va_P D vwCl [(h0, .inr (4, [.int (nI 0), .ref q1, .ref q2, .null, .null, .null])), (q1, .inl (cI1, 8, .inl (fun _ => nI 0))), (q2, .inl (cI1, 8, .inl (fun _ => nI 0)))] H := hP
  have hD : va_D A [(h0, .inr (4, [.int (nI 0), .ref q1, .ref q2, .null, .null, .null])), (q1, .inl (cI1, 8, .inl (fun _ => nI 0))), (q2, .inl (cI1, 8, .inl (fun _ => nI 0)))] := hD
  refine lv_aload_n hx hb dX4_init_20 rfl (lv_at hl 0 rfl) ?_
  refine lv_bipush (v := nI 8) hx hb dX4_init_21 (by decide) ?_
  refine va_newa (atype := .int) (a0 := (8, .inl (fun _ => nI 0))) hx hb (hts (.arrayClass .int) (by decide +kernel)) rfl hK hP hD hS hA (fun _ => rfl) (by decide) (by decide) (by decide) (Nat.le_of_ble_eq_true rfl) (Nat.le_of_ble_eq_true rfl) dX4_init_23 (fun q3 cI3 H hK hP hD hS => ?_)
  have hK : va_K D vwCl ([(cI1, .int)] ++ [(cI3, .int)]) s := hK
  obtain rfl : cI1 = cI3 := h_tyu hK (i := 0) (j := 1) rfl rfl (by decide)
  have hK : va_K D vwCl [(cI1, .int)] s := hK.sub [0] rfl
  have hP : va_P D vwCl [(h0, .inr (4, [.int (nI 0), .ref q1, .ref q2, .null, .null, .null])), (q1, .inl (cI1, 8, .inl (fun _ => nI 0))), (q2, .inl (cI1, 8, .inl (fun _ => nI 0))), (q3, .inl (cI1, 8, .inl (fun _ => nI 0)))] H := hP
  have hD : va_D A [(h0, .inr (4, [.int (nI 0), .ref q1, .ref q2, .null, .null, .null])), (q1, .inl (cI1, 8, .inl (fun _ => nI 0))), (q2, .inl (cI1, 8, .inl (fun _ => nI 0))), (q3, .inl (cI1, 8, .inl (fun _ => nI 0)))] := hD
  refine W.widen (k := 3) (n := 24) (by omega) (by omega) ?_
  refine va_putF (ci := 4) (v := .ref q3) (ty := .array .int) (C := RX4) (T := TX4) (N := 6) hx hb hts hi4 tyX4 tyX4_ok nmX4 hown hK hP hD hS 0 rfl rfl 3 (by decide) (hts (.fieldLink RX4 16 "HotGround$Wells" "age" "[I") (by decide +kernel)) (fun _ h9 => h9) rfl hnm rfl (by decide +kernel) rfl rfl (Nat.le_of_ble_eq_true rfl) dX4_init_25 (fun H locs hP hD hS => ?_)
  have hP : va_P D vwCl [(h0, .inr (4, [.int (nI 0), .ref q1, .ref q2, .ref q3, .null, .null])), (q1, .inl (cI1, 8, .inl (fun _ => nI 0))), (q2, .inl (cI1, 8, .inl (fun _ => nI 0))), (q3, .inl (cI1, 8, .inl (fun _ => nI 0)))] H := hP
  have hD : va_D A [(h0, .inr (4, [.int (nI 0), .ref q1, .ref q2, .ref q3, .null, .null])), (q1, .inl (cI1, 8, .inl (fun _ => nI 0))), (q2, .inl (cI1, 8, .inl (fun _ => nI 0))), (q3, .inl (cI1, 8, .inl (fun _ => nI 0)))] := hD
  refine lv_aload_n hx hb dX4_init_28 rfl (lv_at hl 0 rfl) ?_
  refine lv_bipush (v := nI 8) hx hb dX4_init_29 (by decide) ?_
  refine va_newa (atype := .boolean) (a0 := (8, .inl (fun _ => nI 0))) hx hb (hts (.arrayClass .boolean) (by decide +kernel)) rfl hK hP hD hS hA (fun _ => rfl) (by decide) (by decide) (by decide) (Nat.le_of_ble_eq_true rfl) (Nat.le_of_ble_eq_true rfl) dX4_init_31 (fun q4 cZ4 H hK hP hD hS => ?_)
  have hK : va_K D vwCl ([(cI1, .int)] ++ [(cZ4, .boolean)]) s := hK
  have hK : va_K D vwCl [(cI1, .int), (cZ4, .boolean)] s := hK
  have hP : va_P D vwCl [(h0, .inr (4, [.int (nI 0), .ref q1, .ref q2, .ref q3, .null, .null])), (q1, .inl (cI1, 8, .inl (fun _ => nI 0))), (q2, .inl (cI1, 8, .inl (fun _ => nI 0))), (q3, .inl (cI1, 8, .inl (fun _ => nI 0))), (q4, .inl (cZ4, 8, .inl (fun _ => nI 0)))] H := hP
  have hD : va_D A [(h0, .inr (4, [.int (nI 0), .ref q1, .ref q2, .ref q3, .null, .null])), (q1, .inl (cI1, 8, .inl (fun _ => nI 0))), (q2, .inl (cI1, 8, .inl (fun _ => nI 0))), (q3, .inl (cI1, 8, .inl (fun _ => nI 0))), (q4, .inl (cZ4, 8, .inl (fun _ => nI 0)))] := hD
  refine W.widen (k := 4) (n := 32) (by omega) (by omega) ?_
  refine va_putF (ci := 4) (v := .ref q4) (ty := .array .boolean) (C := RX4) (T := TX4) (N := 6) hx hb hts hi4 tyX4 tyX4_ok nmX4 hown hK hP hD hS 0 rfl rfl 4 (by decide) (hts (.fieldLink RX4 19 "HotGround$Wells" "open" "[Z") (by decide +kernel)) (fun _ h9 => h9) rfl hnm rfl (by decide +kernel) rfl rfl (Nat.le_of_ble_eq_true rfl) dX4_init_33 (fun H locs hP hD hS => ?_)
  have hP : va_P D vwCl [(h0, .inr (4, [.int (nI 0), .ref q1, .ref q2, .ref q3, .ref q4, .null])), (q1, .inl (cI1, 8, .inl (fun _ => nI 0))), (q2, .inl (cI1, 8, .inl (fun _ => nI 0))), (q3, .inl (cI1, 8, .inl (fun _ => nI 0))), (q4, .inl (cZ4, 8, .inl (fun _ => nI 0)))] H := hP
  have hD : va_D A [(h0, .inr (4, [.int (nI 0), .ref q1, .ref q2, .ref q3, .ref q4, .null])), (q1, .inl (cI1, 8, .inl (fun _ => nI 0))), (q2, .inl (cI1, 8, .inl (fun _ => nI 0))), (q3, .inl (cI1, 8, .inl (fun _ => nI 0))), (q4, .inl (cZ4, 8, .inl (fun _ => nI 0)))] := hD
  refine lv_aload_n hx hb dX4_init_36 rfl (lv_at hl 0 rfl) ?_
  refine lv_bipush (v := nI 40) hx hb dX4_init_37 (by decide) ?_
  refine va_newa (atype := .int) (a0 := (40, .inl (fun _ => nI 0))) hx hb (hts (.arrayClass .int) (by decide +kernel)) rfl hK hP hD hS hA (fun _ => rfl) (by decide) (by decide) (by decide) (Nat.le_of_ble_eq_true rfl) (Nat.le_of_ble_eq_true rfl) dX4_init_39 (fun q5 cI5 H hK hP hD hS => ?_)
  have hK : va_K D vwCl ([(cI1, .int), (cZ4, .boolean)] ++ [(cI5, .int)]) s := hK
  obtain rfl : cI1 = cI5 := h_tyu hK (i := 0) (j := 2) rfl rfl (by decide)
  have hK : va_K D vwCl [(cI1, .int), (cZ4, .boolean)] s := hK.sub [0, 1] rfl
  have hP : va_P D vwCl [(h0, .inr (4, [.int (nI 0), .ref q1, .ref q2, .ref q3, .ref q4, .null])), (q1, .inl (cI1, 8, .inl (fun _ => nI 0))), (q2, .inl (cI1, 8, .inl (fun _ => nI 0))), (q3, .inl (cI1, 8, .inl (fun _ => nI 0))), (q4, .inl (cZ4, 8, .inl (fun _ => nI 0))), (q5, .inl (cI1, 40, .inl (fun _ => nI 0)))] H := hP
  have hD : va_D A [(h0, .inr (4, [.int (nI 0), .ref q1, .ref q2, .ref q3, .ref q4, .null])), (q1, .inl (cI1, 8, .inl (fun _ => nI 0))), (q2, .inl (cI1, 8, .inl (fun _ => nI 0))), (q3, .inl (cI1, 8, .inl (fun _ => nI 0))), (q4, .inl (cZ4, 8, .inl (fun _ => nI 0))), (q5, .inl (cI1, 40, .inl (fun _ => nI 0)))] := hD
  refine W.widen (k := 5) (n := 72) (by omega) (by omega) ?_
  refine va_putF (ci := 4) (v := .ref q5) (ty := .array .int) (C := RX4) (T := TX4) (N := 6) hx hb hts hi4 tyX4 tyX4_ok nmX4 hown hK hP hD hS 0 rfl rfl 5 (by decide) (hts (.fieldLink RX4 23 "HotGround$Wells" "corners" "[I") (by decide +kernel)) (fun _ h9 => h9) rfl hnm rfl (by decide +kernel) rfl rfl (Nat.le_of_ble_eq_true rfl) dX4_init_41 (fun H locs hP hD hS => ?_)
  have hP : va_P D vwCl [(h0, .inr (4, [.int (nI 0), .ref q1, .ref q2, .ref q3, .ref q4, .ref q5])), (q1, .inl (cI1, 8, .inl (fun _ => nI 0))), (q2, .inl (cI1, 8, .inl (fun _ => nI 0))), (q3, .inl (cI1, 8, .inl (fun _ => nI 0))), (q4, .inl (cZ4, 8, .inl (fun _ => nI 0))), (q5, .inl (cI1, 40, .inl (fun _ => nI 0)))] H := hP
  have hD : va_D A [(h0, .inr (4, [.int (nI 0), .ref q1, .ref q2, .ref q3, .ref q4, .ref q5])), (q1, .inl (cI1, 8, .inl (fun _ => nI 0))), (q2, .inl (cI1, 8, .inl (fun _ => nI 0))), (q3, .inl (cI1, 8, .inl (fun _ => nI 0))), (q4, .inl (cZ4, 8, .inl (fun _ => nI 0))), (q5, .inl (cI1, 40, .inl (fun _ => nI 0)))] := hD
  exact W.vret hx hb hr (fun t ht hW => ⟨⟨(), rfl, trivial, q1, q2, q3, q4, q5, cI1, cZ4, by rw [ht]; exact hP, va_K.moved hW.alike hK, hD⟩, hS.F ht⟩) hS.2.2 dX4_init_44
set_option maxHeartbeats 4000000 in
set_option maxRecDepth 100000 in
theorem m_X3_init (l : Launch) (D : va_G) (h0 : Nat) (sz : Nat) : Met l yX3_init wsX3_init ({ frames := 1, cells := 4, slots := 16, locals := 12 }) (va_Pc [.ref h0] (hg_Wr D [(h0, .inr (3, [.int (nI 0), .null, .null, .null, .null]))] [] sz)) (va_Qv (fun (_ : Unit) => True) (fun _ t => ∃ (q1 q2 q3 q4 : Nat) (cI1 cZ4 : ClassId), va_P D vwCl [(h0, .inr (3, [.int (nI 0), .ref q1, .ref q2, .ref q3, .ref q4])), (q1, .inl (cI1, 4, .inl (fun _ => nI 0))), (q2, .inl (cI1, 4, .inl (fun _ => nI 0))), (q3, .inl (cI1, 4, .inl (fun _ => nI 0))), (q4, .inl (cZ4, 4, .inl (fun _ => nI 0)))] t.heap ∧ va_K D vwCl [(cI1, .int), (cZ4, .boolean)] t ∧ va_D (va_A [(h0, .inr (3, [.int (nI 0), .null, .null, .null, .null]))] sz) [(h0, .inr (3, [.int (nI 0), .ref q1, .ref q2, .ref q3, .ref q4])), (q1, .inl (cI1, 4, .inl (fun _ => nI 0))), (q2, .inl (cI1, 4, .inl (fun _ => nI 0))), (q3, .inl (cI1, 4, .inl (fun _ => nI 0))), (q4, .inl (cZ4, 4, .inl (fun _ => nI 0)))]) (va_A [(h0, .inr (3, [.int (nI 0), .null, .null, .null, .null]))] sz)) 4 16 (va_A [(h0, .inr (3, [.int (nI 0), .null, .null, .null, .null]))] sz) := by
  refine h_start (cc := cX3_init) (maxL := 1) (ret := none) (by decide) rfl (Nat.le_of_ble_eq_true rfl) ?_
  intro pg ev s mi args below meth cd ls hx hb hr hts hown hlocks hml hnm hpic hl
  obtain ⟨hsz, hP, hK, hD0⟩ := hpic
  subst hsz
  have hD := hD0.self (sz := s.heap.size)
  generalize hAe : va_A [(h0, .inr (3, [.int (nI 0), .null, .null, .null, .null]))] s.heap.size = A at hD ⊢
  have hA : ∀ q : Nat, s.heap.size ≤ q → A q := fun q h => by rw [← hAe]; exact Or.inr h
  have hS : va_S A s.heap s.heap [] := va_S.rf
  have hi3 : ∀ w ∈ u_ws RX3 TX3 5, w ∈ wsX3_init := by decide +kernel
  have hl : lv_has ls 1 [(0, .ref h0)] := hl
  refine lv_aload_n hx hb dX3_init_0 rfl (lv_at hl 0 rfl) ?_
  refine W.objInit hx hb hown (hts (.methodLink RX3 1 objectInit) (by decide +kernel)) (hts (.instanceMethod objectInit) (by decide +kernel)) (hts (.code objectInit ⟨#[0xb1]⟩ 1 none) (by decide +kernel)) rfl (by rw [hml]; exact hl.1) rfl dX3_init_1 (Nat.le_of_ble_eq_true rfl) (Nat.le_of_ble_eq_true rfl) ?_
  refine W.eq (g2 := F0 mi 4 ls []) rfl ?_
  refine lv_aload_n hx hb dX3_init_4 rfl (lv_at hl 0 rfl) ?_
  refine lv_iconst (v := nI 4) hx hb dX3_init_5 (by decide) ?_
  refine va_newa (atype := .int) (a0 := (4, .inl (fun _ => nI 0))) hx hb (hts (.arrayClass .int) (by decide +kernel)) rfl hK hP hD hS hA (fun _ => rfl) (by decide) (by decide) (by decide) (Nat.le_of_ble_eq_true rfl) (Nat.le_of_ble_eq_true rfl) dX3_init_6 (fun q1 cI1 H hK hP hD hS => ?_)
  have hK : va_K D vwCl ([] ++ [(cI1, .int)]) s := hK
  have hK : va_K D vwCl [(cI1, .int)] s := hK
  have hP : va_P D vwCl [(h0, .inr (3, [.int (nI 0), .null, .null, .null, .null])), (q1, .inl (cI1, 4, .inl (fun _ => nI 0)))] H := hP
  have hD : va_D A [(h0, .inr (3, [.int (nI 0), .null, .null, .null, .null])), (q1, .inl (cI1, 4, .inl (fun _ => nI 0)))] := hD
  refine W.widen (k := 1) (n := 4) (by omega) (by omega) ?_
  refine va_putF (ci := 3) (v := .ref q1) (ty := .array .int) (C := RX3) (T := TX3) (N := 5) hx hb hts hi3 tyX3 tyX3_ok nmX3 hown hK hP hD hS 0 rfl rfl 1 (by decide) (hts (.fieldLink RX3 9 "HotGround$Plant" "least" "[I") (by decide +kernel)) (fun _ h9 => h9) rfl hnm rfl (by decide +kernel) rfl rfl (Nat.le_of_ble_eq_true rfl) dX3_init_8 (fun H locs hP hD hS => ?_)
  have hP : va_P D vwCl [(h0, .inr (3, [.int (nI 0), .ref q1, .null, .null, .null])), (q1, .inl (cI1, 4, .inl (fun _ => nI 0)))] H := hP
  have hD : va_D A [(h0, .inr (3, [.int (nI 0), .ref q1, .null, .null, .null])), (q1, .inl (cI1, 4, .inl (fun _ => nI 0)))] := hD
  refine lv_aload_n hx hb dX3_init_11 rfl (lv_at hl 0 rfl) ?_
  refine lv_iconst (v := nI 4) hx hb dX3_init_12 (by decide) ?_
  refine va_newa (atype := .int) (a0 := (4, .inl (fun _ => nI 0))) hx hb (hts (.arrayClass .int) (by decide +kernel)) rfl hK hP hD hS hA (fun _ => rfl) (by decide) (by decide) (by decide) (Nat.le_of_ble_eq_true rfl) (Nat.le_of_ble_eq_true rfl) dX3_init_13 (fun q2 cI2 H hK hP hD hS => ?_)
  have hK : va_K D vwCl ([(cI1, .int)] ++ [(cI2, .int)]) s := hK
  obtain rfl : cI1 = cI2 := h_tyu hK (i := 0) (j := 1) rfl rfl (by decide)
  have hK : va_K D vwCl [(cI1, .int)] s := hK.sub [0] rfl
  have hP : va_P D vwCl [(h0, .inr (3, [.int (nI 0), .ref q1, .null, .null, .null])), (q1, .inl (cI1, 4, .inl (fun _ => nI 0))), (q2, .inl (cI1, 4, .inl (fun _ => nI 0)))] H := hP
  have hD : va_D A [(h0, .inr (3, [.int (nI 0), .ref q1, .null, .null, .null])), (q1, .inl (cI1, 4, .inl (fun _ => nI 0))), (q2, .inl (cI1, 4, .inl (fun _ => nI 0)))] := hD
  refine W.widen (k := 2) (n := 8) (by omega) (by omega) ?_
  refine va_putF (ci := 3) (v := .ref q2) (ty := .array .int) (C := RX3) (T := TX3) (N := 5) hx hb hts hi3 tyX3 tyX3_ok nmX3 hown hK hP hD hS 0 rfl rfl 2 (by decide) (hts (.fieldLink RX3 13 "HotGround$Plant" "rate" "[I") (by decide +kernel)) (fun _ h9 => h9) rfl hnm rfl (by decide +kernel) rfl rfl (Nat.le_of_ble_eq_true rfl) dX3_init_15 (fun H locs hP hD hS => ?_)
  have hP : va_P D vwCl [(h0, .inr (3, [.int (nI 0), .ref q1, .ref q2, .null, .null])), (q1, .inl (cI1, 4, .inl (fun _ => nI 0))), (q2, .inl (cI1, 4, .inl (fun _ => nI 0)))] H := hP
  have hD : va_D A [(h0, .inr (3, [.int (nI 0), .ref q1, .ref q2, .null, .null])), (q1, .inl (cI1, 4, .inl (fun _ => nI 0))), (q2, .inl (cI1, 4, .inl (fun _ => nI 0)))] := hD
  refine lv_aload_n hx hb dX3_init_18 rfl (lv_at hl 0 rfl) ?_
  refine lv_iconst (v := nI 4) hx hb dX3_init_19 (by decide) ?_
  refine va_newa (atype := .int) (a0 := (4, .inl (fun _ => nI 0))) hx hb (hts (.arrayClass .int) (by decide +kernel)) rfl hK hP hD hS hA (fun _ => rfl) (by decide) (by decide) (by decide) (Nat.le_of_ble_eq_true rfl) (Nat.le_of_ble_eq_true rfl) dX3_init_20 (fun q3 cI3 H hK hP hD hS => ?_)
  have hK : va_K D vwCl ([(cI1, .int)] ++ [(cI3, .int)]) s := hK
  obtain rfl : cI1 = cI3 := h_tyu hK (i := 0) (j := 1) rfl rfl (by decide)
  have hK : va_K D vwCl [(cI1, .int)] s := hK.sub [0] rfl
  have hP : va_P D vwCl [(h0, .inr (3, [.int (nI 0), .ref q1, .ref q2, .null, .null])), (q1, .inl (cI1, 4, .inl (fun _ => nI 0))), (q2, .inl (cI1, 4, .inl (fun _ => nI 0))), (q3, .inl (cI1, 4, .inl (fun _ => nI 0)))] H := hP
  have hD : va_D A [(h0, .inr (3, [.int (nI 0), .ref q1, .ref q2, .null, .null])), (q1, .inl (cI1, 4, .inl (fun _ => nI 0))), (q2, .inl (cI1, 4, .inl (fun _ => nI 0))), (q3, .inl (cI1, 4, .inl (fun _ => nI 0)))] := hD
  refine W.widen (k := 3) (n := 12) (by omega) (by omega) ?_
  refine va_putF (ci := 3) (v := .ref q3) (ty := .array .int) (C := RX3) (T := TX3) (N := 5) hx hb hts hi3 tyX3 tyX3_ok nmX3 hown hK hP hD hS 0 rfl rfl 3 (by decide) (hts (.fieldLink RX3 16 "HotGround$Plant" "most" "[I") (by decide +kernel)) (fun _ h9 => h9) rfl hnm rfl (by decide +kernel) rfl rfl (Nat.le_of_ble_eq_true rfl) dX3_init_22 (fun H locs hP hD hS => ?_)
  have hP : va_P D vwCl [(h0, .inr (3, [.int (nI 0), .ref q1, .ref q2, .ref q3, .null])), (q1, .inl (cI1, 4, .inl (fun _ => nI 0))), (q2, .inl (cI1, 4, .inl (fun _ => nI 0))), (q3, .inl (cI1, 4, .inl (fun _ => nI 0)))] H := hP
  have hD : va_D A [(h0, .inr (3, [.int (nI 0), .ref q1, .ref q2, .ref q3, .null])), (q1, .inl (cI1, 4, .inl (fun _ => nI 0))), (q2, .inl (cI1, 4, .inl (fun _ => nI 0))), (q3, .inl (cI1, 4, .inl (fun _ => nI 0)))] := hD
  refine lv_aload_n hx hb dX3_init_25 rfl (lv_at hl 0 rfl) ?_
  refine lv_iconst (v := nI 4) hx hb dX3_init_26 (by decide) ?_
  refine va_newa (atype := .boolean) (a0 := (4, .inl (fun _ => nI 0))) hx hb (hts (.arrayClass .boolean) (by decide +kernel)) rfl hK hP hD hS hA (fun _ => rfl) (by decide) (by decide) (by decide) (Nat.le_of_ble_eq_true rfl) (Nat.le_of_ble_eq_true rfl) dX3_init_27 (fun q4 cZ4 H hK hP hD hS => ?_)
  have hK : va_K D vwCl ([(cI1, .int)] ++ [(cZ4, .boolean)]) s := hK
  have hK : va_K D vwCl [(cI1, .int), (cZ4, .boolean)] s := hK
  have hP : va_P D vwCl [(h0, .inr (3, [.int (nI 0), .ref q1, .ref q2, .ref q3, .null])), (q1, .inl (cI1, 4, .inl (fun _ => nI 0))), (q2, .inl (cI1, 4, .inl (fun _ => nI 0))), (q3, .inl (cI1, 4, .inl (fun _ => nI 0))), (q4, .inl (cZ4, 4, .inl (fun _ => nI 0)))] H := hP
  have hD : va_D A [(h0, .inr (3, [.int (nI 0), .ref q1, .ref q2, .ref q3, .null])), (q1, .inl (cI1, 4, .inl (fun _ => nI 0))), (q2, .inl (cI1, 4, .inl (fun _ => nI 0))), (q3, .inl (cI1, 4, .inl (fun _ => nI 0))), (q4, .inl (cZ4, 4, .inl (fun _ => nI 0)))] := hD
  refine W.widen (k := 4) (n := 16) (by omega) (by omega) ?_
  refine va_putF (ci := 3) (v := .ref q4) (ty := .array .boolean) (C := RX3) (T := TX3) (N := 5) hx hb hts hi3 tyX3 tyX3_ok nmX3 hown hK hP hD hS 0 rfl rfl 4 (by decide) (hts (.fieldLink RX3 19 "HotGround$Plant" "on" "[Z") (by decide +kernel)) (fun _ h9 => h9) rfl hnm rfl (by decide +kernel) rfl rfl (Nat.le_of_ble_eq_true rfl) dX3_init_29 (fun H locs hP hD hS => ?_)
  have hP : va_P D vwCl [(h0, .inr (3, [.int (nI 0), .ref q1, .ref q2, .ref q3, .ref q4])), (q1, .inl (cI1, 4, .inl (fun _ => nI 0))), (q2, .inl (cI1, 4, .inl (fun _ => nI 0))), (q3, .inl (cI1, 4, .inl (fun _ => nI 0))), (q4, .inl (cZ4, 4, .inl (fun _ => nI 0)))] H := hP
  have hD : va_D A [(h0, .inr (3, [.int (nI 0), .ref q1, .ref q2, .ref q3, .ref q4])), (q1, .inl (cI1, 4, .inl (fun _ => nI 0))), (q2, .inl (cI1, 4, .inl (fun _ => nI 0))), (q3, .inl (cI1, 4, .inl (fun _ => nI 0))), (q4, .inl (cZ4, 4, .inl (fun _ => nI 0)))] := hD
  exact W.vret hx hb hr (fun t ht hW => ⟨⟨(), rfl, trivial, q1, q2, q3, q4, cI1, cZ4, by rw [ht]; exact hP, va_K.moved hW.alike hK, hD⟩, hS.F ht⟩) hS.2.2 dX3_init_32
set_option maxHeartbeats 4000000 in
set_option maxRecDepth 100000 in
theorem m_X0_init (l : Launch) (D : va_G) (h0 : Nat) (sz : Nat) : Met l yX0_init wsX0_init ({ frames := 1, cells := 5, slots := 24, locals := 12 }) (va_Pc [.ref h0] (hg_Wr D [(h0, .inr (0, [.null, .null, .null, .null, .int (nI 0), .int (nI 0), .null]))] [] sz)) (va_Qv (fun (_ : Unit) => True) (fun _ t => ∃ (q1 q2 q3 q4 q5 : Nat) (cJ1 cI3 : ClassId), va_P D vwCl [(h0, .inr (0, [.ref q1, .ref q2, .ref q3, .ref q4, .int (nI 0), .int (nI 0), .ref q5])), (q1, .inl (cJ1, 4, .inr (.inl (fun _ => 0)))), (q2, .inl (cJ1, 4, .inr (.inl (fun _ => 0)))), (q3, .inl (cI3, 4, .inl (fun _ => nI 0))), (q4, .inl (cI3, 3, .inl (upd (upd (upd (fun _ => nI 0) 0 (nI 1000)) 1 (nI 1000)) 2 (nI 1000)))), (q5, .inl (cJ1, 9, .inr (.inl (fun _ => 0))))] t.heap ∧ va_K D vwCl [(cJ1, .long), (cI3, .int)] t ∧ va_D (va_A [(h0, .inr (0, [.null, .null, .null, .null, .int (nI 0), .int (nI 0), .null]))] sz) [(h0, .inr (0, [.ref q1, .ref q2, .ref q3, .ref q4, .int (nI 0), .int (nI 0), .ref q5])), (q1, .inl (cJ1, 4, .inr (.inl (fun _ => 0)))), (q2, .inl (cJ1, 4, .inr (.inl (fun _ => 0)))), (q3, .inl (cI3, 4, .inl (fun _ => nI 0))), (q4, .inl (cI3, 3, .inl (upd (upd (upd (fun _ => nI 0) 0 (nI 1000)) 1 (nI 1000)) 2 (nI 1000)))), (q5, .inl (cJ1, 9, .inr (.inl (fun _ => 0))))]) (va_A [(h0, .inr (0, [.null, .null, .null, .null, .int (nI 0), .int (nI 0), .null]))] sz)) 5 24 (va_A [(h0, .inr (0, [.null, .null, .null, .null, .int (nI 0), .int (nI 0), .null]))] sz) := by
  refine h_start (cc := cX0_init) (maxL := 1) (ret := none) (by decide) rfl (Nat.le_of_ble_eq_true rfl) ?_
  intro pg ev s mi args below meth cd ls hx hb hr hts hown hlocks hml hnm hpic hl
  obtain ⟨hsz, hP, hK, hD0⟩ := hpic
  subst hsz
  have hD := hD0.self (sz := s.heap.size)
  generalize hAe : va_A [(h0, .inr (0, [.null, .null, .null, .null, .int (nI 0), .int (nI 0), .null]))] s.heap.size = A at hD ⊢
  have hA : ∀ q : Nat, s.heap.size ≤ q → A q := fun q h => by rw [← hAe]; exact Or.inr h
  have hS : va_S A s.heap s.heap [] := va_S.rf
  have hi0 : ∀ w ∈ u_ws RX0 TX0 7, w ∈ wsX0_init := by decide +kernel
  have hl : lv_has ls 1 [(0, .ref h0)] := hl
  refine lv_aload_n hx hb dX0_init_0 rfl (lv_at hl 0 rfl) ?_
  refine W.objInit hx hb hown (hts (.methodLink RX0 1 objectInit) (by decide +kernel)) (hts (.instanceMethod objectInit) (by decide +kernel)) (hts (.code objectInit ⟨#[0xb1]⟩ 1 none) (by decide +kernel)) rfl (by rw [hml]; exact hl.1) rfl dX0_init_1 (Nat.le_of_ble_eq_true rfl) (Nat.le_of_ble_eq_true rfl) ?_
  refine W.eq (g2 := F0 mi 4 ls []) rfl ?_
  refine lv_aload_n hx hb dX0_init_4 rfl (lv_at hl 0 rfl) ?_
  refine lv_iconst (v := nI 4) hx hb dX0_init_5 (by decide) ?_
  refine va_newa (atype := .long) (a0 := (4, .inr (.inl (fun _ => 0)))) hx hb (hts (.arrayClass .long) (by decide +kernel)) rfl hK hP hD hS hA (fun _ => rfl) (by decide) (by decide) (by decide) (Nat.le_of_ble_eq_true rfl) (Nat.le_of_ble_eq_true rfl) dX0_init_6 (fun q1 cJ1 H hK hP hD hS => ?_)
  have hK : va_K D vwCl ([] ++ [(cJ1, .long)]) s := hK
  have hK : va_K D vwCl [(cJ1, .long)] s := hK
  have hP : va_P D vwCl [(h0, .inr (0, [.null, .null, .null, .null, .int (nI 0), .int (nI 0), .null])), (q1, .inl (cJ1, 4, .inr (.inl (fun _ => 0))))] H := hP
  have hD : va_D A [(h0, .inr (0, [.null, .null, .null, .null, .int (nI 0), .int (nI 0), .null])), (q1, .inl (cJ1, 4, .inr (.inl (fun _ => 0))))] := hD
  refine W.widen (k := 1) (n := 4) (by omega) (by omega) ?_
  refine va_putF (ci := 0) (v := .ref q1) (ty := .array .long) (C := RX0) (T := TX0) (N := 7) hx hb hts hi0 tyX0 tyX0_ok nmX0 hown hK hP hD hS 0 rfl rfl 0 (by decide) (hts (.fieldLink RX0 9 "HotGround$Ground" "mass" "[J") (by decide +kernel)) (fun _ h9 => h9) rfl hnm rfl (by decide +kernel) rfl rfl (Nat.le_of_ble_eq_true rfl) dX0_init_8 (fun H locs hP hD hS => ?_)
  have hP : va_P D vwCl [(h0, .inr (0, [.ref q1, .null, .null, .null, .int (nI 0), .int (nI 0), .null])), (q1, .inl (cJ1, 4, .inr (.inl (fun _ => 0))))] H := hP
  have hD : va_D A [(h0, .inr (0, [.ref q1, .null, .null, .null, .int (nI 0), .int (nI 0), .null])), (q1, .inl (cJ1, 4, .inr (.inl (fun _ => 0))))] := hD
  refine lv_aload_n hx hb dX0_init_11 rfl (lv_at hl 0 rfl) ?_
  refine lv_iconst (v := nI 4) hx hb dX0_init_12 (by decide) ?_
  refine va_newa (atype := .long) (a0 := (4, .inr (.inl (fun _ => 0)))) hx hb (hts (.arrayClass .long) (by decide +kernel)) rfl hK hP hD hS hA (fun _ => rfl) (by decide) (by decide) (by decide) (Nat.le_of_ble_eq_true rfl) (Nat.le_of_ble_eq_true rfl) dX0_init_13 (fun q2 cJ2 H hK hP hD hS => ?_)
  have hK : va_K D vwCl ([(cJ1, .long)] ++ [(cJ2, .long)]) s := hK
  obtain rfl : cJ1 = cJ2 := h_tyu hK (i := 0) (j := 1) rfl rfl (by decide)
  have hK : va_K D vwCl [(cJ1, .long)] s := hK.sub [0] rfl
  have hP : va_P D vwCl [(h0, .inr (0, [.ref q1, .null, .null, .null, .int (nI 0), .int (nI 0), .null])), (q1, .inl (cJ1, 4, .inr (.inl (fun _ => 0)))), (q2, .inl (cJ1, 4, .inr (.inl (fun _ => 0))))] H := hP
  have hD : va_D A [(h0, .inr (0, [.ref q1, .null, .null, .null, .int (nI 0), .int (nI 0), .null])), (q1, .inl (cJ1, 4, .inr (.inl (fun _ => 0)))), (q2, .inl (cJ1, 4, .inr (.inl (fun _ => 0))))] := hD
  refine W.widen (k := 2) (n := 8) (by omega) (by omega) ?_
  refine va_putF (ci := 0) (v := .ref q2) (ty := .array .long) (C := RX0) (T := TX0) (N := 7) hx hb hts hi0 tyX0 tyX0_ok nmX0 hown hK hP hD hS 0 rfl rfl 1 (by decide) (hts (.fieldLink RX0 13 "HotGround$Ground" "heat" "[J") (by decide +kernel)) (fun _ h9 => h9) rfl hnm rfl (by decide +kernel) rfl rfl (Nat.le_of_ble_eq_true rfl) dX0_init_15 (fun H locs hP hD hS => ?_)
  have hP : va_P D vwCl [(h0, .inr (0, [.ref q1, .ref q2, .null, .null, .int (nI 0), .int (nI 0), .null])), (q1, .inl (cJ1, 4, .inr (.inl (fun _ => 0)))), (q2, .inl (cJ1, 4, .inr (.inl (fun _ => 0))))] H := hP
  have hD : va_D A [(h0, .inr (0, [.ref q1, .ref q2, .null, .null, .int (nI 0), .int (nI 0), .null])), (q1, .inl (cJ1, 4, .inr (.inl (fun _ => 0)))), (q2, .inl (cJ1, 4, .inr (.inl (fun _ => 0))))] := hD
  refine lv_aload_n hx hb dX0_init_18 rfl (lv_at hl 0 rfl) ?_
  refine lv_iconst (v := nI 4) hx hb dX0_init_19 (by decide) ?_
  refine va_newa (atype := .int) (a0 := (4, .inl (fun _ => nI 0))) hx hb (hts (.arrayClass .int) (by decide +kernel)) rfl hK hP hD hS hA (fun _ => rfl) (by decide) (by decide) (by decide) (Nat.le_of_ble_eq_true rfl) (Nat.le_of_ble_eq_true rfl) dX0_init_20 (fun q3 cI3 H hK hP hD hS => ?_)
  have hK : va_K D vwCl ([(cJ1, .long)] ++ [(cI3, .int)]) s := hK
  have hK : va_K D vwCl [(cJ1, .long), (cI3, .int)] s := hK
  have hP : va_P D vwCl [(h0, .inr (0, [.ref q1, .ref q2, .null, .null, .int (nI 0), .int (nI 0), .null])), (q1, .inl (cJ1, 4, .inr (.inl (fun _ => 0)))), (q2, .inl (cJ1, 4, .inr (.inl (fun _ => 0)))), (q3, .inl (cI3, 4, .inl (fun _ => nI 0)))] H := hP
  have hD : va_D A [(h0, .inr (0, [.ref q1, .ref q2, .null, .null, .int (nI 0), .int (nI 0), .null])), (q1, .inl (cJ1, 4, .inr (.inl (fun _ => 0)))), (q2, .inl (cJ1, 4, .inr (.inl (fun _ => 0)))), (q3, .inl (cI3, 4, .inl (fun _ => nI 0)))] := hD
  refine W.widen (k := 3) (n := 12) (by omega) (by omega) ?_
  refine va_putF (ci := 0) (v := .ref q3) (ty := .array .int) (C := RX0) (T := TX0) (N := 7) hx hb hts hi0 tyX0 tyX0_ok nmX0 hown hK hP hD hS 0 rfl rfl 2 (by decide) (hts (.fieldLink RX0 16 "HotGround$Ground" "feed" "[I") (by decide +kernel)) (fun _ h9 => h9) rfl hnm rfl (by decide +kernel) rfl rfl (Nat.le_of_ble_eq_true rfl) dX0_init_22 (fun H locs hP hD hS => ?_)
  have hP : va_P D vwCl [(h0, .inr (0, [.ref q1, .ref q2, .ref q3, .null, .int (nI 0), .int (nI 0), .null])), (q1, .inl (cJ1, 4, .inr (.inl (fun _ => 0)))), (q2, .inl (cJ1, 4, .inr (.inl (fun _ => 0)))), (q3, .inl (cI3, 4, .inl (fun _ => nI 0)))] H := hP
  have hD : va_D A [(h0, .inr (0, [.ref q1, .ref q2, .ref q3, .null, .int (nI 0), .int (nI 0), .null])), (q1, .inl (cJ1, 4, .inr (.inl (fun _ => 0)))), (q2, .inl (cJ1, 4, .inr (.inl (fun _ => 0)))), (q3, .inl (cI3, 4, .inl (fun _ => nI 0)))] := hD
  refine lv_aload_n hx hb dX0_init_25 rfl (lv_at hl 0 rfl) ?_
  refine lv_iconst (v := nI 3) hx hb dX0_init_26 (by decide) ?_
  refine va_newa (atype := .int) (a0 := (3, .inl (fun _ => nI 0))) hx hb (hts (.arrayClass .int) (by decide +kernel)) rfl hK hP hD hS hA (fun _ => rfl) (by decide) (by decide) (by decide) (Nat.le_of_ble_eq_true rfl) (Nat.le_of_ble_eq_true rfl) dX0_init_27 (fun q4 cI4 H hK hP hD hS => ?_)
  have hK : va_K D vwCl ([(cJ1, .long), (cI3, .int)] ++ [(cI4, .int)]) s := hK
  obtain rfl : cI3 = cI4 := h_tyu hK (i := 1) (j := 2) rfl rfl (by decide)
  have hK : va_K D vwCl [(cJ1, .long), (cI3, .int)] s := hK.sub [0, 1] rfl
  have hP : va_P D vwCl [(h0, .inr (0, [.ref q1, .ref q2, .ref q3, .null, .int (nI 0), .int (nI 0), .null])), (q1, .inl (cJ1, 4, .inr (.inl (fun _ => 0)))), (q2, .inl (cJ1, 4, .inr (.inl (fun _ => 0)))), (q3, .inl (cI3, 4, .inl (fun _ => nI 0))), (q4, .inl (cI3, 3, .inl (fun _ => nI 0)))] H := hP
  have hD : va_D A [(h0, .inr (0, [.ref q1, .ref q2, .ref q3, .null, .int (nI 0), .int (nI 0), .null])), (q1, .inl (cJ1, 4, .inr (.inl (fun _ => 0)))), (q2, .inl (cJ1, 4, .inr (.inl (fun _ => 0)))), (q3, .inl (cI3, 4, .inl (fun _ => nI 0))), (q4, .inl (cI3, 3, .inl (fun _ => nI 0)))] := hD
  refine W.widen (k := 4) (n := 15) (by omega) (by omega) ?_
  refine lv_dup hx hb dX0_init_29 rfl ?_
  refine lv_iconst (v := nI 0) hx hb dX0_init_30 (by decide) ?_
  refine lv_sipush (v := nI 1000) hx hb dX0_init_31 (by decide) ?_
  refine h_iast (f := fun _ => nI 0) (ws' := [(h0, .inr (0, [.ref q1, .ref q2, .ref q3, .null, .int (nI 0), .int (nI 0), .null])), (q1, .inl (cJ1, 4, .inr (.inl (fun _ => 0)))), (q2, .inl (cJ1, 4, .inr (.inl (fun _ => 0)))), (q3, .inl (cI3, 4, .inl (fun _ => nI 0))), (q4, .inl (cI3, 3, .inl (upd (fun _ => nI 0) 0 (nI 1000))))]) hx hb hK hP hD hS 4 1 rfl rfl 0 rfl (by decide) (by decide) rfl dX0_init_34 (fun H locs hP hD hS => ?_)
  refine lv_dup hx hb dX0_init_35 rfl ?_
  refine lv_iconst (v := nI 1) hx hb dX0_init_36 (by decide) ?_
  refine lv_sipush (v := nI 1000) hx hb dX0_init_37 (by decide) ?_
  refine h_iast (f := upd (fun _ => nI 0) 0 (nI 1000)) (ws' := [(h0, .inr (0, [.ref q1, .ref q2, .ref q3, .null, .int (nI 0), .int (nI 0), .null])), (q1, .inl (cJ1, 4, .inr (.inl (fun _ => 0)))), (q2, .inl (cJ1, 4, .inr (.inl (fun _ => 0)))), (q3, .inl (cI3, 4, .inl (fun _ => nI 0))), (q4, .inl (cI3, 3, .inl (upd (upd (fun _ => nI 0) 0 (nI 1000)) 1 (nI 1000))))]) hx hb hK hP hD hS 4 1 rfl rfl 1 rfl (by decide) (by decide) rfl dX0_init_40 (fun H locs hP hD hS => ?_)
  refine lv_dup hx hb dX0_init_41 rfl ?_
  refine lv_iconst (v := nI 2) hx hb dX0_init_42 (by decide) ?_
  refine lv_sipush (v := nI 1000) hx hb dX0_init_43 (by decide) ?_
  refine h_iast (f := upd (upd (fun _ => nI 0) 0 (nI 1000)) 1 (nI 1000)) (ws' := [(h0, .inr (0, [.ref q1, .ref q2, .ref q3, .null, .int (nI 0), .int (nI 0), .null])), (q1, .inl (cJ1, 4, .inr (.inl (fun _ => 0)))), (q2, .inl (cJ1, 4, .inr (.inl (fun _ => 0)))), (q3, .inl (cI3, 4, .inl (fun _ => nI 0))), (q4, .inl (cI3, 3, .inl (upd (upd (upd (fun _ => nI 0) 0 (nI 1000)) 1 (nI 1000)) 2 (nI 1000))))]) hx hb hK hP hD hS 4 1 rfl rfl 2 rfl (by decide) (by decide) rfl dX0_init_46 (fun H locs hP hD hS => ?_)
  refine va_putF (ci := 0) (v := .ref q4) (ty := .array .int) (C := RX0) (T := TX0) (N := 7) hx hb hts hi0 tyX0 tyX0_ok nmX0 hown hK hP hD hS 0 rfl rfl 3 (by decide) (hts (.fieldLink RX0 20 "HotGround$Ground" "leak" "[I") (by decide +kernel)) (fun _ h9 => h9) rfl hnm rfl (by decide +kernel) rfl rfl (Nat.le_of_ble_eq_true rfl) dX0_init_47 (fun H locs hP hD hS => ?_)
  have hP : va_P D vwCl [(h0, .inr (0, [.ref q1, .ref q2, .ref q3, .ref q4, .int (nI 0), .int (nI 0), .null])), (q1, .inl (cJ1, 4, .inr (.inl (fun _ => 0)))), (q2, .inl (cJ1, 4, .inr (.inl (fun _ => 0)))), (q3, .inl (cI3, 4, .inl (fun _ => nI 0))), (q4, .inl (cI3, 3, .inl (upd (upd (upd (fun _ => nI 0) 0 (nI 1000)) 1 (nI 1000)) 2 (nI 1000))))] H := hP
  have hD : va_D A [(h0, .inr (0, [.ref q1, .ref q2, .ref q3, .ref q4, .int (nI 0), .int (nI 0), .null])), (q1, .inl (cJ1, 4, .inr (.inl (fun _ => 0)))), (q2, .inl (cJ1, 4, .inr (.inl (fun _ => 0)))), (q3, .inl (cI3, 4, .inl (fun _ => nI 0))), (q4, .inl (cI3, 3, .inl (upd (upd (upd (fun _ => nI 0) 0 (nI 1000)) 1 (nI 1000)) 2 (nI 1000))))] := hD
  refine lv_aload_n hx hb dX0_init_50 rfl (lv_at hl 0 rfl) ?_
  refine lv_bipush (v := nI 9) hx hb dX0_init_51 (by decide) ?_
  refine va_newa (atype := .long) (a0 := (9, .inr (.inl (fun _ => 0)))) hx hb (hts (.arrayClass .long) (by decide +kernel)) rfl hK hP hD hS hA (fun _ => rfl) (by decide) (by decide) (by decide) (Nat.le_of_ble_eq_true rfl) (Nat.le_of_ble_eq_true rfl) dX0_init_53 (fun q5 cJ5 H hK hP hD hS => ?_)
  have hK : va_K D vwCl ([(cJ1, .long), (cI3, .int)] ++ [(cJ5, .long)]) s := hK
  obtain rfl : cJ1 = cJ5 := h_tyu hK (i := 0) (j := 2) rfl rfl (by decide)
  have hK : va_K D vwCl [(cJ1, .long), (cI3, .int)] s := hK.sub [0, 1] rfl
  have hP : va_P D vwCl [(h0, .inr (0, [.ref q1, .ref q2, .ref q3, .ref q4, .int (nI 0), .int (nI 0), .null])), (q1, .inl (cJ1, 4, .inr (.inl (fun _ => 0)))), (q2, .inl (cJ1, 4, .inr (.inl (fun _ => 0)))), (q3, .inl (cI3, 4, .inl (fun _ => nI 0))), (q4, .inl (cI3, 3, .inl (upd (upd (upd (fun _ => nI 0) 0 (nI 1000)) 1 (nI 1000)) 2 (nI 1000)))), (q5, .inl (cJ1, 9, .inr (.inl (fun _ => 0))))] H := hP
  have hD : va_D A [(h0, .inr (0, [.ref q1, .ref q2, .ref q3, .ref q4, .int (nI 0), .int (nI 0), .null])), (q1, .inl (cJ1, 4, .inr (.inl (fun _ => 0)))), (q2, .inl (cJ1, 4, .inr (.inl (fun _ => 0)))), (q3, .inl (cI3, 4, .inl (fun _ => nI 0))), (q4, .inl (cI3, 3, .inl (upd (upd (upd (fun _ => nI 0) 0 (nI 1000)) 1 (nI 1000)) 2 (nI 1000)))), (q5, .inl (cJ1, 9, .inr (.inl (fun _ => 0))))] := hD
  refine W.widen (k := 5) (n := 24) (by omega) (by omega) ?_
  refine va_putF (ci := 0) (v := .ref q5) (ty := .array .long) (C := RX0) (T := TX0) (N := 7) hx hb hts hi0 tyX0 tyX0_ok nmX0 hown hK hP hD hS 0 rfl rfl 6 (by decide) (hts (.fieldLink RX0 23 "HotGround$Ground" "sums" "[J") (by decide +kernel)) (fun _ h9 => h9) rfl hnm rfl (by decide +kernel) rfl rfl (Nat.le_of_ble_eq_true rfl) dX0_init_55 (fun H locs hP hD hS => ?_)
  have hP : va_P D vwCl [(h0, .inr (0, [.ref q1, .ref q2, .ref q3, .ref q4, .int (nI 0), .int (nI 0), .ref q5])), (q1, .inl (cJ1, 4, .inr (.inl (fun _ => 0)))), (q2, .inl (cJ1, 4, .inr (.inl (fun _ => 0)))), (q3, .inl (cI3, 4, .inl (fun _ => nI 0))), (q4, .inl (cI3, 3, .inl (upd (upd (upd (fun _ => nI 0) 0 (nI 1000)) 1 (nI 1000)) 2 (nI 1000)))), (q5, .inl (cJ1, 9, .inr (.inl (fun _ => 0))))] H := hP
  have hD : va_D A [(h0, .inr (0, [.ref q1, .ref q2, .ref q3, .ref q4, .int (nI 0), .int (nI 0), .ref q5])), (q1, .inl (cJ1, 4, .inr (.inl (fun _ => 0)))), (q2, .inl (cJ1, 4, .inr (.inl (fun _ => 0)))), (q3, .inl (cI3, 4, .inl (fun _ => nI 0))), (q4, .inl (cI3, 3, .inl (upd (upd (upd (fun _ => nI 0) 0 (nI 1000)) 1 (nI 1000)) 2 (nI 1000)))), (q5, .inl (cJ1, 9, .inr (.inl (fun _ => 0))))] := hD
  exact W.vret hx hb hr (fun t ht hW => ⟨⟨(), rfl, trivial, q1, q2, q3, q4, q5, cJ1, cI3, by rw [ht]; exact hP, va_K.moved hW.alike hK, hD⟩, hS.F ht⟩) hS.2.2 dX0_init_58
set_option maxHeartbeats 4000000 in
set_option maxRecDepth 100000 in
theorem m_X1_init (l : Launch) (D : va_G) (h0 : Nat) (sz : Nat) : Met l yX1_init wsX1_init ({ frames := 1, cells := 2, slots := 18, locals := 12 }) (va_Pc [.ref h0] (hg_Wr D [(h0, .inr (1, [.int (nI 0), .null, .null]))] [] sz)) (va_Qv (fun (_ : Unit) => True) (fun _ t => ∃ (q1 q2 : Nat) (cI1 : ClassId), va_P D vwCl [(h0, .inr (1, [.int (nI 0), .ref q1, .ref q2])), (q1, .inl (cI1, 6, .inl (fun _ => nI 0))), (q2, .inl (cI1, 12, .inl (fun _ => nI 0)))] t.heap ∧ va_K D vwCl [(cI1, .int)] t ∧ va_D (va_A [(h0, .inr (1, [.int (nI 0), .null, .null]))] sz) [(h0, .inr (1, [.int (nI 0), .ref q1, .ref q2])), (q1, .inl (cI1, 6, .inl (fun _ => nI 0))), (q2, .inl (cI1, 12, .inl (fun _ => nI 0)))]) (va_A [(h0, .inr (1, [.int (nI 0), .null, .null]))] sz)) 2 18 (va_A [(h0, .inr (1, [.int (nI 0), .null, .null]))] sz) := by
  refine h_start (cc := cX1_init) (maxL := 1) (ret := none) (by decide) rfl (Nat.le_of_ble_eq_true rfl) ?_
  intro pg ev s mi args below meth cd ls hx hb hr hts hown hlocks hml hnm hpic hl
  obtain ⟨hsz, hP, hK, hD0⟩ := hpic
  subst hsz
  have hD := hD0.self (sz := s.heap.size)
  generalize hAe : va_A [(h0, .inr (1, [.int (nI 0), .null, .null]))] s.heap.size = A at hD ⊢
  have hA : ∀ q : Nat, s.heap.size ≤ q → A q := fun q h => by rw [← hAe]; exact Or.inr h
  have hS : va_S A s.heap s.heap [] := va_S.rf
  have hi1 : ∀ w ∈ u_ws RX1 TX1 3, w ∈ wsX1_init := by decide +kernel
  have hl : lv_has ls 1 [(0, .ref h0)] := hl
  refine lv_aload_n hx hb dX1_init_0 rfl (lv_at hl 0 rfl) ?_
  refine W.objInit hx hb hown (hts (.methodLink RX1 1 objectInit) (by decide +kernel)) (hts (.instanceMethod objectInit) (by decide +kernel)) (hts (.code objectInit ⟨#[0xb1]⟩ 1 none) (by decide +kernel)) rfl (by rw [hml]; exact hl.1) rfl dX1_init_1 (Nat.le_of_ble_eq_true rfl) (Nat.le_of_ble_eq_true rfl) ?_
  refine W.eq (g2 := F0 mi 4 ls []) rfl ?_
  refine lv_aload_n hx hb dX1_init_4 rfl (lv_at hl 0 rfl) ?_
  refine lv_bipush (v := nI 6) hx hb dX1_init_5 (by decide) ?_
  refine va_newa (atype := .int) (a0 := (6, .inl (fun _ => nI 0))) hx hb (hts (.arrayClass .int) (by decide +kernel)) rfl hK hP hD hS hA (fun _ => rfl) (by decide) (by decide) (by decide) (Nat.le_of_ble_eq_true rfl) (Nat.le_of_ble_eq_true rfl) dX1_init_7 (fun q1 cI1 H hK hP hD hS => ?_)
  have hK : va_K D vwCl ([] ++ [(cI1, .int)]) s := hK
  have hK : va_K D vwCl [(cI1, .int)] s := hK
  have hP : va_P D vwCl [(h0, .inr (1, [.int (nI 0), .null, .null])), (q1, .inl (cI1, 6, .inl (fun _ => nI 0)))] H := hP
  have hD : va_D A [(h0, .inr (1, [.int (nI 0), .null, .null])), (q1, .inl (cI1, 6, .inl (fun _ => nI 0)))] := hD
  refine W.widen (k := 1) (n := 6) (by omega) (by omega) ?_
  refine va_putF (ci := 1) (v := .ref q1) (ty := .array .int) (C := RX1) (T := TX1) (N := 3) hx hb hts hi1 tyX1 tyX1_ok nmX1 hown hK hP hD hS 0 rfl rfl 1 (by decide) (hts (.fieldLink RX1 9 "HotGround$Kernel" "shares" "[I") (by decide +kernel)) (fun _ h9 => h9) rfl hnm rfl (by decide +kernel) rfl rfl (Nat.le_of_ble_eq_true rfl) dX1_init_9 (fun H locs hP hD hS => ?_)
  have hP : va_P D vwCl [(h0, .inr (1, [.int (nI 0), .ref q1, .null])), (q1, .inl (cI1, 6, .inl (fun _ => nI 0)))] H := hP
  have hD : va_D A [(h0, .inr (1, [.int (nI 0), .ref q1, .null])), (q1, .inl (cI1, 6, .inl (fun _ => nI 0)))] := hD
  refine lv_aload_n hx hb dX1_init_12 rfl (lv_at hl 0 rfl) ?_
  refine lv_bipush (v := nI 12) hx hb dX1_init_13 (by decide) ?_
  refine va_newa (atype := .int) (a0 := (12, .inl (fun _ => nI 0))) hx hb (hts (.arrayClass .int) (by decide +kernel)) rfl hK hP hD hS hA (fun _ => rfl) (by decide) (by decide) (by decide) (Nat.le_of_ble_eq_true rfl) (Nat.le_of_ble_eq_true rfl) dX1_init_15 (fun q2 cI2 H hK hP hD hS => ?_)
  have hK : va_K D vwCl ([(cI1, .int)] ++ [(cI2, .int)]) s := hK
  obtain rfl : cI1 = cI2 := h_tyu hK (i := 0) (j := 1) rfl rfl (by decide)
  have hK : va_K D vwCl [(cI1, .int)] s := hK.sub [0] rfl
  have hP : va_P D vwCl [(h0, .inr (1, [.int (nI 0), .ref q1, .null])), (q1, .inl (cI1, 6, .inl (fun _ => nI 0))), (q2, .inl (cI1, 12, .inl (fun _ => nI 0)))] H := hP
  have hD : va_D A [(h0, .inr (1, [.int (nI 0), .ref q1, .null])), (q1, .inl (cI1, 6, .inl (fun _ => nI 0))), (q2, .inl (cI1, 12, .inl (fun _ => nI 0)))] := hD
  refine W.widen (k := 2) (n := 18) (by omega) (by omega) ?_
  refine va_putF (ci := 1) (v := .ref q2) (ty := .array .int) (C := RX1) (T := TX1) (N := 3) hx hb hts hi1 tyX1 tyX1_ok nmX1 hown hK hP hD hS 0 rfl rfl 2 (by decide) (hts (.fieldLink RX1 13 "HotGround$Kernel" "amounts" "[I") (by decide +kernel)) (fun _ h9 => h9) rfl hnm rfl (by decide +kernel) rfl rfl (Nat.le_of_ble_eq_true rfl) dX1_init_17 (fun H locs hP hD hS => ?_)
  have hP : va_P D vwCl [(h0, .inr (1, [.int (nI 0), .ref q1, .ref q2])), (q1, .inl (cI1, 6, .inl (fun _ => nI 0))), (q2, .inl (cI1, 12, .inl (fun _ => nI 0)))] H := hP
  have hD : va_D A [(h0, .inr (1, [.int (nI 0), .ref q1, .ref q2])), (q1, .inl (cI1, 6, .inl (fun _ => nI 0))), (q2, .inl (cI1, 12, .inl (fun _ => nI 0)))] := hD
  exact W.vret hx hb hr (fun t ht hW => ⟨⟨(), rfl, trivial, q1, q2, cI1, by rw [ht]; exact hP, va_K.moved hW.alike hK, hD⟩, hS.F ht⟩) hS.2.2 dX1_init_20
set_option maxHeartbeats 4000000 in
set_option maxRecDepth 100000 in
theorem m_X2_init (l : Launch) (D : va_G) (h0 : Nat) (sz : Nat) : Met l yX2_init wsX2_init ({ frames := 1, cells := 4, slots := 30, locals := 12 }) (va_Pc [.ref h0] (hg_Wr D [(h0, .inr (2, [.int (nI 0), .null, .null, .null, .null]))] [] sz)) (va_Qv (fun (_ : Unit) => True) (fun _ t => ∃ (q1 q2 q3 q4 : Nat) (cI1 : ClassId), va_P D vwCl [(h0, .inr (2, [.int (nI 0), .ref q1, .ref q2, .ref q3, .ref q4])), (q1, .inl (cI1, 8, .inl (fun _ => nI 0))), (q2, .inl (cI1, 8, .inl (fun _ => nI 0))), (q3, .inl (cI1, 8, .inl (fun _ => nI 0))), (q4, .inl (cI1, 6, .inl (fun _ => nI 0)))] t.heap ∧ va_K D vwCl [(cI1, .int)] t ∧ va_D (va_A [(h0, .inr (2, [.int (nI 0), .null, .null, .null, .null]))] sz) [(h0, .inr (2, [.int (nI 0), .ref q1, .ref q2, .ref q3, .ref q4])), (q1, .inl (cI1, 8, .inl (fun _ => nI 0))), (q2, .inl (cI1, 8, .inl (fun _ => nI 0))), (q3, .inl (cI1, 8, .inl (fun _ => nI 0))), (q4, .inl (cI1, 6, .inl (fun _ => nI 0)))]) (va_A [(h0, .inr (2, [.int (nI 0), .null, .null, .null, .null]))] sz)) 4 30 (va_A [(h0, .inr (2, [.int (nI 0), .null, .null, .null, .null]))] sz) := by
  refine h_start (cc := cX2_init) (maxL := 1) (ret := none) (by decide) rfl (Nat.le_of_ble_eq_true rfl) ?_
  intro pg ev s mi args below meth cd ls hx hb hr hts hown hlocks hml hnm hpic hl
  obtain ⟨hsz, hP, hK, hD0⟩ := hpic
  subst hsz
  have hD := hD0.self (sz := s.heap.size)
  generalize hAe : va_A [(h0, .inr (2, [.int (nI 0), .null, .null, .null, .null]))] s.heap.size = A at hD ⊢
  have hA : ∀ q : Nat, s.heap.size ≤ q → A q := fun q h => by rw [← hAe]; exact Or.inr h
  have hS : va_S A s.heap s.heap [] := va_S.rf
  have hi2 : ∀ w ∈ u_ws RX2 TX2 5, w ∈ wsX2_init := by decide +kernel
  have hl : lv_has ls 1 [(0, .ref h0)] := hl
  refine lv_aload_n hx hb dX2_init_0 rfl (lv_at hl 0 rfl) ?_
  refine W.objInit hx hb hown (hts (.methodLink RX2 3 objectInit) (by decide +kernel)) (hts (.instanceMethod objectInit) (by decide +kernel)) (hts (.code objectInit ⟨#[0xb1]⟩ 1 none) (by decide +kernel)) rfl (by rw [hml]; exact hl.1) rfl dX2_init_1 (Nat.le_of_ble_eq_true rfl) (Nat.le_of_ble_eq_true rfl) ?_
  refine W.eq (g2 := F0 mi 4 ls []) rfl ?_
  refine lv_aload_n hx hb dX2_init_4 rfl (lv_at hl 0 rfl) ?_
  refine lv_bipush (v := nI 8) hx hb dX2_init_5 (by decide) ?_
  refine va_newa (atype := .int) (a0 := (8, .inl (fun _ => nI 0))) hx hb (hts (.arrayClass .int) (by decide +kernel)) rfl hK hP hD hS hA (fun _ => rfl) (by decide) (by decide) (by decide) (Nat.le_of_ble_eq_true rfl) (Nat.le_of_ble_eq_true rfl) dX2_init_7 (fun q1 cI1 H hK hP hD hS => ?_)
  have hK : va_K D vwCl ([] ++ [(cI1, .int)]) s := hK
  have hK : va_K D vwCl [(cI1, .int)] s := hK
  have hP : va_P D vwCl [(h0, .inr (2, [.int (nI 0), .null, .null, .null, .null])), (q1, .inl (cI1, 8, .inl (fun _ => nI 0)))] H := hP
  have hD : va_D A [(h0, .inr (2, [.int (nI 0), .null, .null, .null, .null])), (q1, .inl (cI1, 8, .inl (fun _ => nI 0)))] := hD
  refine W.widen (k := 1) (n := 8) (by omega) (by omega) ?_
  refine va_putF (ci := 2) (v := .ref q1) (ty := .array .int) (C := RX2) (T := TX2) (N := 5) hx hb hts hi2 tyX2 tyX2_ok nmX2 hown hK hP hD hS 0 rfl rfl 1 (by decide) (hts (.fieldLink RX2 11 "HotGround$Offers" "cost" "[I") (by decide +kernel)) (fun _ h9 => h9) rfl hnm rfl (by decide +kernel) rfl rfl (Nat.le_of_ble_eq_true rfl) dX2_init_9 (fun H locs hP hD hS => ?_)
  have hP : va_P D vwCl [(h0, .inr (2, [.int (nI 0), .ref q1, .null, .null, .null])), (q1, .inl (cI1, 8, .inl (fun _ => nI 0)))] H := hP
  have hD : va_D A [(h0, .inr (2, [.int (nI 0), .ref q1, .null, .null, .null])), (q1, .inl (cI1, 8, .inl (fun _ => nI 0)))] := hD
  refine lv_aload_n hx hb dX2_init_12 rfl (lv_at hl 0 rfl) ?_
  refine lv_bipush (v := nI 8) hx hb dX2_init_13 (by decide) ?_
  refine va_newa (atype := .int) (a0 := (8, .inl (fun _ => nI 0))) hx hb (hts (.arrayClass .int) (by decide +kernel)) rfl hK hP hD hS hA (fun _ => rfl) (by decide) (by decide) (by decide) (Nat.le_of_ble_eq_true rfl) (Nat.le_of_ble_eq_true rfl) dX2_init_15 (fun q2 cI2 H hK hP hD hS => ?_)
  have hK : va_K D vwCl ([(cI1, .int)] ++ [(cI2, .int)]) s := hK
  obtain rfl : cI1 = cI2 := h_tyu hK (i := 0) (j := 1) rfl rfl (by decide)
  have hK : va_K D vwCl [(cI1, .int)] s := hK.sub [0] rfl
  have hP : va_P D vwCl [(h0, .inr (2, [.int (nI 0), .ref q1, .null, .null, .null])), (q1, .inl (cI1, 8, .inl (fun _ => nI 0))), (q2, .inl (cI1, 8, .inl (fun _ => nI 0)))] H := hP
  have hD : va_D A [(h0, .inr (2, [.int (nI 0), .ref q1, .null, .null, .null])), (q1, .inl (cI1, 8, .inl (fun _ => nI 0))), (q2, .inl (cI1, 8, .inl (fun _ => nI 0)))] := hD
  refine W.widen (k := 2) (n := 16) (by omega) (by omega) ?_
  refine va_putF (ci := 2) (v := .ref q2) (ty := .array .int) (C := RX2) (T := TX2) (N := 5) hx hb hts hi2 tyX2 tyX2_ok nmX2 hown hK hP hD hS 0 rfl rfl 2 (by decide) (hts (.fieldLink RX2 15 "HotGround$Offers" "from" "[I") (by decide +kernel)) (fun _ h9 => h9) rfl hnm rfl (by decide +kernel) rfl rfl (Nat.le_of_ble_eq_true rfl) dX2_init_17 (fun H locs hP hD hS => ?_)
  have hP : va_P D vwCl [(h0, .inr (2, [.int (nI 0), .ref q1, .ref q2, .null, .null])), (q1, .inl (cI1, 8, .inl (fun _ => nI 0))), (q2, .inl (cI1, 8, .inl (fun _ => nI 0)))] H := hP
  have hD : va_D A [(h0, .inr (2, [.int (nI 0), .ref q1, .ref q2, .null, .null])), (q1, .inl (cI1, 8, .inl (fun _ => nI 0))), (q2, .inl (cI1, 8, .inl (fun _ => nI 0)))] := hD
  refine lv_aload_n hx hb dX2_init_20 rfl (lv_at hl 0 rfl) ?_
  refine lv_bipush (v := nI 8) hx hb dX2_init_21 (by decide) ?_
  refine va_newa (atype := .int) (a0 := (8, .inl (fun _ => nI 0))) hx hb (hts (.arrayClass .int) (by decide +kernel)) rfl hK hP hD hS hA (fun _ => rfl) (by decide) (by decide) (by decide) (Nat.le_of_ble_eq_true rfl) (Nat.le_of_ble_eq_true rfl) dX2_init_23 (fun q3 cI3 H hK hP hD hS => ?_)
  have hK : va_K D vwCl ([(cI1, .int)] ++ [(cI3, .int)]) s := hK
  obtain rfl : cI1 = cI3 := h_tyu hK (i := 0) (j := 1) rfl rfl (by decide)
  have hK : va_K D vwCl [(cI1, .int)] s := hK.sub [0] rfl
  have hP : va_P D vwCl [(h0, .inr (2, [.int (nI 0), .ref q1, .ref q2, .null, .null])), (q1, .inl (cI1, 8, .inl (fun _ => nI 0))), (q2, .inl (cI1, 8, .inl (fun _ => nI 0))), (q3, .inl (cI1, 8, .inl (fun _ => nI 0)))] H := hP
  have hD : va_D A [(h0, .inr (2, [.int (nI 0), .ref q1, .ref q2, .null, .null])), (q1, .inl (cI1, 8, .inl (fun _ => nI 0))), (q2, .inl (cI1, 8, .inl (fun _ => nI 0))), (q3, .inl (cI1, 8, .inl (fun _ => nI 0)))] := hD
  refine W.widen (k := 3) (n := 24) (by omega) (by omega) ?_
  refine va_putF (ci := 2) (v := .ref q3) (ty := .array .int) (C := RX2) (T := TX2) (N := 5) hx hb hts hi2 tyX2 tyX2_ok nmX2 hown hK hP hD hS 0 rfl rfl 3 (by decide) (hts (.fieldLink RX2 18 "HotGround$Offers" "steam" "[I") (by decide +kernel)) (fun _ h9 => h9) rfl hnm rfl (by decide +kernel) rfl rfl (Nat.le_of_ble_eq_true rfl) dX2_init_25 (fun H locs hP hD hS => ?_)
  have hP : va_P D vwCl [(h0, .inr (2, [.int (nI 0), .ref q1, .ref q2, .ref q3, .null])), (q1, .inl (cI1, 8, .inl (fun _ => nI 0))), (q2, .inl (cI1, 8, .inl (fun _ => nI 0))), (q3, .inl (cI1, 8, .inl (fun _ => nI 0)))] H := hP
  have hD : va_D A [(h0, .inr (2, [.int (nI 0), .ref q1, .ref q2, .ref q3, .null])), (q1, .inl (cI1, 8, .inl (fun _ => nI 0))), (q2, .inl (cI1, 8, .inl (fun _ => nI 0))), (q3, .inl (cI1, 8, .inl (fun _ => nI 0)))] := hD
  refine lv_aload_n hx hb dX2_init_28 rfl (lv_at hl 0 rfl) ?_
  refine lv_bipush (v := nI 6) hx hb dX2_init_29 (by decide) ?_
  refine va_newa (atype := .int) (a0 := (6, .inl (fun _ => nI 0))) hx hb (hts (.arrayClass .int) (by decide +kernel)) rfl hK hP hD hS hA (fun _ => rfl) (by decide) (by decide) (by decide) (Nat.le_of_ble_eq_true rfl) (Nat.le_of_ble_eq_true rfl) dX2_init_31 (fun q4 cI4 H hK hP hD hS => ?_)
  have hK : va_K D vwCl ([(cI1, .int)] ++ [(cI4, .int)]) s := hK
  obtain rfl : cI1 = cI4 := h_tyu hK (i := 0) (j := 1) rfl rfl (by decide)
  have hK : va_K D vwCl [(cI1, .int)] s := hK.sub [0] rfl
  have hP : va_P D vwCl [(h0, .inr (2, [.int (nI 0), .ref q1, .ref q2, .ref q3, .null])), (q1, .inl (cI1, 8, .inl (fun _ => nI 0))), (q2, .inl (cI1, 8, .inl (fun _ => nI 0))), (q3, .inl (cI1, 8, .inl (fun _ => nI 0))), (q4, .inl (cI1, 6, .inl (fun _ => nI 0)))] H := hP
  have hD : va_D A [(h0, .inr (2, [.int (nI 0), .ref q1, .ref q2, .ref q3, .null])), (q1, .inl (cI1, 8, .inl (fun _ => nI 0))), (q2, .inl (cI1, 8, .inl (fun _ => nI 0))), (q3, .inl (cI1, 8, .inl (fun _ => nI 0))), (q4, .inl (cI1, 6, .inl (fun _ => nI 0)))] := hD
  refine W.widen (k := 4) (n := 30) (by omega) (by omega) ?_
  refine va_putF (ci := 2) (v := .ref q4) (ty := .array .int) (C := RX2) (T := TX2) (N := 5) hx hb hts hi2 tyX2 tyX2_ok nmX2 hown hK hP hD hS 0 rfl rfl 4 (by decide) (hts (.fieldLink RX2 21 "HotGround$Offers" "promised" "[I") (by decide +kernel)) (fun _ h9 => h9) rfl hnm rfl (by decide +kernel) rfl rfl (Nat.le_of_ble_eq_true rfl) dX2_init_33 (fun H locs hP hD hS => ?_)
  have hP : va_P D vwCl [(h0, .inr (2, [.int (nI 0), .ref q1, .ref q2, .ref q3, .ref q4])), (q1, .inl (cI1, 8, .inl (fun _ => nI 0))), (q2, .inl (cI1, 8, .inl (fun _ => nI 0))), (q3, .inl (cI1, 8, .inl (fun _ => nI 0))), (q4, .inl (cI1, 6, .inl (fun _ => nI 0)))] H := hP
  have hD : va_D A [(h0, .inr (2, [.int (nI 0), .ref q1, .ref q2, .ref q3, .ref q4])), (q1, .inl (cI1, 8, .inl (fun _ => nI 0))), (q2, .inl (cI1, 8, .inl (fun _ => nI 0))), (q3, .inl (cI1, 8, .inl (fun _ => nI 0))), (q4, .inl (cI1, 6, .inl (fun _ => nI 0)))] := hD
  exact W.vret hx hb hr (fun t ht hW => ⟨⟨(), rfl, trivial, q1, q2, q3, q4, cI1, by rw [ht]; exact hP, va_K.moved hW.alike hK, hD⟩, hS.F ht⟩) hS.2.2 dX2_init_36
