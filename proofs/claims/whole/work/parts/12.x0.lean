set_option maxHeartbeats 4000000 in
set_option maxRecDepth 100000 in
/-- the heat that a part bears -/
theorem m_X0_heatOf (l : Launch) (D : va_G) (o : Nat → Nat) (cI cJ cZ : ClassId) (S : hg_S) (b : Nat) (hb4 : b < 4) (x : Int64) : Met l yX0_heatOf wsX0_heatOf ({ frames := 0, cells := 0, slots := 0, locals := 0 }) (va_Pc [.ref (o 3), .int (nI b), .long x] (hg_R D (xW o cI cJ cZ S) (hg_ty cI cJ cZ))) (vp_Sl (fun r => r = f_wm S b x)) 0 0 (fun _ => False) := by
  refine h_start (cc := cX0_heatOf) (maxL := 4) (ret := (some .long)) (by decide) rfl (Nat.le_of_ble_eq_true rfl) ?_
  intro pg ev s mi args below meth cd ls hx hb hr hts hown hlocks hml hnm hpic hl
  obtain ⟨hP, hK⟩ := hpic
  have hi0 : ∀ w ∈ u_ws RX0 TX0 7, w ∈ wsX0_heatOf := by decide +kernel
  have hl : lv_has ls 4 [(0, .ref (o 3)), (1, .int (nI b)), (2, .long x)] := hl
  refine lv_aload_n hx hb dX0_heatOf_0 rfl (lv_at hl 0 rfl) ?_
  refine va_get (C := RX0) (T := TX0) (N := 7) (v := .ref (o 15)) hx hb hts hi0 hown hK hP 3 rfl rfl 0 (by decide) (hts (.fieldLink RX0 9 "HotGround$Ground" "mass" "[J") (by decide +kernel)) (fun _ h9 => h9) rfl dX0_heatOf_1 ?_
  refine lv_iload_n hx hb dX0_heatOf_4 rfl (lv_at hl 1 rfl) ?_
  refine h_lald (f := hg_l S 0) hx hb hK hP 15 1 rfl rfl b (rfl) (by omega) (by decide) dX0_heatOf_5 ?_
  refine lv_lconst (v := 0) hx hb dX0_heatOf_6 (by decide) ?_
  refine W.lcmp hx hb dX0_heatOf_7 ?_
  refine lv_if_gt (tgt := 15) hx hb dX0_heatOf_8 (by decide) (fun c_8 => ?_) (fun c_8 => ?_)
  · skip
    have c8 := (lg_cmp_gt _ _).mp c_8
    refine lv_lload_n hx hb dX0_heatOf_15 rfl (lv_at hl 2 rfl) ?_
    refine lv_aload_n hx hb dX0_heatOf_16 rfl (lv_at hl 0 rfl) ?_
    refine va_get (C := RX0) (T := TX0) (N := 7) (v := .ref (o 16)) hx hb hts hi0 hown hK hP 3 rfl rfl 1 (by decide) (hts (.fieldLink RX0 13 "HotGround$Ground" "heat" "[J") (by decide +kernel)) (fun _ h9 => h9) rfl dX0_heatOf_17 ?_
    refine lv_iload_n hx hb dX0_heatOf_20 rfl (lv_at hl 1 rfl) ?_
    refine h_lald (f := hg_l S 1) hx hb hK hP 16 1 rfl rfl b (rfl) (by omega) (by decide) dX0_heatOf_21 ?_
    refine lv_lmul hx hb dX0_heatOf_22 ?_
    refine lv_aload_n hx hb dX0_heatOf_23 rfl (lv_at hl 0 rfl) ?_
    refine va_get (C := RX0) (T := TX0) (N := 7) (v := .ref (o 15)) hx hb hts hi0 hown hK hP 3 rfl rfl 0 (by decide) (hts (.fieldLink RX0 9 "HotGround$Ground" "mass" "[J") (by decide +kernel)) (fun _ h9 => h9) rfl dX0_heatOf_24 ?_
    refine lv_iload_n hx hb dX0_heatOf_27 rfl (lv_at hl 1 rfl) ?_
    refine h_lald (f := hg_l S 0) hx hb hK hP 15 1 rfl rfl b (rfl) (by omega) (by decide) dX0_heatOf_28 ?_
    refine lv_ldiv hx hb dX0_heatOf_29 (fun h => by rw [h] at c8; exact absurd c8 (by decide)) ?_
    exact W.lret (v := (x * (hg_l S 1 b)) / (hg_l S 0 b)) hx hb hr (fun t ht hW => ⟨_, rfl, by unfold f_wm f_warm; rw [if_pos c8], ht⟩) (fun _ h9 => nomatch h9) dX0_heatOf_30
  · skip
    have c8 : ¬ (0 : Int64) < hg_l S 0 b := fun h => c_8 ((lg_cmp_gt _ _).mpr h)
    refine lv_lconst (v := 0) hx hb dX0_heatOf_11 (by decide) ?_
    refine lv_goto (tgt := 30) hx hb dX0_heatOf_12 (by decide) ?_
    exact W.lret (v := 0) hx hb hr (fun t ht hW => ⟨_, rfl, by unfold f_wm f_warm; rw [if_neg c8], ht⟩) (fun _ h9 => nomatch h9) dX0_heatOf_30
set_option maxHeartbeats 4000000 in
set_option maxRecDepth 100000 in
/-- into a box -/
theorem m_X0_pour (l : Launch) (D : va_G) (o : Nat → Nat) (cI cJ cZ : ClassId) (S : hg_S) (sz : Nat) (b : Nat) (hb4 : b < 4) (m1 h1 : Int64) : Met l yX0_pour wsX0_pour ({ frames := 0, cells := 0, slots := 0, locals := 0 }) (va_Pc [.ref (o 3), .int (nI b), .long m1, .long h1] (hg_Wr D (xW o cI cJ cZ S) (hg_ty cI cJ cZ) sz)) (va_Qv (fun (_ : Unit) => True) (fun _ t => hg_At D (xW o cI cJ cZ (s_pour S b m1 h1)) (va_A (xW o cI cJ cZ S) sz) t) (va_A (xW o cI cJ cZ S) sz)) 0 0 (va_A (xW o cI cJ cZ S) sz) := by
  refine h_start (cc := cX0_pour) (maxL := 6) (ret := none) (by decide) rfl (Nat.le_of_ble_eq_true rfl) ?_
  intro pg ev s mi args below meth cd ls hx hb hr hts hown hlocks hml hnm hpic hl
  obtain ⟨hsz, hP, hK, hD0⟩ := hpic
  subst hsz
  have hD := hD0.self (sz := s.heap.size)
  generalize hAe : va_A (xW o cI cJ cZ S) s.heap.size = A at hD ⊢
  have hA : ∀ q : Nat, s.heap.size ≤ q → A q := fun q h => by rw [← hAe]; exact Or.inr h
  have hS : va_S A s.heap s.heap [] := va_S.rf
  have hi0 : ∀ w ∈ u_ws RX0 TX0 7, w ∈ wsX0_pour := by decide +kernel
  have hl : lv_has ls 6 [(0, .ref (o 3)), (1, .int (nI b)), (2, .long m1), (4, .long h1)] := hl
  refine lv_aload_n hx hb dX0_pour_0 rfl (lv_at hl 0 rfl) ?_
  refine va_get (C := RX0) (T := TX0) (N := 7) (v := .ref (o 15)) hx hb hts hi0 hown hK hP 3 rfl rfl 0 (by decide) (hts (.fieldLink RX0 9 "HotGround$Ground" "mass" "[J") (by decide +kernel)) (fun _ h9 => h9) rfl dX0_pour_1 ?_
  refine lv_iload_n hx hb dX0_pour_4 rfl (lv_at hl 1 rfl) ?_
  refine lv_dup2_11 hx hb dX0_pour_5 rfl rfl ?_
  refine h_lald (f := hg_l S 0) hx hb hK hP 15 1 rfl rfl b (rfl) (by omega) (by decide) dX0_pour_6 ?_
  refine lv_lload_n hx hb dX0_pour_7 rfl (lv_at hl 2 rfl) ?_
  refine lv_ladd hx hb dX0_pour_8 ?_
  refine lv_topl (fun z_1 ez_1 => ?_)
  refine h_last (f := hg_l S 0) (ws' := xW o cI cJ cZ (hg_sl S 0 (vp_updL (hg_l S 0) b z_1))) hx hb hK hP hD hS 15 1 rfl rfl b (rfl) (by omega) (by decide) rfl dX0_pour_9 (fun H locs hP hD hS => ?_)
  refine lv_aload_n hx hb dX0_pour_10 rfl (lv_at hl 0 rfl) ?_
  refine va_get (C := RX0) (T := TX0) (N := 7) (v := .ref (o 16)) hx hb hts hi0 hown hK hP 3 rfl rfl 1 (by decide) (hts (.fieldLink RX0 13 "HotGround$Ground" "heat" "[J") (by decide +kernel)) (fun _ h9 => h9) rfl dX0_pour_11 ?_
  refine lv_iload_n hx hb dX0_pour_14 rfl (lv_at hl 1 rfl) ?_
  refine lv_dup2_11 hx hb dX0_pour_15 rfl rfl ?_
  refine h_lald (f := hg_l S 1) hx hb hK hP 16 1 rfl rfl b (rfl) (by omega) (by decide) dX0_pour_16 ?_
  refine lv_lload hx hb dX0_pour_17 (lv_at hl 3 rfl) ?_
  refine lv_ladd hx hb dX0_pour_19 ?_
  refine lv_topl (fun z_2 ez_2 => ?_)
  refine h_last (f := hg_l S 1) (ws' := xW o cI cJ cZ (hg_sl (hg_sl S 0 (vp_updL (hg_l S 0) b z_1)) 1 (vp_updL (hg_l S 1) b z_2))) hx hb hK hP hD hS 16 1 rfl rfl b (rfl) (by omega) (by decide) rfl dX0_pour_20 (fun H locs hP hD hS => ?_)
  subst ez_2
  subst ez_1
  exact W.vret hx hb hr (fun t ht hW => ⟨⟨(), rfl, trivial, ⟨by rw [ht]; exact hP, hD⟩⟩, hS.F ht⟩) hS.2.2 dX0_pour_21
set_option maxHeartbeats 4000000 in
set_option maxRecDepth 100000 in
/-- into the sums -/
theorem m_X0_book (l : Launch) (D : va_G) (o : Nat → Nat) (cI cJ cZ : ClassId) (S : hg_S) (sz : Nat) (k : Nat) (hk8 : k < 8) (m1 h1 : Int64) : Met l yX0_book wsX0_book ({ frames := 0, cells := 0, slots := 0, locals := 0 }) (va_Pc [.ref (o 3), .int (nI k), .long m1, .long h1] (hg_Wr D (xW o cI cJ cZ S) (hg_ty cI cJ cZ) sz)) (va_Qv (fun (_ : Unit) => True) (fun _ t => hg_At D (xW o cI cJ cZ (s_book S k m1 h1)) (va_A (xW o cI cJ cZ S) sz) t) (va_A (xW o cI cJ cZ S) sz)) 0 0 (va_A (xW o cI cJ cZ S) sz) := by
  refine h_start (cc := cX0_book) (maxL := 6) (ret := none) (by decide) rfl (Nat.le_of_ble_eq_true rfl) ?_
  intro pg ev s mi args below meth cd ls hx hb hr hts hown hlocks hml hnm hpic hl
  obtain ⟨hsz, hP, hK, hD0⟩ := hpic
  subst hsz
  have hD := hD0.self (sz := s.heap.size)
  generalize hAe : va_A (xW o cI cJ cZ S) s.heap.size = A at hD ⊢
  have hA : ∀ q : Nat, s.heap.size ≤ q → A q := fun q h => by rw [← hAe]; exact Or.inr h
  have hS : va_S A s.heap s.heap [] := va_S.rf
  have hi0 : ∀ w ∈ u_ws RX0 TX0 7, w ∈ wsX0_book := by decide +kernel
  have hl : lv_has ls 6 [(0, .ref (o 3)), (1, .int (nI k)), (2, .long m1), (4, .long h1)] := hl
  refine lv_aload_n hx hb dX0_book_0 rfl (lv_at hl 0 rfl) ?_
  refine va_get (C := RX0) (T := TX0) (N := 7) (v := .ref (o 19)) hx hb hts hi0 hown hK hP 3 rfl rfl 6 (by decide) (hts (.fieldLink RX0 23 "HotGround$Ground" "sums" "[J") (by decide +kernel)) (fun _ h9 => h9) rfl dX0_book_1 ?_
  refine lv_iload_n hx hb dX0_book_4 rfl (lv_at hl 1 rfl) ?_
  refine lv_dup2_11 hx hb dX0_book_5 rfl rfl ?_
  refine h_lald (f := hg_l S 2) hx hb hK hP 19 1 rfl rfl k (rfl) (by omega) (by decide) dX0_book_6 ?_
  refine lv_lload_n hx hb dX0_book_7 rfl (lv_at hl 2 rfl) ?_
  refine lv_ladd hx hb dX0_book_8 ?_
  refine lv_topl (fun z_1 ez_1 => ?_)
  refine h_last (f := hg_l S 2) (ws' := xW o cI cJ cZ (hg_sl S 2 (vp_updL (hg_l S 2) k z_1))) hx hb hK hP hD hS 19 1 rfl rfl k (rfl) (by omega) (by decide) rfl dX0_book_9 (fun H locs hP hD hS => ?_)
  refine lv_aload_n hx hb dX0_book_10 rfl (lv_at hl 0 rfl) ?_
  refine va_get (C := RX0) (T := TX0) (N := 7) (v := .ref (o 19)) hx hb hts hi0 hown hK hP 3 rfl rfl 6 (by decide) (hts (.fieldLink RX0 23 "HotGround$Ground" "sums" "[J") (by decide +kernel)) (fun _ h9 => h9) rfl dX0_book_11 ?_
  refine lv_iload_n hx hb dX0_book_14 rfl (lv_at hl 1 rfl) ?_
  refine lv_iconst (v := nI 1) hx hb dX0_book_15 (by decide) ?_
  refine lv_iadd hx hb dX0_book_16 ?_
  refine h_topi (y := nI (k + 1)) (nI_add _ _) ?_
  refine lv_dup2_11 hx hb dX0_book_17 rfl rfl ?_
  refine h_lald (f := vp_updL (hg_l S 2) k z_1) hx hb hK hP 19 1 rfl rfl (k + 1) (rfl) (by omega) (by decide) dX0_book_18 ?_
  refine lv_lload hx hb dX0_book_19 (lv_at hl 3 rfl) ?_
  refine lv_ladd hx hb dX0_book_21 ?_
  refine lv_topl (fun z_2 ez_2 => ?_)
  refine h_last (f := vp_updL (hg_l S 2) k z_1) (ws' := xW o cI cJ cZ (hg_sl S 2 (vp_updL (vp_updL (hg_l S 2) k z_1) (k + 1) z_2))) hx hb hK hP hD hS 19 1 rfl rfl (k + 1) (rfl) (by omega) (by decide) rfl dX0_book_22 (fun H locs hP hD hS => ?_)
  subst ez_2
  subst ez_1
  exact W.vret hx hb hr (fun t ht hW => ⟨⟨(), rfl, trivial, ⟨by rw [ht]; exact hP, hD⟩⟩, hS.F ht⟩) hS.2.2 dX0_book_23
set_option maxHeartbeats 4000000 in
set_option maxRecDepth 100000 in
/-- a well takes -/
theorem m_X0_take (l : Launch) (D : va_G) (o : Nat → Nat) (cI cJ cZ : ClassId) (S : hg_S) (sz : Nat) (b : Nat) (hb4 : b < 4) (x : Int64) : Met l yX0_take wsX0_take ({ frames := 1, cells := 0, slots := 0, locals := 25 }) (va_Pc [.ref (o 3), .int (nI b), .long x] (hg_Wr D (xW o cI cJ cZ S) (hg_ty cI cJ cZ) sz)) (va_Ql (fun (r : Int64) (_ : Unit) => r = f_part S b x) (fun _ t => hg_At D (xW o cI cJ cZ (s_take S b x)) (va_A (xW o cI cJ cZ S) sz) t) (va_A (xW o cI cJ cZ S) sz)) 0 0 (va_A (xW o cI cJ cZ S) sz) := by
  refine h_start (cc := cX0_take) (maxL := 8) (ret := (some .long)) (by decide) rfl (Nat.le_of_ble_eq_true rfl) ?_
  intro pg ev s mi args below meth cd ls hx hb hr hts hown hlocks hml hnm hpic hl
  obtain ⟨hsz, hP, hK, hD0⟩ := hpic
  subst hsz
  have hD := hD0.self (sz := s.heap.size)
  generalize hAe : va_A (xW o cI cJ cZ S) s.heap.size = A at hD ⊢
  have hA : ∀ q : Nat, s.heap.size ≤ q → A q := fun q h => by rw [← hAe]; exact Or.inr h
  have hS : va_S A s.heap s.heap [] := va_S.rf
  have hi0 : ∀ w ∈ u_ws RX0 TX0 7, w ∈ wsX0_take := by decide +kernel
  have hl : lv_has ls 8 [(0, .ref (o 3)), (1, .int (nI b)), (2, .long x)] := hl
  refine lv_lload_n hx hb dX0_take_0 rfl (lv_at hl 2 rfl) ?_
  refine lv_aload_n hx hb dX0_take_1 rfl (lv_at hl 0 rfl) ?_
  refine va_get (C := RX0) (T := TX0) (N := 7) (v := .ref (o 15)) hx hb hts hi0 hown hK hP 3 rfl rfl 0 (by decide) (hts (.fieldLink RX0 9 "HotGround$Ground" "mass" "[J") (by decide +kernel)) (fun _ h9 => h9) rfl dX0_take_2 ?_
  refine lv_iload_n hx hb dX0_take_5 rfl (lv_at hl 1 rfl) ?_
  refine h_lald (f := hg_l S 0) hx hb hK hP 15 1 rfl rfl b (rfl) (by omega) (by decide) dX0_take_6 ?_
  refine va_mmin_long hx hb (by rw [hml]; exact hl.1.symm) hown (hts (.methodLink RX0 26 Lib.MathLoose.min_long.x) (by decide +kernel)) (hts (.static Lib.MathLoose.min_long.x) (by decide +kernel)) (hts (.initialized "java/lang/Math") (by decide +kernel)) (hts (.code Lib.MathLoose.min_long.x Lib.MathLoose.min_long.code 4 (some .long)) (by decide +kernel)) (Nat.le_of_ble_eq_true rfl) (Nat.le_of_ble_eq_true rfl) (Nat.zero_le _) (Nat.zero_le _) dX0_take_7 ?_
  refine h_topl (y := f_part S b x) (rfl) ?_
  refine lv_lstore (lv' := [(4, .long (f_part S b x)), (0, .ref (o 3)), (1, .int (nI b)), (2, .long x)]) hx hb dX0_take_10 hl (by decide) rfl (fun ls hl => ?_)
  refine lv_aload_n hx hb dX0_take_12 rfl (lv_at hl 1 rfl) ?_
  refine lv_iload_n hx hb dX0_take_13 rfl (lv_at hl 2 rfl) ?_
  refine lv_lload hx hb dX0_take_14 (lv_at hl 0 rfl) ?_
  refine vp_callSl (va_Run.run (va_runV (As := [.int (nI b), .long (f_part S b x)]) (rest := []) ⟨hx, hb, hml, hown, hts⟩ (m_X0_heatOf l D o cI cJ cZ S b (by omega) (f_part S b x)) (cwV 2 hts gX0_take_X0_heatOf rfl rfl rfl (by decide +kernel) ⟨Nat.le_of_ble_eq_true rfl, Nat.le_of_ble_eq_true rfl⟩) (h_preR hK hP 3 rfl rfl rfl) rfl rfl hl.1 rfl (lv_room (Nat.le_of_ble_eq_true rfl)) dX0_take_16 ⟨Nat.le_of_ble_eq_true rfl, Nat.le_of_ble_eq_true rfl⟩)) (fun r_1 hr_1 => ?_)
  subst hr_1
  refine lv_lstore (lv' := [(6, .long (f_wm S b (f_part S b x))), (4, .long (f_part S b x)), (0, .ref (o 3)), (1, .int (nI b)), (2, .long x)]) hx hb dX0_take_19 hl (by decide) rfl (fun ls hl => ?_)
  refine lv_aload_n hx hb dX0_take_21 rfl (lv_at hl 2 rfl) ?_
  refine va_get (C := RX0) (T := TX0) (N := 7) (v := .ref (o 15)) hx hb hts hi0 hown hK hP 3 rfl rfl 0 (by decide) (hts (.fieldLink RX0 9 "HotGround$Ground" "mass" "[J") (by decide +kernel)) (fun _ h9 => h9) rfl dX0_take_22 ?_
  refine lv_iload_n hx hb dX0_take_25 rfl (lv_at hl 3 rfl) ?_
  refine lv_dup2_11 hx hb dX0_take_26 rfl rfl ?_
  refine h_lald (f := hg_l S 0) hx hb hK hP 15 1 rfl rfl b (rfl) (by omega) (by decide) dX0_take_27 ?_
  refine lv_lload hx hb dX0_take_28 (lv_at hl 1 rfl) ?_
  refine lv_lsub hx hb dX0_take_30 ?_
  refine lv_topl (fun z_2 ez_2 => ?_)
  refine h_last (f := hg_l S 0) (ws' := xW o cI cJ cZ (hg_sl S 0 (vp_updL (hg_l S 0) b z_2))) hx hb hK hP hD hS 15 1 rfl rfl b (rfl) (by omega) (by decide) rfl dX0_take_31 (fun H locs hP hD hS => ?_)
  refine lv_aload_n hx hb dX0_take_32 rfl (lv_at hl 2 rfl) ?_
  refine va_get (C := RX0) (T := TX0) (N := 7) (v := .ref (o 16)) hx hb hts hi0 hown hK hP 3 rfl rfl 1 (by decide) (hts (.fieldLink RX0 13 "HotGround$Ground" "heat" "[J") (by decide +kernel)) (fun _ h9 => h9) rfl dX0_take_33 ?_
  refine lv_iload_n hx hb dX0_take_36 rfl (lv_at hl 3 rfl) ?_
  refine lv_dup2_11 hx hb dX0_take_37 rfl rfl ?_
  refine h_lald (f := hg_l S 1) hx hb hK hP 16 1 rfl rfl b (rfl) (by omega) (by decide) dX0_take_38 ?_
  refine lv_lload hx hb dX0_take_39 (lv_at hl 0 rfl) ?_
  refine lv_lsub hx hb dX0_take_41 ?_
  refine lv_topl (fun z_3 ez_3 => ?_)
  refine h_last (f := hg_l S 1) (ws' := xW o cI cJ cZ (hg_sl (hg_sl S 0 (vp_updL (hg_l S 0) b z_2)) 1 (vp_updL (hg_l S 1) b z_3))) hx hb hK hP hD hS 16 1 rfl rfl b (rfl) (by omega) (by decide) rfl dX0_take_42 (fun H locs hP hD hS => ?_)
  subst ez_3
  subst ez_2
  have hP : va_P D vwCl (xW o cI cJ cZ (s_drain S b (f_part S b x) (f_wm S b (f_part S b x)))) H := hP
  have hD : va_D A (xW o cI cJ cZ (s_drain S b (f_part S b x) (f_wm S b (f_part S b x)))) := hD
  refine lv_aload_n hx hb dX0_take_43 rfl (lv_at hl 2 rfl) ?_
  refine lv_iconst (v := nI 0) hx hb dX0_take_44 (by decide) ?_
  refine lv_lload hx hb dX0_take_45 (lv_at hl 1 rfl) ?_
  refine lv_lload hx hb dX0_take_47 (lv_at hl 0 rfl) ?_
  refine h_callv (w1 := xW o cI cJ cZ (s_book (s_drain S b (f_part S b x) (f_wm S b (f_part S b x))) 0 (f_part S b x) (f_wm S b (f_part S b x)))) (va_runV (As := [.int (nI 0), .long (f_part S b x), .long (f_wm S b (f_part S b x))]) (rest := []) ⟨hx, hb, hml, hown, hts⟩ (m_X0_book l D o cI cJ cZ (s_drain S b (f_part S b x) (f_wm S b (f_part S b x))) H.size 0 (by omega) (f_part S b x) (f_wm S b (f_part S b x))) (cwV 3 hts gX0_take_X0_book rfl rfl rfl (by decide +kernel) ⟨Nat.le_of_ble_eq_true rfl, Nat.le_of_ble_eq_true rfl⟩) (h_preW hK hP hD 3 rfl rfl rfl) rfl rfl hl.1 rfl (lv_room (Nat.le_of_ble_eq_true rfl)) dX0_take_49 ⟨Nat.le_of_ble_eq_true rfl, Nat.le_of_ble_eq_true rfl⟩) hS (h_all hD hS hA) (fun H locs hP hD hS => ?_)
  refine lv_lload hx hb dX0_take_52 (lv_at hl 1 rfl) ?_
  exact W.lret (v := f_part S b x) hx hb hr (fun t ht hW => ⟨⟨_, (), rfl, rfl, ⟨by rw [ht]; exact hP, hD⟩⟩, hS.F ht⟩) hS.2.2 dX0_take_54
set_option maxHeartbeats 4000000 in
set_option maxRecDepth 100000 in
/-- what is given back -/
theorem m_X0_giveBack (l : Launch) (D : va_G) (o : Nat → Nat) (cI cJ cZ : ClassId) (S : hg_S) (sz : Nat) (hg3 : hg_n S 3 < 4) (x : Int64) : Met l yX0_giveBack wsX0_giveBack ({ frames := 1, cells := 0, slots := 0, locals := 25 }) (va_Pc [.ref (o 3), .long x] (hg_Wr D (xW o cI cJ cZ S) (hg_ty cI cJ cZ) sz)) (va_Qv (fun (_ : Unit) => True) (fun _ t => hg_At D (xW o cI cJ cZ (s_give S x)) (va_A (xW o cI cJ cZ S) sz) t) (va_A (xW o cI cJ cZ S) sz)) 0 0 (va_A (xW o cI cJ cZ S) sz) := by
  refine h_start (cc := cX0_giveBack) (maxL := 5) (ret := none) (by decide) rfl (Nat.le_of_ble_eq_true rfl) ?_
  intro pg ev s mi args below meth cd ls hx hb hr hts hown hlocks hml hnm hpic hl
  obtain ⟨hsz, hP, hK, hD0⟩ := hpic
  subst hsz
  have hD := hD0.self (sz := s.heap.size)
  generalize hAe : va_A (xW o cI cJ cZ S) s.heap.size = A at hD ⊢
  have hA : ∀ q : Nat, s.heap.size ≤ q → A q := fun q h => by rw [← hAe]; exact Or.inr h
  have hS : va_S A s.heap s.heap [] := va_S.rf
  have hi0 : ∀ w ∈ u_ws RX0 TX0 7, w ∈ wsX0_giveBack := by decide +kernel
  have hl : lv_has ls 5 [(0, .ref (o 3)), (1, .long x)] := hl
  refine lv_lload_n hx hb dX0_giveBack_0 rfl (lv_at hl 1 rfl) ?_
  refine lv_aload_n hx hb dX0_giveBack_1 rfl (lv_at hl 0 rfl) ?_
  refine va_get (C := RX0) (T := TX0) (N := 7) (v := .int (nI (hg_n S 2))) hx hb hts hi0 hown hK hP 3 rfl rfl 4 (by decide) (hts (.fieldLink RX0 40 "HotGround$Ground" "givenShare" "I") (by decide +kernel)) (fun _ h9 => h9) rfl dX0_giveBack_2 ?_
  refine lv_i2l (v := Int32.toInt64 (nI (hg_n S 2))) hx hb dX0_giveBack_5 rfl ?_
  refine lv_lmul hx hb dX0_giveBack_6 ?_
  refine lv_ldc2 (v := 1000) hx hb hown (hts (.constantLong RX0 44 (1000)) (by decide +kernel)) dX0_giveBack_7 ?_
  refine lv_ldiv hx hb dX0_giveBack_10 (by decide) ?_
  refine h_topl (y := f_given S x) (rfl) ?_
  refine lv_lstore_n (lv' := [(3, .long (f_given S x)), (0, .ref (o 3)), (1, .long x)]) hx hb dX0_giveBack_11 rfl hl (by decide) rfl (fun ls hl => ?_)
  refine lv_aload_n hx hb dX0_giveBack_12 rfl (lv_at hl 1 rfl) ?_
  refine lv_aload_n hx hb dX0_giveBack_13 rfl (lv_at hl 1 rfl) ?_
  refine va_get (C := RX0) (T := TX0) (N := 7) (v := .int (nI (hg_n S 3))) hx hb hts hi0 hown hK hP 3 rfl rfl 5 (by decide) (hts (.fieldLink RX0 46 "HotGround$Ground" "givenBox" "I") (by decide +kernel)) (fun _ h9 => h9) rfl dX0_giveBack_14 ?_
  refine lv_lload_n hx hb dX0_giveBack_17 rfl (lv_at hl 0 rfl) ?_
  refine lv_lload_n hx hb dX0_giveBack_18 rfl (lv_at hl 0 rfl) ?_
  refine lv_ldc2 (v := 40) hx hb hown (hts (.constantLong RX0 49 (40)) (by decide +kernel)) dX0_giveBack_19 ?_
  refine lv_lmul hx hb dX0_giveBack_22 ?_
  refine h_callv (w1 := xW o cI cJ cZ (s_pour S (hg_n S 3) (f_given S x) ((f_given S x) * (40)))) (va_runV (As := [.int (nI (hg_n S 3)), .long (f_given S x), .long ((f_given S x) * (40))]) (rest := []) ⟨hx, hb, hml, hown, hts⟩ (m_X0_pour l D o cI cJ cZ S s.heap.size (hg_n S 3) (by omega) (f_given S x) ((f_given S x) * (40))) (cwV 3 hts gX0_giveBack_X0_pour rfl rfl rfl (by decide +kernel) ⟨Nat.le_of_ble_eq_true rfl, Nat.le_of_ble_eq_true rfl⟩) (h_preW hK hP hD 3 rfl rfl rfl) rfl rfl hl.1 rfl (lv_room (Nat.le_of_ble_eq_true rfl)) dX0_giveBack_23 ⟨Nat.le_of_ble_eq_true rfl, Nat.le_of_ble_eq_true rfl⟩) hS (h_all hD hS hA) (fun H locs hP hD hS => ?_)
  refine lv_aload_n hx hb dX0_giveBack_26 rfl (lv_at hl 1 rfl) ?_
  refine lv_iconst (v := nI 2) hx hb dX0_giveBack_27 (by decide) ?_
  refine lv_lload_n hx hb dX0_giveBack_28 rfl (lv_at hl 0 rfl) ?_
  refine lv_lload_n hx hb dX0_giveBack_29 rfl (lv_at hl 0 rfl) ?_
  refine lv_ldc2 (v := 40) hx hb hown (hts (.constantLong RX0 49 (40)) (by decide +kernel)) dX0_giveBack_30 ?_
  refine lv_lmul hx hb dX0_giveBack_33 ?_
  refine h_callv (w1 := xW o cI cJ cZ (s_book (s_pour S (hg_n S 3) (f_given S x) ((f_given S x) * (40))) 2 (f_given S x) ((f_given S x) * (40)))) (va_runV (As := [.int (nI 2), .long (f_given S x), .long ((f_given S x) * (40))]) (rest := []) ⟨hx, hb, hml, hown, hts⟩ (m_X0_book l D o cI cJ cZ (s_pour S (hg_n S 3) (f_given S x) ((f_given S x) * (40))) H.size 2 (by omega) (f_given S x) ((f_given S x) * (40))) (cwV 3 hts gX0_giveBack_X0_book rfl rfl rfl (by decide +kernel) ⟨Nat.le_of_ble_eq_true rfl, Nat.le_of_ble_eq_true rfl⟩) (h_preW hK hP hD 3 rfl rfl rfl) rfl rfl hl.1 rfl (lv_room (Nat.le_of_ble_eq_true rfl)) dX0_giveBack_34 ⟨Nat.le_of_ble_eq_true rfl, Nat.le_of_ble_eq_true rfl⟩) hS (h_all hD hS hA) (fun H locs hP hD hS => ?_)
  exact W.vret hx hb hr (fun t ht hW => ⟨⟨(), rfl, trivial, ⟨by rw [ht]; exact hP, hD⟩⟩, hS.F ht⟩) hS.2.2 dX0_giveBack_37
set_option maxHeartbeats 4000000 in
set_option maxRecDepth 100000 in
/-- the leaks -/
theorem m_X0_leakAll (l : Launch) (D : va_G) (o : Nat → Nat) (cI cJ cZ : ClassId) (S : hg_S) (sz : Nat) (hlk : ∀ i, i < 3 → 0 < hg_i S 9 i ∧ ¬ Int32.toInt64 (hg_i S 9 i) = 0) : Met l yX0_leakAll wsX0_leakAll ({ frames := 1, cells := 0, slots := 0, locals := 25 }) (va_Pc [.ref (o 3)] (hg_Wr D (xW o cI cJ cZ S) (hg_ty cI cJ cZ) sz)) (va_Qv (fun (_ : Unit) => True) (fun _ t => hg_At D (xW o cI cJ cZ (s_leaks S 3)) (va_A (xW o cI cJ cZ S) sz) t) (va_A (xW o cI cJ cZ S) sz)) 0 0 (va_A (xW o cI cJ cZ S) sz) := by
  refine h_start (cc := cX0_leakAll) (maxL := 9) (ret := none) (by decide) rfl (Nat.le_of_ble_eq_true rfl) ?_
  intro pg ev s mi args below meth cd ls hx hb hr hts hown hlocks hml hnm hpic hl
  obtain ⟨hsz, hP, hK, hD0⟩ := hpic
  subst hsz
  have hD := hD0.self (sz := s.heap.size)
  generalize hAe : va_A (xW o cI cJ cZ S) s.heap.size = A at hD ⊢
  have hA : ∀ q : Nat, s.heap.size ≤ q → A q := fun q h => by rw [← hAe]; exact Or.inr h
  have hS : va_S A s.heap s.heap [] := va_S.rf
  have hi0 : ∀ w ∈ u_ws RX0 TX0 7, w ∈ wsX0_leakAll := by decide +kernel
  have hl : lv_has ls 9 [(0, .ref (o 3))] := hl
  refine lv_iconst (v := nI 0) hx hb dX0_leakAll_0 (by decide) ?_
  refine lv_istore_n (lv' := [(1, .int (nI 0)), (0, .ref (o 3))]) hx hb dX0_leakAll_1 rfl hl (by decide) rfl (fun ls hl => ?_)
  have hP : va_P D vwCl (xW o cI cJ cZ (s_leaks S 0)) s.heap := hP
  have hD : va_D A (xW o cI cJ cZ (s_leaks S 0)) := hD
  refine h_forW (nL := 9) (3) (fun i => [(1, .int (nI i)), (0, .ref (o 3))]) (fun i => xW o cI cJ cZ (s_leaks S i)) ?_ ?_ (lv_sub hl [0, 1] rfl) hP hD hS
  · intro i ls H locs hi hl hP hD hS ih
    have hl : lv_has ls 9 [(1, .int (nI i)), (0, .ref (o 3))] := hl
    refine lv_iload_n hx hb dX0_leakAll_2 rfl (lv_at hl 0 rfl) ?_
    refine lv_iconst (v := nI 3) hx hb dX0_leakAll_3 (by decide) ?_
    refine lv_icmp_ge (tgt := 129) hx hb dX0_leakAll_4 (by decide) (fun c_4 => absurd c_4 (nI_ge hi (by omega))) (fun c_4 => ?_)
    refine lv_aload_n hx hb dX0_leakAll_7 rfl (lv_at hl 1 rfl) ?_
    refine va_get (C := RX0) (T := TX0) (N := 7) (v := .ref (o 15)) hx hb hts hi0 hown hK hP 3 rfl rfl 0 (by decide) (hts (.fieldLink RX0 9 "HotGround$Ground" "mass" "[J") (by decide +kernel)) (fun _ h9 => h9) rfl dX0_leakAll_8 ?_
    refine lv_iload_n hx hb dX0_leakAll_11 rfl (lv_at hl 0 rfl) ?_
    refine h_lald (f := hg_l (s_leaks S i) 0) hx hb hK hP 15 1 rfl rfl i (rfl) (by omega) (by decide) dX0_leakAll_12 ?_
    refine lv_aload_n hx hb dX0_leakAll_13 rfl (lv_at hl 1 rfl) ?_
    refine va_get (C := RX0) (T := TX0) (N := 7) (v := .ref (o 15)) hx hb hts hi0 hown hK hP 3 rfl rfl 0 (by decide) (hts (.fieldLink RX0 9 "HotGround$Ground" "mass" "[J") (by decide +kernel)) (fun _ h9 => h9) rfl dX0_leakAll_14 ?_
    refine lv_iload_n hx hb dX0_leakAll_17 rfl (lv_at hl 0 rfl) ?_
    refine lv_iconst (v := nI 1) hx hb dX0_leakAll_18 (by decide) ?_
    refine lv_iadd hx hb dX0_leakAll_19 ?_
    refine h_topi (y := nI (i + 1)) (nI_add _ _) ?_
    refine h_lald (f := hg_l (s_leaks S i) 0) hx hb hK hP 15 1 rfl rfl (i + 1) (rfl) (by omega) (by decide) dX0_leakAll_20 ?_
    refine W.lcmp hx hb dX0_leakAll_21 ?_
    refine lv_if_lt (tgt := 29) hx hb dX0_leakAll_22 (by decide) (fun c_22 => ?_) (fun c_22 => ?_)
    · skip
      have c22 := (lg_cmp_lt _ _).mp c_22
      refine lv_iconst (v := nI 0) hx hb dX0_leakAll_29 (by decide) ?_
      refine lv_istore_n (lv' := [(2, .int (nI 0)), (1, .int (nI i)), (0, .ref (o 3))]) hx hb dX0_leakAll_30 rfl hl (by decide) rfl (fun ls hl => ?_)
      refine lv_iload_n hx hb dX0_leakAll_31 rfl (lv_at hl 0 rfl) ?_
      refine lv_if_eq (tgt := 39) hx hb dX0_leakAll_32 (by decide) (fun c_32 => ?_) (fun c_32 => absurd (by decide) c_32)
      refine lv_iload_n hx hb dX0_leakAll_39 rfl (lv_at hl 1 rfl) ?_
      refine lv_iconst (v := nI 1) hx hb dX0_leakAll_40 (by decide) ?_
      refine lv_iadd hx hb dX0_leakAll_41 ?_
      refine h_topi (y := nI (i + 1)) (nI_add _ _) ?_
      refine lv_istore_n (lv' := [(3, .int (nI (i + 1))), (2, .int (nI 0)), (1, .int (nI i)), (0, .ref (o 3))]) hx hb dX0_leakAll_42 rfl hl (by decide) rfl (fun ls hl => ?_)
      refine lv_iload_n hx hb dX0_leakAll_43 rfl (lv_at hl 1 rfl) ?_
      refine lv_if_eq (tgt := 53) hx hb dX0_leakAll_44 (by decide) (fun c_44 => ?_) (fun c_44 => absurd (by decide) c_44)
      refine lv_iload_n hx hb dX0_leakAll_53 rfl (lv_at hl 2 rfl) ?_
      refine lv_istore (lv' := [(4, .int (nI i)), (3, .int (nI (i + 1))), (2, .int (nI 0)), (1, .int (nI i)), (0, .ref (o 3))]) hx hb dX0_leakAll_54 hl (by decide) rfl (fun ls hl => ?_)
      refine lv_aload_n hx hb dX0_leakAll_56 rfl (lv_at hl 4 rfl) ?_
      refine va_get (C := RX0) (T := TX0) (N := 7) (v := .ref (o 18)) hx hb hts hi0 hown hK hP 3 rfl rfl 3 (by decide) (hts (.fieldLink RX0 20 "HotGround$Ground" "leak" "[I") (by decide +kernel)) (fun _ h9 => h9) rfl dX0_leakAll_57 ?_
      refine lv_iload_n hx hb dX0_leakAll_60 rfl (lv_at hl 3 rfl) ?_
      refine h_iald (f := hg_i (s_leaks S i) 9) hx hb hK hP 18 0 rfl rfl i (rfl) (by omega) (by decide) dX0_leakAll_61 ?_
      refine lv_if_gt (tgt := 69) hx hb dX0_leakAll_62 (by decide) (fun c_62 => ?_) (fun c_62 => absurd (by rw [s_leaks_i]; exact (hlk i hi).1) c_62)
      refine lv_aload_n hx hb dX0_leakAll_69 rfl (lv_at hl 4 rfl) ?_
      refine va_get (C := RX0) (T := TX0) (N := 7) (v := .ref (o 15)) hx hb hts hi0 hown hK hP 3 rfl rfl 0 (by decide) (hts (.fieldLink RX0 9 "HotGround$Ground" "mass" "[J") (by decide +kernel)) (fun _ h9 => h9) rfl dX0_leakAll_70 ?_
      refine lv_iload_n hx hb dX0_leakAll_73 rfl (lv_at hl 1 rfl) ?_
      refine h_lald (f := hg_l (s_leaks S i) 0) hx hb hK hP 15 1 rfl rfl (i + 1) (rfl) (by omega) (by decide) dX0_leakAll_74 ?_
      refine lv_aload_n hx hb dX0_leakAll_75 rfl (lv_at hl 4 rfl) ?_
      refine va_get (C := RX0) (T := TX0) (N := 7) (v := .ref (o 15)) hx hb hts hi0 hown hK hP 3 rfl rfl 0 (by decide) (hts (.fieldLink RX0 9 "HotGround$Ground" "mass" "[J") (by decide +kernel)) (fun _ h9 => h9) rfl dX0_leakAll_76 ?_
      refine lv_iload hx hb dX0_leakAll_79 (lv_at hl 0 rfl) ?_
      refine h_lald (f := hg_l (s_leaks S i) 0) hx hb hK hP 15 1 rfl rfl i (rfl) (by omega) (by decide) dX0_leakAll_81 ?_
      refine lv_lsub hx hb dX0_leakAll_82 ?_
      refine lv_aload_n hx hb dX0_leakAll_83 rfl (lv_at hl 4 rfl) ?_
      refine va_get (C := RX0) (T := TX0) (N := 7) (v := .ref (o 18)) hx hb hts hi0 hown hK hP 3 rfl rfl 3 (by decide) (hts (.fieldLink RX0 20 "HotGround$Ground" "leak" "[I") (by decide +kernel)) (fun _ h9 => h9) rfl dX0_leakAll_84 ?_
      refine lv_iload_n hx hb dX0_leakAll_87 rfl (lv_at hl 3 rfl) ?_
      refine h_iald (f := hg_i (s_leaks S i) 9) hx hb hK hP 18 0 rfl rfl i (rfl) (by omega) (by decide) dX0_leakAll_88 ?_
      refine lv_i2l (v := Int32.toInt64 ((hg_i (s_leaks S i) 9) i)) hx hb dX0_leakAll_89 rfl ?_
      refine lv_ldiv hx hb dX0_leakAll_90 (by rw [s_leaks_i]; exact (hlk i hi).2) ?_
      refine h_topl (y := f_leakP (s_leaks S i) i (i + 1) i) (rfl) ?_
      refine lv_lstore (lv' := [(5, .long (f_leakP (s_leaks S i) i (i + 1) i)), (4, .int (nI i)), (3, .int (nI (i + 1))), (2, .int (nI 0)), (1, .int (nI i)), (0, .ref (o 3))]) hx hb dX0_leakAll_91 hl (by decide) rfl (fun ls hl => ?_)
      refine lv_aload_n hx hb dX0_leakAll_93 rfl (lv_at hl 5 rfl) ?_
      refine lv_iload_n hx hb dX0_leakAll_94 rfl (lv_at hl 2 rfl) ?_
      refine lv_lload hx hb dX0_leakAll_95 (lv_at hl 0 rfl) ?_
      refine vp_callSl (va_Run.run (va_runV (As := [.int (nI (i + 1)), .long (f_leakP (s_leaks S i) i (i + 1) i)]) (rest := []) ⟨hx, hb, hml, hown, hts⟩ (m_X0_heatOf l D o cI cJ cZ (s_leaks S i) (i + 1) (by omega) (f_leakP (s_leaks S i) i (i + 1) i)) (cwV 2 hts gX0_leakAll_X0_heatOf rfl rfl rfl (by decide +kernel) ⟨Nat.le_of_ble_eq_true rfl, Nat.le_of_ble_eq_true rfl⟩) (h_preR hK hP 3 rfl rfl rfl) rfl rfl hl.1 rfl (lv_room (Nat.le_of_ble_eq_true rfl)) dX0_leakAll_97 ⟨Nat.le_of_ble_eq_true rfl, Nat.le_of_ble_eq_true rfl⟩)) (fun r_1 hr_1 => ?_)
      subst hr_1
      refine lv_lstore (lv' := [(7, .long (f_wm (s_leaks S i) (i + 1) (f_leakP (s_leaks S i) i (i + 1) i))), (5, .long (f_leakP (s_leaks S i) i (i + 1) i)), (4, .int (nI i)), (3, .int (nI (i + 1))), (2, .int (nI 0)), (1, .int (nI i)), (0, .ref (o 3))]) hx hb dX0_leakAll_100 hl (by decide) rfl (fun ls hl => ?_)
      refine lv_aload_n hx hb dX0_leakAll_102 rfl (lv_at hl 6 rfl) ?_
      refine lv_iload_n hx hb dX0_leakAll_103 rfl (lv_at hl 3 rfl) ?_
      refine lv_lload hx hb dX0_leakAll_104 (lv_at hl 1 rfl) ?_
      refine lv_lneg hx hb dX0_leakAll_106 ?_
      refine lv_lload hx hb dX0_leakAll_107 (lv_at hl 0 rfl) ?_
      refine lv_lneg hx hb dX0_leakAll_109 ?_
      refine h_callv (w1 := xW o cI cJ cZ (s_pour (s_leaks S i) (i + 1) (-(f_leakP (s_leaks S i) i (i + 1) i)) (-(f_wm (s_leaks S i) (i + 1) (f_leakP (s_leaks S i) i (i + 1) i))))) (va_runV (As := [.int (nI (i + 1)), .long (-(f_leakP (s_leaks S i) i (i + 1) i)), .long (-(f_wm (s_leaks S i) (i + 1) (f_leakP (s_leaks S i) i (i + 1) i)))]) (rest := []) ⟨hx, hb, hml, hown, hts⟩ (m_X0_pour l D o cI cJ cZ (s_leaks S i) H.size (i + 1) (by omega) (-(f_leakP (s_leaks S i) i (i + 1) i)) (-(f_wm (s_leaks S i) (i + 1) (f_leakP (s_leaks S i) i (i + 1) i)))) (cwV 3 hts gX0_leakAll_X0_pour rfl rfl rfl (by decide +kernel) ⟨Nat.le_of_ble_eq_true rfl, Nat.le_of_ble_eq_true rfl⟩) (h_preW hK hP hD 3 rfl rfl rfl) rfl rfl hl.1 rfl (lv_room (Nat.le_of_ble_eq_true rfl)) dX0_leakAll_110 ⟨Nat.le_of_ble_eq_true rfl, Nat.le_of_ble_eq_true rfl⟩) hS (h_all hD hS hA) (fun H locs hP hD hS => ?_)
      refine lv_aload_n hx hb dX0_leakAll_113 rfl (lv_at hl 6 rfl) ?_
      refine lv_iload hx hb dX0_leakAll_114 (lv_at hl 2 rfl) ?_
      refine lv_lload hx hb dX0_leakAll_116 (lv_at hl 1 rfl) ?_
      refine lv_lload hx hb dX0_leakAll_118 (lv_at hl 0 rfl) ?_
      refine h_callv (w1 := xW o cI cJ cZ (s_pour (s_pour (s_leaks S i) (i + 1) (-(f_leakP (s_leaks S i) i (i + 1) i)) (-(f_wm (s_leaks S i) (i + 1) (f_leakP (s_leaks S i) i (i + 1) i)))) i (f_leakP (s_leaks S i) i (i + 1) i) (f_wm (s_leaks S i) (i + 1) (f_leakP (s_leaks S i) i (i + 1) i)))) (va_runV (As := [.int (nI i), .long (f_leakP (s_leaks S i) i (i + 1) i), .long (f_wm (s_leaks S i) (i + 1) (f_leakP (s_leaks S i) i (i + 1) i))]) (rest := []) ⟨hx, hb, hml, hown, hts⟩ (m_X0_pour l D o cI cJ cZ (s_pour (s_leaks S i) (i + 1) (-(f_leakP (s_leaks S i) i (i + 1) i)) (-(f_wm (s_leaks S i) (i + 1) (f_leakP (s_leaks S i) i (i + 1) i)))) H.size i (by omega) (f_leakP (s_leaks S i) i (i + 1) i) (f_wm (s_leaks S i) (i + 1) (f_leakP (s_leaks S i) i (i + 1) i))) (cwV 3 hts gX0_leakAll_X0_pour rfl rfl rfl (by decide +kernel) ⟨Nat.le_of_ble_eq_true rfl, Nat.le_of_ble_eq_true rfl⟩) (h_preW hK hP hD 3 rfl rfl rfl) rfl rfl hl.1 rfl (lv_room (Nat.le_of_ble_eq_true rfl)) dX0_leakAll_120 ⟨Nat.le_of_ble_eq_true rfl, Nat.le_of_ble_eq_true rfl⟩) hS (h_all hD hS hA) (fun H locs hP hD hS => ?_)
      refine lv_iinc (v := nI (i + 1)) (lv' := [(1, .int (nI (i + 1))), (7, .long (f_wm (s_leaks S i) (i + 1) (f_leakP (s_leaks S i) i (i + 1) i))), (5, .long (f_leakP (s_leaks S i) i (i + 1) i)), (4, .int (nI i)), (3, .int (nI (i + 1))), (2, .int (nI 0)), (0, .ref (o 3))]) hx hb dX0_leakAll_123 hl (k := 5) rfl (nI_1 _) (by decide) rfl (fun ls hl => ?_)
      refine lv_goto (tgt := 2) hx hb dX0_leakAll_126 (by decide) ?_
      rw [show (s_pour (s_pour (s_leaks S i) (i + 1) (-(f_leakP (s_leaks S i) i (i + 1) i)) (-(f_wm (s_leaks S i) (i + 1) (f_leakP (s_leaks S i) i (i + 1) i)))) i (f_leakP (s_leaks S i) i (i + 1) i) (f_wm (s_leaks S i) (i + 1) (f_leakP (s_leaks S i) i (i + 1) i)) : hg_S) = s_leaks S (i + 1) from (show s_leak (s_leaks S i) i = _ from if_pos c22).symm] at hP hD
      exact ih ls H locs (lv_sub hl [0, 6] rfl) hP hD hS
    · skip
      have c22 := fun h => c_22 ((lg_cmp_lt (hg_l (s_leaks S i) 0 i) (hg_l (s_leaks S i) 0 (i + 1))).mpr h)
      refine lv_iconst (v := nI 1) hx hb dX0_leakAll_25 (by decide) ?_
      refine lv_goto (tgt := 30) hx hb dX0_leakAll_26 (by decide) ?_
      refine lv_istore_n (lv' := [(2, .int (nI 1)), (1, .int (nI i)), (0, .ref (o 3))]) hx hb dX0_leakAll_30 rfl hl (by decide) rfl (fun ls hl => ?_)
      refine lv_iload_n hx hb dX0_leakAll_31 rfl (lv_at hl 0 rfl) ?_
      refine lv_if_eq (tgt := 39) hx hb dX0_leakAll_32 (by decide) (fun c_32 => absurd c_32 (by decide)) (fun c_32 => ?_)
      refine lv_iload_n hx hb dX0_leakAll_35 rfl (lv_at hl 1 rfl) ?_
      refine lv_goto (tgt := 42) hx hb dX0_leakAll_36 (by decide) ?_
      refine lv_istore_n (lv' := [(3, .int (nI i)), (2, .int (nI 1)), (1, .int (nI i)), (0, .ref (o 3))]) hx hb dX0_leakAll_42 rfl hl (by decide) rfl (fun ls hl => ?_)
      refine lv_iload_n hx hb dX0_leakAll_43 rfl (lv_at hl 1 rfl) ?_
      refine lv_if_eq (tgt := 53) hx hb dX0_leakAll_44 (by decide) (fun c_44 => absurd c_44 (by decide)) (fun c_44 => ?_)
      refine lv_iload_n hx hb dX0_leakAll_47 rfl (lv_at hl 2 rfl) ?_
      refine lv_iconst (v := nI 1) hx hb dX0_leakAll_48 (by decide) ?_
      refine lv_iadd hx hb dX0_leakAll_49 ?_
      refine h_topi (y := nI (i + 1)) (nI_add _ _) ?_
      refine lv_goto (tgt := 54) hx hb dX0_leakAll_50 (by decide) ?_
      refine lv_istore (lv' := [(4, .int (nI (i + 1))), (3, .int (nI i)), (2, .int (nI 1)), (1, .int (nI i)), (0, .ref (o 3))]) hx hb dX0_leakAll_54 hl (by decide) rfl (fun ls hl => ?_)
      refine lv_aload_n hx hb dX0_leakAll_56 rfl (lv_at hl 4 rfl) ?_
      refine va_get (C := RX0) (T := TX0) (N := 7) (v := .ref (o 18)) hx hb hts hi0 hown hK hP 3 rfl rfl 3 (by decide) (hts (.fieldLink RX0 20 "HotGround$Ground" "leak" "[I") (by decide +kernel)) (fun _ h9 => h9) rfl dX0_leakAll_57 ?_
      refine lv_iload_n hx hb dX0_leakAll_60 rfl (lv_at hl 3 rfl) ?_
      refine h_iald (f := hg_i (s_leaks S i) 9) hx hb hK hP 18 0 rfl rfl i (rfl) (by omega) (by decide) dX0_leakAll_61 ?_
      refine lv_if_gt (tgt := 69) hx hb dX0_leakAll_62 (by decide) (fun c_62 => ?_) (fun c_62 => absurd (by rw [s_leaks_i]; exact (hlk i hi).1) c_62)
      refine lv_aload_n hx hb dX0_leakAll_69 rfl (lv_at hl 4 rfl) ?_
      refine va_get (C := RX0) (T := TX0) (N := 7) (v := .ref (o 15)) hx hb hts hi0 hown hK hP 3 rfl rfl 0 (by decide) (hts (.fieldLink RX0 9 "HotGround$Ground" "mass" "[J") (by decide +kernel)) (fun _ h9 => h9) rfl dX0_leakAll_70 ?_
      refine lv_iload_n hx hb dX0_leakAll_73 rfl (lv_at hl 1 rfl) ?_
      refine h_lald (f := hg_l (s_leaks S i) 0) hx hb hK hP 15 1 rfl rfl i (rfl) (by omega) (by decide) dX0_leakAll_74 ?_
      refine lv_aload_n hx hb dX0_leakAll_75 rfl (lv_at hl 4 rfl) ?_
      refine va_get (C := RX0) (T := TX0) (N := 7) (v := .ref (o 15)) hx hb hts hi0 hown hK hP 3 rfl rfl 0 (by decide) (hts (.fieldLink RX0 9 "HotGround$Ground" "mass" "[J") (by decide +kernel)) (fun _ h9 => h9) rfl dX0_leakAll_76 ?_
      refine lv_iload hx hb dX0_leakAll_79 (lv_at hl 0 rfl) ?_
      refine h_lald (f := hg_l (s_leaks S i) 0) hx hb hK hP 15 1 rfl rfl (i + 1) (rfl) (by omega) (by decide) dX0_leakAll_81 ?_
      refine lv_lsub hx hb dX0_leakAll_82 ?_
      refine lv_aload_n hx hb dX0_leakAll_83 rfl (lv_at hl 4 rfl) ?_
      refine va_get (C := RX0) (T := TX0) (N := 7) (v := .ref (o 18)) hx hb hts hi0 hown hK hP 3 rfl rfl 3 (by decide) (hts (.fieldLink RX0 20 "HotGround$Ground" "leak" "[I") (by decide +kernel)) (fun _ h9 => h9) rfl dX0_leakAll_84 ?_
      refine lv_iload_n hx hb dX0_leakAll_87 rfl (lv_at hl 3 rfl) ?_
      refine h_iald (f := hg_i (s_leaks S i) 9) hx hb hK hP 18 0 rfl rfl i (rfl) (by omega) (by decide) dX0_leakAll_88 ?_
      refine lv_i2l (v := Int32.toInt64 ((hg_i (s_leaks S i) 9) i)) hx hb dX0_leakAll_89 rfl ?_
      refine lv_ldiv hx hb dX0_leakAll_90 (by rw [s_leaks_i]; exact (hlk i hi).2) ?_
      refine h_topl (y := f_leakP (s_leaks S i) i i (i + 1)) (rfl) ?_
      refine lv_lstore (lv' := [(5, .long (f_leakP (s_leaks S i) i i (i + 1))), (4, .int (nI (i + 1))), (3, .int (nI i)), (2, .int (nI 1)), (1, .int (nI i)), (0, .ref (o 3))]) hx hb dX0_leakAll_91 hl (by decide) rfl (fun ls hl => ?_)
      refine lv_aload_n hx hb dX0_leakAll_93 rfl (lv_at hl 5 rfl) ?_
      refine lv_iload_n hx hb dX0_leakAll_94 rfl (lv_at hl 2 rfl) ?_
      refine lv_lload hx hb dX0_leakAll_95 (lv_at hl 0 rfl) ?_
      refine vp_callSl (va_Run.run (va_runV (As := [.int (nI i), .long (f_leakP (s_leaks S i) i i (i + 1))]) (rest := []) ⟨hx, hb, hml, hown, hts⟩ (m_X0_heatOf l D o cI cJ cZ (s_leaks S i) i (by omega) (f_leakP (s_leaks S i) i i (i + 1))) (cwV 2 hts gX0_leakAll_X0_heatOf rfl rfl rfl (by decide +kernel) ⟨Nat.le_of_ble_eq_true rfl, Nat.le_of_ble_eq_true rfl⟩) (h_preR hK hP 3 rfl rfl rfl) rfl rfl hl.1 rfl (lv_room (Nat.le_of_ble_eq_true rfl)) dX0_leakAll_97 ⟨Nat.le_of_ble_eq_true rfl, Nat.le_of_ble_eq_true rfl⟩)) (fun r_2 hr_2 => ?_)
      subst hr_2
      refine lv_lstore (lv' := [(7, .long (f_wm (s_leaks S i) i (f_leakP (s_leaks S i) i i (i + 1)))), (5, .long (f_leakP (s_leaks S i) i i (i + 1))), (4, .int (nI (i + 1))), (3, .int (nI i)), (2, .int (nI 1)), (1, .int (nI i)), (0, .ref (o 3))]) hx hb dX0_leakAll_100 hl (by decide) rfl (fun ls hl => ?_)
      refine lv_aload_n hx hb dX0_leakAll_102 rfl (lv_at hl 6 rfl) ?_
      refine lv_iload_n hx hb dX0_leakAll_103 rfl (lv_at hl 3 rfl) ?_
      refine lv_lload hx hb dX0_leakAll_104 (lv_at hl 1 rfl) ?_
      refine lv_lneg hx hb dX0_leakAll_106 ?_
      refine lv_lload hx hb dX0_leakAll_107 (lv_at hl 0 rfl) ?_
      refine lv_lneg hx hb dX0_leakAll_109 ?_
      refine h_callv (w1 := xW o cI cJ cZ (s_pour (s_leaks S i) i (-(f_leakP (s_leaks S i) i i (i + 1))) (-(f_wm (s_leaks S i) i (f_leakP (s_leaks S i) i i (i + 1)))))) (va_runV (As := [.int (nI i), .long (-(f_leakP (s_leaks S i) i i (i + 1))), .long (-(f_wm (s_leaks S i) i (f_leakP (s_leaks S i) i i (i + 1))))]) (rest := []) ⟨hx, hb, hml, hown, hts⟩ (m_X0_pour l D o cI cJ cZ (s_leaks S i) H.size i (by omega) (-(f_leakP (s_leaks S i) i i (i + 1))) (-(f_wm (s_leaks S i) i (f_leakP (s_leaks S i) i i (i + 1))))) (cwV 3 hts gX0_leakAll_X0_pour rfl rfl rfl (by decide +kernel) ⟨Nat.le_of_ble_eq_true rfl, Nat.le_of_ble_eq_true rfl⟩) (h_preW hK hP hD 3 rfl rfl rfl) rfl rfl hl.1 rfl (lv_room (Nat.le_of_ble_eq_true rfl)) dX0_leakAll_110 ⟨Nat.le_of_ble_eq_true rfl, Nat.le_of_ble_eq_true rfl⟩) hS (h_all hD hS hA) (fun H locs hP hD hS => ?_)
      refine lv_aload_n hx hb dX0_leakAll_113 rfl (lv_at hl 6 rfl) ?_
      refine lv_iload hx hb dX0_leakAll_114 (lv_at hl 2 rfl) ?_
      refine lv_lload hx hb dX0_leakAll_116 (lv_at hl 1 rfl) ?_
      refine lv_lload hx hb dX0_leakAll_118 (lv_at hl 0 rfl) ?_
      refine h_callv (w1 := xW o cI cJ cZ (s_pour (s_pour (s_leaks S i) i (-(f_leakP (s_leaks S i) i i (i + 1))) (-(f_wm (s_leaks S i) i (f_leakP (s_leaks S i) i i (i + 1))))) (i + 1) (f_leakP (s_leaks S i) i i (i + 1)) (f_wm (s_leaks S i) i (f_leakP (s_leaks S i) i i (i + 1))))) (va_runV (As := [.int (nI (i + 1)), .long (f_leakP (s_leaks S i) i i (i + 1)), .long (f_wm (s_leaks S i) i (f_leakP (s_leaks S i) i i (i + 1)))]) (rest := []) ⟨hx, hb, hml, hown, hts⟩ (m_X0_pour l D o cI cJ cZ (s_pour (s_leaks S i) i (-(f_leakP (s_leaks S i) i i (i + 1))) (-(f_wm (s_leaks S i) i (f_leakP (s_leaks S i) i i (i + 1))))) H.size (i + 1) (by omega) (f_leakP (s_leaks S i) i i (i + 1)) (f_wm (s_leaks S i) i (f_leakP (s_leaks S i) i i (i + 1)))) (cwV 3 hts gX0_leakAll_X0_pour rfl rfl rfl (by decide +kernel) ⟨Nat.le_of_ble_eq_true rfl, Nat.le_of_ble_eq_true rfl⟩) (h_preW hK hP hD 3 rfl rfl rfl) rfl rfl hl.1 rfl (lv_room (Nat.le_of_ble_eq_true rfl)) dX0_leakAll_120 ⟨Nat.le_of_ble_eq_true rfl, Nat.le_of_ble_eq_true rfl⟩) hS (h_all hD hS hA) (fun H locs hP hD hS => ?_)
      refine lv_iinc (v := nI (i + 1)) (lv' := [(1, .int (nI (i + 1))), (7, .long (f_wm (s_leaks S i) i (f_leakP (s_leaks S i) i i (i + 1)))), (5, .long (f_leakP (s_leaks S i) i i (i + 1))), (4, .int (nI (i + 1))), (3, .int (nI i)), (2, .int (nI 1)), (0, .ref (o 3))]) hx hb dX0_leakAll_123 hl (k := 5) rfl (nI_1 _) (by decide) rfl (fun ls hl => ?_)
      refine lv_goto (tgt := 2) hx hb dX0_leakAll_126 (by decide) ?_
      rw [show (s_pour (s_pour (s_leaks S i) i (-(f_leakP (s_leaks S i) i i (i + 1))) (-(f_wm (s_leaks S i) i (f_leakP (s_leaks S i) i i (i + 1))))) (i + 1) (f_leakP (s_leaks S i) i i (i + 1)) (f_wm (s_leaks S i) i (f_leakP (s_leaks S i) i i (i + 1))) : hg_S) = s_leaks S (i + 1) from (show s_leak (s_leaks S i) i = _ from if_neg c22).symm] at hP hD
      exact ih ls H locs (lv_sub hl [0, 6] rfl) hP hD hS
  · intro ls H locs hl hP hD hS
    have hl : lv_has ls 9 [(1, .int (nI 3)), (0, .ref (o 3))] := hl
    refine lv_iload_n hx hb dX0_leakAll_2 rfl (lv_at hl 0 rfl) ?_
    refine lv_iconst (v := nI 3) hx hb dX0_leakAll_3 (by decide) ?_
    refine lv_icmp_ge (tgt := 129) hx hb dX0_leakAll_4 (by decide) (fun c_4 => ?_) (fun c_4 => absurd (nI_le (Nat.le_refl _) (by omega)) c_4)
    exact W.vret hx hb hr (fun t ht hW => ⟨⟨(), rfl, trivial, ⟨by rw [ht]; exact hP, hD⟩⟩, hS.F ht⟩) hS.2.2 dX0_leakAll_129
set_option maxHeartbeats 4000000 in
set_option maxRecDepth 100000 in
/-- the feed -/
theorem m_X0_feedAll (l : Launch) (D : va_G) (o : Nat → Nat) (cI cJ cZ : ClassId) (S : hg_S) (sz : Nat)  : Met l yX0_feedAll wsX0_feedAll ({ frames := 1, cells := 0, slots := 0, locals := 25 }) (va_Pc [.ref (o 3)] (hg_Wr D (xW o cI cJ cZ S) (hg_ty cI cJ cZ) sz)) (va_Qv (fun (_ : Unit) => True) (fun _ t => hg_At D (xW o cI cJ cZ (s_feeds S 4)) (va_A (xW o cI cJ cZ S) sz) t) (va_A (xW o cI cJ cZ S) sz)) 0 0 (va_A (xW o cI cJ cZ S) sz) := by
  refine h_start (cc := cX0_feedAll) (maxL := 4) (ret := none) (by decide) rfl (Nat.le_of_ble_eq_true rfl) ?_
  intro pg ev s mi args below meth cd ls hx hb hr hts hown hlocks hml hnm hpic hl
  obtain ⟨hsz, hP, hK, hD0⟩ := hpic
  subst hsz
  have hD := hD0.self (sz := s.heap.size)
  generalize hAe : va_A (xW o cI cJ cZ S) s.heap.size = A at hD ⊢
  have hA : ∀ q : Nat, s.heap.size ≤ q → A q := fun q h => by rw [← hAe]; exact Or.inr h
  have hS : va_S A s.heap s.heap [] := va_S.rf
  have hi0 : ∀ w ∈ u_ws RX0 TX0 7, w ∈ wsX0_feedAll := by decide +kernel
  have hl : lv_has ls 4 [(0, .ref (o 3))] := hl
  refine lv_iconst (v := nI 0) hx hb dX0_feedAll_0 (by decide) ?_
  refine lv_istore_n (lv' := [(1, .int (nI 0)), (0, .ref (o 3))]) hx hb dX0_feedAll_1 rfl hl (by decide) rfl (fun ls hl => ?_)
  have hP : va_P D vwCl (xW o cI cJ cZ (s_feeds S 0)) s.heap := hP
  have hD : va_D A (xW o cI cJ cZ (s_feeds S 0)) := hD
  refine h_forW (nL := 4) (4) (fun i => [(1, .int (nI i)), (0, .ref (o 3))]) (fun i => xW o cI cJ cZ (s_feeds S i)) ?_ ?_ (lv_sub hl [0, 1] rfl) hP hD hS
  · intro i ls H locs hi hl hP hD hS ih
    have hl : lv_has ls 4 [(1, .int (nI i)), (0, .ref (o 3))] := hl
    refine lv_iload_n hx hb dX0_feedAll_2 rfl (lv_at hl 0 rfl) ?_
    refine lv_iconst (v := nI 4) hx hb dX0_feedAll_3 (by decide) ?_
    refine lv_icmp_ge (tgt := 43) hx hb dX0_feedAll_4 (by decide) (fun c_4 => absurd c_4 (nI_ge hi (by omega))) (fun c_4 => ?_)
    refine lv_aload_n hx hb dX0_feedAll_7 rfl (lv_at hl 1 rfl) ?_
    refine va_get (C := RX0) (T := TX0) (N := 7) (v := .ref (o 17)) hx hb hts hi0 hown hK hP 3 rfl rfl 2 (by decide) (hts (.fieldLink RX0 16 "HotGround$Ground" "feed" "[I") (by decide +kernel)) (fun _ h9 => h9) rfl dX0_feedAll_8 ?_
    refine lv_iload_n hx hb dX0_feedAll_11 rfl (lv_at hl 0 rfl) ?_
    refine h_iald (f := hg_i (s_feeds S i) 10) hx hb hK hP 17 0 rfl rfl i (rfl) (by omega) (by decide) dX0_feedAll_12 ?_
    refine lv_i2l (v := Int32.toInt64 ((hg_i (s_feeds S i) 10) i)) hx hb dX0_feedAll_13 rfl ?_
    refine h_topl (y := f_feedM (s_feeds S i) i) (rfl) ?_
    refine lv_lstore_n (lv' := [(2, .long (f_feedM (s_feeds S i) i)), (1, .int (nI i)), (0, .ref (o 3))]) hx hb dX0_feedAll_14 rfl hl (by decide) rfl (fun ls hl => ?_)
    refine lv_aload_n hx hb dX0_feedAll_15 rfl (lv_at hl 2 rfl) ?_
    refine lv_iload_n hx hb dX0_feedAll_16 rfl (lv_at hl 1 rfl) ?_
    refine lv_lload_n hx hb dX0_feedAll_17 rfl (lv_at hl 0 rfl) ?_
    refine lv_lload_n hx hb dX0_feedAll_18 rfl (lv_at hl 0 rfl) ?_
    refine lv_ldc2 (v := 10) hx hb hown (hts (.constantLong RX0 54 (10)) (by decide +kernel)) dX0_feedAll_19 ?_
    refine lv_lmul hx hb dX0_feedAll_22 ?_
    refine h_callv (w1 := xW o cI cJ cZ (s_pour (s_feeds S i) i (f_feedM (s_feeds S i) i) ((f_feedM (s_feeds S i) i) * (10)))) (va_runV (As := [.int (nI i), .long (f_feedM (s_feeds S i) i), .long ((f_feedM (s_feeds S i) i) * (10))]) (rest := []) ⟨hx, hb, hml, hown, hts⟩ (m_X0_pour l D o cI cJ cZ (s_feeds S i) H.size i (by omega) (f_feedM (s_feeds S i) i) ((f_feedM (s_feeds S i) i) * (10))) (cwV 3 hts gX0_feedAll_X0_pour rfl rfl rfl (by decide +kernel) ⟨Nat.le_of_ble_eq_true rfl, Nat.le_of_ble_eq_true rfl⟩) (h_preW hK hP hD 3 rfl rfl rfl) rfl rfl hl.1 rfl (lv_room (Nat.le_of_ble_eq_true rfl)) dX0_feedAll_23 ⟨Nat.le_of_ble_eq_true rfl, Nat.le_of_ble_eq_true rfl⟩) hS (h_all hD hS hA) (fun H locs hP hD hS => ?_)
    refine lv_aload_n hx hb dX0_feedAll_26 rfl (lv_at hl 2 rfl) ?_
    refine lv_iconst (v := nI 4) hx hb dX0_feedAll_27 (by decide) ?_
    refine lv_lload_n hx hb dX0_feedAll_28 rfl (lv_at hl 0 rfl) ?_
    refine lv_lload_n hx hb dX0_feedAll_29 rfl (lv_at hl 0 rfl) ?_
    refine lv_ldc2 (v := 10) hx hb hown (hts (.constantLong RX0 54 (10)) (by decide +kernel)) dX0_feedAll_30 ?_
    refine lv_lmul hx hb dX0_feedAll_33 ?_
    refine h_callv (w1 := xW o cI cJ cZ (s_book (s_pour (s_feeds S i) i (f_feedM (s_feeds S i) i) ((f_feedM (s_feeds S i) i) * (10))) 4 (f_feedM (s_feeds S i) i) ((f_feedM (s_feeds S i) i) * (10)))) (va_runV (As := [.int (nI 4), .long (f_feedM (s_feeds S i) i), .long ((f_feedM (s_feeds S i) i) * (10))]) (rest := []) ⟨hx, hb, hml, hown, hts⟩ (m_X0_book l D o cI cJ cZ (s_pour (s_feeds S i) i (f_feedM (s_feeds S i) i) ((f_feedM (s_feeds S i) i) * (10))) H.size 4 (by omega) (f_feedM (s_feeds S i) i) ((f_feedM (s_feeds S i) i) * (10))) (cwV 3 hts gX0_feedAll_X0_book rfl rfl rfl (by decide +kernel) ⟨Nat.le_of_ble_eq_true rfl, Nat.le_of_ble_eq_true rfl⟩) (h_preW hK hP hD 3 rfl rfl rfl) rfl rfl hl.1 rfl (lv_room (Nat.le_of_ble_eq_true rfl)) dX0_feedAll_34 ⟨Nat.le_of_ble_eq_true rfl, Nat.le_of_ble_eq_true rfl⟩) hS (h_all hD hS hA) (fun H locs hP hD hS => ?_)
    refine lv_iinc (v := nI (i + 1)) (lv' := [(1, .int (nI (i + 1))), (2, .long (f_feedM (s_feeds S i) i)), (0, .ref (o 3))]) hx hb dX0_feedAll_37 hl (k := 1) rfl (nI_1 _) (by decide) rfl (fun ls hl => ?_)
    refine lv_goto (tgt := 2) hx hb dX0_feedAll_40 (by decide) ?_
    have hP : va_P D vwCl (xW o cI cJ cZ (s_feeds S (i + 1))) H := hP
    have hD : va_D A (xW o cI cJ cZ (s_feeds S (i + 1))) := hD
    exact ih ls H locs (lv_sub hl [0, 2] rfl) hP hD hS
  · intro ls H locs hl hP hD hS
    have hl : lv_has ls 4 [(1, .int (nI 4)), (0, .ref (o 3))] := hl
    refine lv_iload_n hx hb dX0_feedAll_2 rfl (lv_at hl 0 rfl) ?_
    refine lv_iconst (v := nI 4) hx hb dX0_feedAll_3 (by decide) ?_
    refine lv_icmp_ge (tgt := 43) hx hb dX0_feedAll_4 (by decide) (fun c_4 => ?_) (fun c_4 => absurd (nI_le (Nat.le_refl _) (by omega)) c_4)
    exact W.vret hx hb hr (fun t ht hW => ⟨⟨(), rfl, trivial, ⟨by rw [ht]; exact hP, hD⟩⟩, hS.F ht⟩) hS.2.2 dX0_feedAll_43
