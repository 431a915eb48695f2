set_option maxHeartbeats 4000000 in
set_option maxRecDepth 100000 in
/-- PLAIN -/
theorem m_X4_plain (l : Launch) (D : va_G) (o : Nat → Nat) (cI cJ cZ : ClassId) (S : hg_S) (w p : Nat) (hw : w < 8) (hp : p ≤ 20) : Met l yX4_plain wsX4_plain ({ frames := 0, cells := 0, slots := 0, locals := 0 }) (va_Pc [.ref (o 1), .int (nI w), .int (nI p)] (hg_R D (xW o cI cJ cZ S) (hg_ty cI cJ cZ))) (vp_Si (fun r => r = f_plain S w p)) 0 0 (fun _ => False) := by
  refine h_start (cc := cX4_plain) (maxL := 6) (ret := (some .int)) (by decide) rfl (Nat.le_of_ble_eq_true rfl) ?_
  intro pg ev s mi args below meth cd ls hx hb hr hts hown hlocks hml hnm hpic hl
  obtain ⟨hP, hK⟩ := hpic
  have hi4 : ∀ w ∈ u_ws RX4 TX4 6, w ∈ wsX4_plain := by decide +kernel
  have hl : lv_has ls 6 [(0, .ref (o 1)), (1, .int (nI w)), (2, .int (nI p))] := hl
  refine lv_iload_n hx hb dX4_plain_0 rfl (lv_at hl 1 rfl) ?_
  refine lv_iconst (v := nI 5) hx hb dX4_plain_1 (by decide) ?_
  refine lv_imul hx hb dX4_plain_2 ?_
  refine h_topi (y := nI (w * 5)) (pk_mul _ _) ?_
  refine lv_iload_n hx hb dX4_plain_3 rfl (lv_at hl 2 rfl) ?_
  refine lv_iconst (v := nI 5) hx hb dX4_plain_4 (by decide) ?_
  refine lv_idiv hx hb dX4_plain_5 (by decide) ?_
  refine h_topi (y := nI (p / 5)) (pk_div (by omega) (by omega) (by omega)) ?_
  refine lv_iadd hx hb dX4_plain_6 ?_
  refine h_topi (y := nI ((w * 5) + (p / 5))) (nI_add _ _) ?_
  refine lv_istore_n (lv' := [(3, .int (nI ((w * 5) + (p / 5)))), (0, .ref (o 1)), (1, .int (nI w)), (2, .int (nI p))]) hx hb dX4_plain_7 rfl hl (by decide) rfl (fun ls hl => ?_)
  refine lv_iload_n hx hb dX4_plain_8 rfl (lv_at hl 3 rfl) ?_
  refine lv_iconst (v := nI 5) hx hb dX4_plain_9 (by decide) ?_
  refine lv_irem hx hb dX4_plain_10 (by decide) ?_
  refine h_topi (y := nI (p % 5)) (pk_rem (by omega) (by omega) (by omega)) ?_
  refine lv_istore (lv' := [(4, .int (nI (p % 5))), (3, .int (nI ((w * 5) + (p / 5)))), (0, .ref (o 1)), (1, .int (nI w)), (2, .int (nI p))]) hx hb dX4_plain_11 hl (by decide) rfl (fun ls hl => ?_)
  refine lv_iconst (v := nI 5) hx hb dX4_plain_13 (by decide) ?_
  refine lv_iload hx hb dX4_plain_14 (lv_at hl 0 rfl) ?_
  refine lv_isub hx hb dX4_plain_16 ?_
  refine h_topi (y := nI (5 - (p % 5))) (pk_sub (by omega)) ?_
  refine lv_aload_n hx hb dX4_plain_17 rfl (lv_at hl 2 rfl) ?_
  refine va_get (C := RX4) (T := TX4) (N := 6) (v := .ref (o 10)) hx hb hts hi4 hown hK hP 1 rfl rfl 5 (by decide) (hts (.fieldLink RX4 23 "HotGround$Wells" "corners" "[I") (by decide +kernel)) (fun _ h9 => h9) rfl dX4_plain_18 ?_
  refine lv_iload_n hx hb dX4_plain_21 rfl (lv_at hl 1 rfl) ?_
  refine h_iald (f := hg_i S 4) hx hb hK hP 10 0 rfl rfl ((w * 5) + (p / 5)) (rfl) (by omega) (by decide) dX4_plain_22 ?_
  refine lv_imul hx hb dX4_plain_23 ?_
  refine lv_istore (lv' := [(5, .int ((nI (5 - (p % 5))) * (hg_i S 4 ((w * 5) + (p / 5))))), (4, .int (nI (p % 5))), (3, .int (nI ((w * 5) + (p / 5)))), (0, .ref (o 1)), (1, .int (nI w)), (2, .int (nI p))]) hx hb dX4_plain_24 hl (by decide) rfl (fun ls hl => ?_)
  refine lv_iload hx hb dX4_plain_26 (lv_at hl 1 rfl) ?_
  refine lv_if_ne (tgt := 36) hx hb dX4_plain_28 (by decide) (fun c_28 => ?_) (fun c_28 => ?_)
  · skip
    have c28 : ¬ p % 5 = 0 := fun h => c_28 ((nI_eq0 (by omega)).mpr h)
    refine lv_iload hx hb dX4_plain_36 (lv_at hl 0 rfl) ?_
    refine lv_iload hx hb dX4_plain_38 (lv_at hl 1 rfl) ?_
    refine lv_aload_n hx hb dX4_plain_40 rfl (lv_at hl 3 rfl) ?_
    refine va_get (C := RX4) (T := TX4) (N := 6) (v := .ref (o 10)) hx hb hts hi4 hown hK hP 1 rfl rfl 5 (by decide) (hts (.fieldLink RX4 23 "HotGround$Wells" "corners" "[I") (by decide +kernel)) (fun _ h9 => h9) rfl dX4_plain_41 ?_
    refine lv_iload_n hx hb dX4_plain_44 rfl (lv_at hl 2 rfl) ?_
    refine lv_iconst (v := nI 1) hx hb dX4_plain_45 (by decide) ?_
    refine lv_iadd hx hb dX4_plain_46 ?_
    refine h_topi (y := nI (((w * 5) + (p / 5)) + 1)) (nI_add _ _) ?_
    refine h_iald (f := hg_i S 4) hx hb hK hP 10 0 rfl rfl (((w * 5) + (p / 5)) + 1) (rfl) (by omega) (by decide) dX4_plain_47 ?_
    refine lv_imul hx hb dX4_plain_48 ?_
    refine lv_iadd hx hb dX4_plain_49 ?_
    exact W.iret (v := ((nI (5 - (p % 5))) * (hg_i S 4 ((w * 5) + (p / 5)))) + ((nI (p % 5)) * (hg_i S 4 (((w * 5) + (p / 5)) + 1)))) hx hb hr (fun t ht hW => ⟨_, rfl, by unfold f_plain; first | rw [if_pos c28] | rw [if_neg c28], ht⟩) (fun _ h9 => nomatch h9) dX4_plain_50
  · skip
    have c28 : p % 5 = 0 := (nI_eq0 (by omega)).mp c_28
    refine lv_iload hx hb dX4_plain_31 (lv_at hl 0 rfl) ?_
    refine lv_goto (tgt := 50) hx hb dX4_plain_33 (by decide) ?_
    exact W.iret (v := (nI (5 - (p % 5))) * (hg_i S 4 ((w * 5) + (p / 5)))) hx hb hr (fun t ht hW => ⟨_, rfl, by unfold f_plain; first | rw [if_pos c28] | rw [if_neg c28], ht⟩) (fun _ h9 => nomatch h9) dX4_plain_50
set_option maxHeartbeats 4000000 in
set_option maxRecDepth 100000 in
/-- SCALED -/
theorem m_X4_scaled (l : Launch) (a b : Int32) : Met l yX4_scaled wsX4_scaled ({ frames := 0, cells := 0, slots := 0, locals := 0 }) (va_Pc [.int a, .int b] (fun _ => True)) (vp_Si (fun r => r = f_scaled a b)) 0 0 (fun _ => False) := by
  refine h_start (cc := cX4_scaled) (maxL := 2) (ret := (some .int)) (by decide) rfl (Nat.le_of_ble_eq_true rfl) ?_
  intro pg ev s mi args below meth cd ls hx hb hr hts hown hlocks hml hnm hpic hl
  have hl : lv_has ls 2 [(0, .int a), (1, .int b)] := hl
  refine lv_iload_n hx hb dX4_scaled_0 rfl (lv_at hl 1 rfl) ?_
  refine lv_bipush (v := nI 20) hx hb dX4_scaled_1 (by decide) ?_
  refine lv_icmp_lt (tgt := 10) hx hb dX4_scaled_3 (by decide) (fun c_3 => ?_) (fun c_3 => ?_)
  · skip
    refine lv_iload_n hx hb dX4_scaled_10 rfl (lv_at hl 0 rfl) ?_
    refine lv_bipush (v := nI 20) hx hb dX4_scaled_11 (by decide) ?_
    refine lv_iload_n hx hb dX4_scaled_13 rfl (lv_at hl 1 rfl) ?_
    refine lv_isub hx hb dX4_scaled_14 ?_
    refine lv_imul hx hb dX4_scaled_15 ?_
    refine lv_bipush (v := nI 20) hx hb dX4_scaled_16 (by decide) ?_
    refine lv_idiv hx hb dX4_scaled_18 (by decide) ?_
    exact W.iret (v := (a * ((nI 20) - b)) / (nI 20)) hx hb hr (fun t ht hW => ⟨_, rfl, by unfold f_scaled; first | rw [if_neg (by first | exact c_3 | rw [hg_nlt]; exact c_3)] | rw [if_pos (by first | exact c_3 | (rw [hg_nle] at c_3; exact c_3))], ht⟩) (fun _ h9 => nomatch h9) dX4_scaled_19
  · skip
    refine lv_iconst (v := nI 0) hx hb dX4_scaled_6 (by decide) ?_
    refine lv_goto (tgt := 19) hx hb dX4_scaled_7 (by decide) ?_
    exact W.iret (v := nI 0) hx hb hr (fun t ht hW => ⟨_, rfl, by unfold f_scaled; first | rw [if_neg (by first | exact c_3 | rw [hg_nlt]; exact c_3)] | rw [if_pos (by first | exact c_3 | (rw [hg_nle] at c_3; exact c_3))], ht⟩) (fun _ h9 => nomatch h9) dX4_scaled_19
set_option maxHeartbeats 4000000 in
set_option maxRecDepth 100000 in
/-- TESTED -/
theorem m_X4_tested (l : Launch) (a : Int32) : Met l yX4_tested wsX4_tested ({ frames := 1, cells := 0, slots := 0, locals := 13 }) (va_Pc [.int a] (fun _ => True)) (vp_Si (fun r => r = f_tested a)) 0 0 (fun _ => False) := by
  refine h_start (cc := cX4_tested) (maxL := 1) (ret := (some .int)) (by decide) rfl (Nat.le_of_ble_eq_true rfl) ?_
  intro pg ev s mi args below meth cd ls hx hb hr hts hown hlocks hml hnm hpic hl
  have hl : lv_has ls 1 [(0, .int a)] := hl
  refine lv_iload_n hx hb dX4_tested_0 rfl (lv_at hl 0 rfl) ?_
  refine lv_sipush (v := nI 1000) hx hb dX4_tested_1 (by decide) ?_
  refine va_mmin hx hb (by rw [hml]; exact hl.1.symm) hown (hts (.methodLink RX4 41 Lib.Math.min.name) (by decide +kernel)) (hts (.static Lib.Math.min.name) (by decide +kernel)) (hts (.initialized "java/lang/Math") (by decide +kernel)) (hts (.code Lib.Math.min.name Lib.Math.min.code 2 (some .int)) (by decide +kernel)) (Nat.le_of_ble_eq_true rfl) (Nat.le_of_ble_eq_true rfl) (Nat.zero_le _) (Nat.zero_le _) dX4_tested_4 ?_
  exact W.iret (v := if nI 1000 < a then nI 1000 else a) hx hb hr (fun t ht hW => ⟨_, rfl, rfl, ht⟩) (fun _ h9 => nomatch h9) dX4_tested_7
set_option maxHeartbeats 4000000 in
set_option maxRecDepth 100000 in
/-- STEAM -/
theorem m_X4_steam (l : Launch) (a : Int32) (p : Nat) (hp : p ≤ 20) : Met l yX4_steam wsX4_steam ({ frames := 0, cells := 0, slots := 0, locals := 0 }) (va_Pc [.int a, .int (nI p)] (fun _ => True)) (vp_Si (fun r => r = f_steam a p)) 0 0 (fun _ => False) := by
  refine h_start (cc := cX4_steam) (maxL := 2) (ret := (some .int)) (by decide) rfl (Nat.le_of_ble_eq_true rfl) ?_
  intro pg ev s mi args below meth cd ls hx hb hr hts hown hlocks hml hnm hpic hl
  have hl : lv_has ls 2 [(0, .int a), (1, .int (nI p))] := hl
  refine lv_iload_n hx hb dX4_steam_0 rfl (lv_at hl 0 rfl) ?_
  refine lv_sipush (v := nI 300) hx hb dX4_steam_1 (by decide) ?_
  refine lv_iconst (v := nI 5) hx hb dX4_steam_4 (by decide) ?_
  refine lv_iload_n hx hb dX4_steam_5 rfl (lv_at hl 1 rfl) ?_
  refine lv_imul hx hb dX4_steam_6 ?_
  refine h_topi (y := nI (5 * p)) (pk_mul _ _) ?_
  refine lv_isub hx hb dX4_steam_7 ?_
  refine h_topi (y := nI (300 - (5 * p))) (pk_sub (by omega)) ?_
  refine lv_imul hx hb dX4_steam_8 ?_
  refine lv_sipush (v := nI 1000) hx hb dX4_steam_9 (by decide) ?_
  refine lv_idiv hx hb dX4_steam_12 (by decide) ?_
  exact W.iret (v := (a * (nI (300 - (5 * p)))) / (nI 1000)) hx hb hr (fun t ht hW => ⟨_, rfl, rfl, ht⟩) (fun _ h9 => nomatch h9) dX4_steam_13
set_option maxHeartbeats 4000000 in
set_option maxRecDepth 100000 in
/-- a flow in fifths -/
theorem m_X4_fifths (l : Launch) (D : va_G) (o : Nat → Nat) (cI cJ cZ : ClassId) (S : hg_S) (w p : Nat) (hw : w < 8) (hp : p ≤ 20) : Met l yX4_fifths wsX4_fifths ({ frames := 2, cells := 0, slots := 0, locals := 33 }) (va_Pc [.ref (o 1), .int (nI w), .int (nI p)] (hg_R D (xW o cI cJ cZ S) (hg_ty cI cJ cZ))) (vp_Si (fun r => r = f_flow S w p)) 0 0 (fun _ => False) := by
  refine h_start (cc := cX4_fifths) (maxL := 4) (ret := (some .int)) (by decide) rfl (Nat.le_of_ble_eq_true rfl) ?_
  intro pg ev s mi args below meth cd ls hx hb hr hts hown hlocks hml hnm hpic hl
  obtain ⟨hP, hK⟩ := hpic
  have hi4 : ∀ w ∈ u_ws RX4 TX4 6, w ∈ wsX4_fifths := by decide +kernel
  have hl : lv_has ls 4 [(0, .ref (o 1)), (1, .int (nI w)), (2, .int (nI p))] := hl
  refine lv_aload_n hx hb dX4_fifths_0 rfl (lv_at hl 0 rfl) ?_
  refine lv_iload_n hx hb dX4_fifths_1 rfl (lv_at hl 1 rfl) ?_
  refine lv_iload_n hx hb dX4_fifths_2 rfl (lv_at hl 2 rfl) ?_
  refine vp_callSi (va_Run.run (va_runV (As := [.int (nI w), .int (nI p)]) (rest := []) ⟨hx, hb, hml, hown, hts⟩ (m_X4_plain l D o cI cJ cZ S w p (by omega) (by omega)) (cwV 2 hts gX4_fifths_X4_plain rfl rfl rfl (by decide +kernel) ⟨Nat.le_of_ble_eq_true rfl, Nat.le_of_ble_eq_true rfl⟩) (h_preR hK hP 1 rfl rfl rfl) rfl rfl hl.1 rfl (lv_room (Nat.le_of_ble_eq_true rfl)) dX4_fifths_3 ⟨Nat.le_of_ble_eq_true rfl, Nat.le_of_ble_eq_true rfl⟩)) (fun r_1 hr_1 => ?_)
  subst hr_1
  refine lv_istore_n (lv' := [(3, .int (f_plain S w p)), (0, .ref (o 1)), (1, .int (nI w)), (2, .int (nI p))]) hx hb dX4_fifths_6 rfl hl (by decide) rfl (fun ls hl => ?_)
  refine lv_aload_n hx hb dX4_fifths_7 rfl (lv_at hl 1 rfl) ?_
  refine va_get (C := RX4) (T := TX4) (N := 6) (v := .ref (o 6)) hx hb hts hi4 hown hK hP 1 rfl rfl 1 (by decide) (hts (.fieldLink RX4 9 "HotGround$Wells" "kind" "[I") (by decide +kernel)) (fun _ h9 => h9) rfl dX4_fifths_8 ?_
  refine lv_iload_n hx hb dX4_fifths_11 rfl (lv_at hl 2 rfl) ?_
  refine h_iald (f := hg_i S 0) hx hb hK hP 6 0 rfl rfl w (rfl) (by omega) (by decide) dX4_fifths_12 ?_
  refine lv_iconst (v := nI 1) hx hb dX4_fifths_13 (by decide) ?_
  refine lv_icmp_lt (tgt := 28) hx hb dX4_fifths_14 (by decide) (fun c_14 => ?_) (fun c_14 => ?_)
  · skip
    refine lv_aload_n hx hb dX4_fifths_28 rfl (lv_at hl 1 rfl) ?_
    refine va_get (C := RX4) (T := TX4) (N := 6) (v := .ref (o 6)) hx hb hts hi4 hown hK hP 1 rfl rfl 1 (by decide) (hts (.fieldLink RX4 9 "HotGround$Wells" "kind" "[I") (by decide +kernel)) (fun _ h9 => h9) rfl dX4_fifths_29 ?_
    refine lv_iload_n hx hb dX4_fifths_32 rfl (lv_at hl 2 rfl) ?_
    refine h_iald (f := hg_i S 0) hx hb hK hP 6 0 rfl rfl w (rfl) (by omega) (by decide) dX4_fifths_33 ?_
    refine lv_iconst (v := nI 2) hx hb dX4_fifths_34 (by decide) ?_
    refine lv_icmp_lt (tgt := 43) hx hb dX4_fifths_35 (by decide) (fun c_35 => ?_) (fun c_35 => ?_)
    · skip
      refine lv_iload_n hx hb dX4_fifths_43 rfl (lv_at hl 0 rfl) ?_
      exact W.iret (v := f_plain S w p) hx hb hr (fun t ht hW => ⟨_, rfl, by unfold f_flow f_up; simp only [c_14, c_35, if_true, if_false], ht⟩) (fun _ h9 => nomatch h9) dX4_fifths_44
    · skip
      refine lv_iload_n hx hb dX4_fifths_38 rfl (lv_at hl 0 rfl) ?_
      refine vp_callSi (va_Run.run (va_runS (As := [.int (f_plain S w p)]) (rest := []) ⟨hx, hb, hml, hown, hts⟩ (m_X4_tested l (f_plain S w p)) (va_cwS 1 hts gX4_fifths_X4_tested rfl rfl rfl (by decide +kernel) ⟨Nat.le_of_ble_eq_true rfl, Nat.le_of_ble_eq_true rfl⟩) (h_preS0) rfl rfl hl.1 rfl (lv_room (Nat.le_of_ble_eq_true rfl)) dX4_fifths_39 ⟨Nat.le_of_ble_eq_true rfl, Nat.le_of_ble_eq_true rfl⟩)) (fun r_2 hr_2 => ?_)
      subst hr_2
      refine lv_istore_n (lv' := [(3, .int (f_tested (f_plain S w p))), (0, .ref (o 1)), (1, .int (nI w)), (2, .int (nI p))]) hx hb dX4_fifths_42 rfl hl (by decide) rfl (fun ls hl => ?_)
      refine lv_iload_n hx hb dX4_fifths_43 rfl (lv_at hl 0 rfl) ?_
      exact W.iret (v := f_tested (f_plain S w p)) hx hb hr (fun t ht hW => ⟨_, rfl, by unfold f_flow f_up; simp only [c_14, c_35, if_true, if_false], ht⟩) (fun _ h9 => nomatch h9) dX4_fifths_44
  · skip
    refine lv_iload_n hx hb dX4_fifths_17 rfl (lv_at hl 0 rfl) ?_
    refine lv_aload_n hx hb dX4_fifths_18 rfl (lv_at hl 1 rfl) ?_
    refine va_get (C := RX4) (T := TX4) (N := 6) (v := .ref (o 8)) hx hb hts hi4 hown hK hP 1 rfl rfl 3 (by decide) (hts (.fieldLink RX4 16 "HotGround$Wells" "age" "[I") (by decide +kernel)) (fun _ h9 => h9) rfl dX4_fifths_19 ?_
    refine lv_iload_n hx hb dX4_fifths_22 rfl (lv_at hl 2 rfl) ?_
    refine h_iald (f := hg_i S 2) hx hb hK hP 8 0 rfl rfl w (rfl) (by omega) (by decide) dX4_fifths_23 ?_
    refine vp_callSi (va_Run.run (va_runS (As := [.int (f_plain S w p), .int (hg_i S 2 w)]) (rest := []) ⟨hx, hb, hml, hown, hts⟩ (m_X4_scaled l (f_plain S w p) (hg_i S 2 w)) (va_cwS 2 hts gX4_fifths_X4_scaled rfl rfl rfl (by decide +kernel) ⟨Nat.le_of_ble_eq_true rfl, Nat.le_of_ble_eq_true rfl⟩) (h_preS0) rfl rfl hl.1 rfl (lv_room (Nat.le_of_ble_eq_true rfl)) dX4_fifths_24 ⟨Nat.le_of_ble_eq_true rfl, Nat.le_of_ble_eq_true rfl⟩)) (fun r_3 hr_3 => ?_)
    subst hr_3
    refine lv_istore_n (lv' := [(3, .int (f_scaled (f_plain S w p) (hg_i S 2 w))), (0, .ref (o 1)), (1, .int (nI w)), (2, .int (nI p))]) hx hb dX4_fifths_27 rfl hl (by decide) rfl (fun ls hl => ?_)
    refine lv_aload_n hx hb dX4_fifths_28 rfl (lv_at hl 1 rfl) ?_
    refine va_get (C := RX4) (T := TX4) (N := 6) (v := .ref (o 6)) hx hb hts hi4 hown hK hP 1 rfl rfl 1 (by decide) (hts (.fieldLink RX4 9 "HotGround$Wells" "kind" "[I") (by decide +kernel)) (fun _ h9 => h9) rfl dX4_fifths_29 ?_
    refine lv_iload_n hx hb dX4_fifths_32 rfl (lv_at hl 2 rfl) ?_
    refine h_iald (f := hg_i S 0) hx hb hK hP 6 0 rfl rfl w (rfl) (by omega) (by decide) dX4_fifths_33 ?_
    refine lv_iconst (v := nI 2) hx hb dX4_fifths_34 (by decide) ?_
    refine lv_icmp_lt (tgt := 43) hx hb dX4_fifths_35 (by decide) (fun c_35 => ?_) (fun c_35 => ?_)
    · skip
      refine lv_iload_n hx hb dX4_fifths_43 rfl (lv_at hl 0 rfl) ?_
      exact W.iret (v := f_scaled (f_plain S w p) (hg_i S 2 w)) hx hb hr (fun t ht hW => ⟨_, rfl, by unfold f_flow f_up; simp only [c_14, c_35, if_true, if_false], ht⟩) (fun _ h9 => nomatch h9) dX4_fifths_44
    · skip
      refine lv_iload_n hx hb dX4_fifths_38 rfl (lv_at hl 0 rfl) ?_
      refine vp_callSi (va_Run.run (va_runS (As := [.int (f_scaled (f_plain S w p) (hg_i S 2 w))]) (rest := []) ⟨hx, hb, hml, hown, hts⟩ (m_X4_tested l (f_scaled (f_plain S w p) (hg_i S 2 w))) (va_cwS 1 hts gX4_fifths_X4_tested rfl rfl rfl (by decide +kernel) ⟨Nat.le_of_ble_eq_true rfl, Nat.le_of_ble_eq_true rfl⟩) (h_preS0) rfl rfl hl.1 rfl (lv_room (Nat.le_of_ble_eq_true rfl)) dX4_fifths_39 ⟨Nat.le_of_ble_eq_true rfl, Nat.le_of_ble_eq_true rfl⟩)) (fun r_4 hr_4 => ?_)
      subst hr_4
      refine lv_istore_n (lv' := [(3, .int (f_tested (f_scaled (f_plain S w p) (hg_i S 2 w)))), (0, .ref (o 1)), (1, .int (nI w)), (2, .int (nI p))]) hx hb dX4_fifths_42 rfl hl (by decide) rfl (fun ls hl => ?_)
      refine lv_iload_n hx hb dX4_fifths_43 rfl (lv_at hl 0 rfl) ?_
      exact W.iret (v := f_tested (f_scaled (f_plain S w p) (hg_i S 2 w))) hx hb hr (fun t ht hW => ⟨_, rfl, by unfold f_flow f_up; simp only [c_14, c_35, if_true, if_false], ht⟩) (fun _ h9 => nomatch h9) dX4_fifths_44
set_option maxHeartbeats 4000000 in
set_option maxRecDepth 100000 in
/-- what one asking brings to the trace -/
theorem m_X4_weight (l : Launch) (D : va_G) (o : Nat → Nat) (cI cJ cZ : ClassId) (S : hg_S) (w : Nat) (hw : w < 8) : Met l yX4_weight wsX4_weight ({ frames := 0, cells := 0, slots := 0, locals := 0 }) (va_Pc [.ref (o 1), .int (nI w)] (hg_R D (xW o cI cJ cZ S) (hg_ty cI cJ cZ))) (vp_Si (fun r => r = f_weight S w)) 0 0 (fun _ => False) := by
  refine h_start (cc := cX4_weight) (maxL := 3) (ret := (some .int)) (by decide) rfl (Nat.le_of_ble_eq_true rfl) ?_
  intro pg ev s mi args below meth cd ls hx hb hr hts hown hlocks hml hnm hpic hl
  obtain ⟨hP, hK⟩ := hpic
  have hi4 : ∀ w ∈ u_ws RX4 TX4 6, w ∈ wsX4_weight := by decide +kernel
  have hl : lv_has ls 3 [(0, .ref (o 1)), (1, .int (nI w))] := hl
  refine lv_iconst (v := nI 1) hx hb dX4_weight_0 (by decide) ?_
  refine lv_istore_n (lv' := [(2, .int (nI 1)), (0, .ref (o 1)), (1, .int (nI w))]) hx hb dX4_weight_1 rfl hl (by decide) rfl (fun ls hl => ?_)
  refine lv_aload_n hx hb dX4_weight_2 rfl (lv_at hl 1 rfl) ?_
  refine va_get (C := RX4) (T := TX4) (N := 6) (v := .ref (o 6)) hx hb hts hi4 hown hK hP 1 rfl rfl 1 (by decide) (hts (.fieldLink RX4 9 "HotGround$Wells" "kind" "[I") (by decide +kernel)) (fun _ h9 => h9) rfl dX4_weight_3 ?_
  refine lv_iload_n hx hb dX4_weight_6 rfl (lv_at hl 2 rfl) ?_
  refine h_iald (f := hg_i S 0) hx hb hK hP 6 0 rfl rfl w (rfl) (by omega) (by decide) dX4_weight_7 ?_
  refine lv_iconst (v := nI 1) hx hb dX4_weight_8 (by decide) ?_
  refine lv_icmp_lt (tgt := 15) hx hb dX4_weight_9 (by decide) (fun c_9 => ?_) (fun c_9 => ?_)
  · skip
    refine lv_aload_n hx hb dX4_weight_15 rfl (lv_at hl 1 rfl) ?_
    refine va_get (C := RX4) (T := TX4) (N := 6) (v := .ref (o 6)) hx hb hts hi4 hown hK hP 1 rfl rfl 1 (by decide) (hts (.fieldLink RX4 9 "HotGround$Wells" "kind" "[I") (by decide +kernel)) (fun _ h9 => h9) rfl dX4_weight_16 ?_
    refine lv_iload_n hx hb dX4_weight_19 rfl (lv_at hl 2 rfl) ?_
    refine h_iald (f := hg_i S 0) hx hb hK hP 6 0 rfl rfl w (rfl) (by omega) (by decide) dX4_weight_20 ?_
    refine lv_iconst (v := nI 2) hx hb dX4_weight_21 (by decide) ?_
    refine lv_icmp_lt (tgt := 28) hx hb dX4_weight_22 (by decide) (fun c_22 => ?_) (fun c_22 => ?_)
    · skip
      refine lv_iload_n hx hb dX4_weight_28 rfl (lv_at hl 0 rfl) ?_
      exact W.iret (v := nI 1) hx hb hr (fun t ht hW => ⟨_, rfl, by unfold f_weight; simp only [c_9, c_22, if_true, if_false], ht⟩) (fun _ h9 => nomatch h9) dX4_weight_29
    · skip
      refine lv_iinc (v := nI 101) (lv' := [(2, .int (nI 101)), (0, .ref (o 1)), (1, .int (nI w))]) hx hb dX4_weight_25 hl (k := 0) rfl (by decide) (by decide) rfl (fun ls hl => ?_)
      refine lv_iload_n hx hb dX4_weight_28 rfl (lv_at hl 0 rfl) ?_
      exact W.iret (v := nI 101) hx hb hr (fun t ht hW => ⟨_, rfl, by exfalso; simp only [hg_lt, hg_le, i_1, i_2] at c_9 c_22; omega, ht⟩) (fun _ h9 => nomatch h9) dX4_weight_29
  · skip
    refine lv_iinc (v := nI 11) (lv' := [(2, .int (nI 11)), (0, .ref (o 1)), (1, .int (nI w))]) hx hb dX4_weight_12 hl (k := 0) rfl (by decide) (by decide) rfl (fun ls hl => ?_)
    refine lv_aload_n hx hb dX4_weight_15 rfl (lv_at hl 1 rfl) ?_
    refine va_get (C := RX4) (T := TX4) (N := 6) (v := .ref (o 6)) hx hb hts hi4 hown hK hP 1 rfl rfl 1 (by decide) (hts (.fieldLink RX4 9 "HotGround$Wells" "kind" "[I") (by decide +kernel)) (fun _ h9 => h9) rfl dX4_weight_16 ?_
    refine lv_iload_n hx hb dX4_weight_19 rfl (lv_at hl 2 rfl) ?_
    refine h_iald (f := hg_i S 0) hx hb hK hP 6 0 rfl rfl w (rfl) (by omega) (by decide) dX4_weight_20 ?_
    refine lv_iconst (v := nI 2) hx hb dX4_weight_21 (by decide) ?_
    refine lv_icmp_lt (tgt := 28) hx hb dX4_weight_22 (by decide) (fun c_22 => ?_) (fun c_22 => ?_)
    · skip
      refine lv_iload_n hx hb dX4_weight_28 rfl (lv_at hl 0 rfl) ?_
      exact W.iret (v := nI 11) hx hb hr (fun t ht hW => ⟨_, rfl, by unfold f_weight; simp only [c_9, c_22, if_true, if_false], ht⟩) (fun _ h9 => nomatch h9) dX4_weight_29
    · skip
      refine lv_iinc (v := nI 111) (lv' := [(2, .int (nI 111)), (0, .ref (o 1)), (1, .int (nI w))]) hx hb dX4_weight_25 hl (k := 0) rfl (by decide) (by decide) rfl (fun ls hl => ?_)
      refine lv_iload_n hx hb dX4_weight_28 rfl (lv_at hl 0 rfl) ?_
      exact W.iret (v := nI 111) hx hb hr (fun t ht hW => ⟨_, rfl, by unfold f_weight; simp only [c_9, c_22, if_true, if_false], ht⟩) (fun _ h9 => nomatch h9) dX4_weight_29
set_option maxHeartbeats 4000000 in
set_option maxRecDepth 100000 in
/-- SUPPLY -/
theorem m_X4_supply (l : Launch) (D : va_G) (o : Nat → Nat) (cI cJ cZ : ClassId) (S : hg_S) (h0 : hg_n S 0 ≤ 8) (p : Nat) (hp : p ≤ 20) : Met l yX4_supply wsX4_supply ({ frames := 3, cells := 0, slots := 0, locals := 56 }) (va_Pc [.ref (o 1), .int (nI p)] (hg_R D (xW o cI cJ cZ S) (hg_ty cI cJ cZ))) (vp_Si (fun r => r = f_supply S p)) 0 0 (fun _ => False) := by
  refine h_start (cc := cX4_supply) (maxL := 4) (ret := (some .int)) (by decide) rfl (Nat.le_of_ble_eq_true rfl) ?_
  intro pg ev s mi args below meth cd ls hx hb hr hts hown hlocks hml hnm hpic hl
  obtain ⟨hP, hK⟩ := hpic
  have hi4 : ∀ w ∈ u_ws RX4 TX4 6, w ∈ wsX4_supply := by decide +kernel
  have hl : lv_has ls 4 [(0, .ref (o 1)), (1, .int (nI p))] := hl
  refine lv_iconst (v := nI 0) hx hb dX4_supply_0 (by decide) ?_
  refine h_topi (y := hg_sum (f_sup1 S p) 0) (hg_sum_0) ?_
  refine lv_istore_n (lv' := [(2, .int (hg_sum (f_sup1 S p) 0)), (0, .ref (o 1)), (1, .int (nI p))]) hx hb dX4_supply_1 rfl hl (by decide) rfl (fun ls hl => ?_)
  refine lv_iconst (v := nI 0) hx hb dX4_supply_2 (by decide) ?_
  refine lv_istore_n (lv' := [(3, .int (nI 0)), (2, .int (hg_sum (f_sup1 S p) 0)), (0, .ref (o 1)), (1, .int (nI p))]) hx hb dX4_supply_3 rfl hl (by decide) rfl (fun ls hl => ?_)
  refine h_for (nL := 4) (hg_n S 0) (fun i => [(3, .int (nI i)), (2, .int (hg_sum (f_sup1 S p) i)), (0, .ref (o 1)), (1, .int (nI p))]) ?_ ?_ (lv_sub hl [0, 1, 2, 3] rfl)
  · intro i ls hi hl ih
    have hl : lv_has ls 4 [(3, .int (nI i)), (2, .int (hg_sum (f_sup1 S p) i)), (0, .ref (o 1)), (1, .int (nI p))] := hl
    refine lv_iload_n hx hb dX4_supply_4 rfl (lv_at hl 0 rfl) ?_
    refine lv_aload_n hx hb dX4_supply_5 rfl (lv_at hl 2 rfl) ?_
    refine va_get (C := RX4) (T := TX4) (N := 6) (v := .int (nI (hg_n S 0))) hx hb hts hi4 hown hK hP 1 rfl rfl 0 (by decide) (hts (.fieldLink RX4 26 "HotGround$Wells" "count" "I") (by decide +kernel)) (fun _ h9 => h9) rfl dX4_supply_6 ?_
    refine lv_icmp_ge (tgt := 40) hx hb dX4_supply_9 (by decide) (fun c_9 => absurd c_9 (nI_ge hi (by omega))) (fun c_9 => ?_)
    refine lv_aload_n hx hb dX4_supply_12 rfl (lv_at hl 2 rfl) ?_
    refine va_get (C := RX4) (T := TX4) (N := 6) (v := .ref (o 9)) hx hb hts hi4 hown hK hP 1 rfl rfl 4 (by decide) (hts (.fieldLink RX4 19 "HotGround$Wells" "open" "[Z") (by decide +kernel)) (fun _ h9 => h9) rfl dX4_supply_13 ?_
    refine lv_iload_n hx hb dX4_supply_16 rfl (lv_at hl 0 rfl) ?_
    refine h_zald (f := hg_i S 3) hx hb hK hP 9 2 rfl rfl i (rfl) (by omega) (by decide) dX4_supply_17 ?_
    refine lv_if_eq (tgt := 34) hx hb dX4_supply_18 (by decide) (fun c_18 => ?_) (fun c_18 => ?_)
    · skip
      rw [show hg_sum (f_sup1 S p) i = hg_sum (f_sup1 S p) (i + 1) from hg_sum_keep (g := f_sup1 S p) (n := i) (by unfold f_sup1; rw [if_pos c_18])] at hl
      have hl : lv_has ls 4 [(3, .int (nI i)), (2, .int (hg_sum (f_sup1 S p) (i + 1))), (0, .ref (o 1)), (1, .int (nI p))] := hl
      refine lv_iinc (v := nI (i + 1)) (lv' := [(3, .int (nI (i + 1))), (2, .int (hg_sum (f_sup1 S p) (i + 1))), (0, .ref (o 1)), (1, .int (nI p))]) hx hb dX4_supply_34 hl (k := 0) rfl (nI_1 _) (by decide) rfl (fun ls hl => ?_)
      refine lv_goto (tgt := 4) hx hb dX4_supply_37 (by decide) ?_
      exact ih ls (lv_sub hl [0, 1, 2, 3] rfl)
    · skip
      refine lv_iload_n hx hb dX4_supply_21 rfl (lv_at hl 1 rfl) ?_
      refine lv_aload_n hx hb dX4_supply_22 rfl (lv_at hl 2 rfl) ?_
      refine lv_iload_n hx hb dX4_supply_23 rfl (lv_at hl 0 rfl) ?_
      refine lv_iload_n hx hb dX4_supply_24 rfl (lv_at hl 3 rfl) ?_
      refine vp_callSi (va_Run.run (va_runV (As := [.int (nI i), .int (nI p)]) (rest := [.int (hg_sum (f_sup1 S p) i)]) ⟨hx, hb, hml, hown, hts⟩ (m_X4_fifths l D o cI cJ cZ S i p (by omega) (by omega)) (cwV 2 hts gX4_supply_X4_fifths rfl rfl rfl (by decide +kernel) ⟨Nat.le_of_ble_eq_true rfl, Nat.le_of_ble_eq_true rfl⟩) (h_preR hK hP 1 rfl rfl rfl) rfl rfl hl.1 rfl (lv_room (Nat.le_of_ble_eq_true rfl)) dX4_supply_25 ⟨Nat.le_of_ble_eq_true rfl, Nat.le_of_ble_eq_true rfl⟩)) (fun r_1 hr_1 => ?_)
      subst hr_1
      refine lv_iload_n hx hb dX4_supply_28 rfl (lv_at hl 3 rfl) ?_
      refine vp_callSi (va_Run.run (va_runS (As := [.int (f_flow S i p), .int (nI p)]) (rest := [.int (hg_sum (f_sup1 S p) i)]) ⟨hx, hb, hml, hown, hts⟩ (m_X4_steam l (f_flow S i p) p (by omega)) (va_cwS 2 hts gX4_supply_X4_steam rfl rfl rfl (by decide +kernel) ⟨Nat.le_of_ble_eq_true rfl, Nat.le_of_ble_eq_true rfl⟩) (h_preS0) rfl rfl hl.1 rfl (lv_room (Nat.le_of_ble_eq_true rfl)) dX4_supply_29 ⟨Nat.le_of_ble_eq_true rfl, Nat.le_of_ble_eq_true rfl⟩)) (fun r_2 hr_2 => ?_)
      subst hr_2
      refine lv_iadd hx hb dX4_supply_32 ?_
      refine h_topi (y := hg_sum (f_sup1 S p) (i + 1)) (by show _ + _ = _ + f_sup1 S p i; unfold f_sup1; rw [if_neg c_18]) ?_
      refine lv_istore_n (lv' := [(2, .int (hg_sum (f_sup1 S p) (i + 1))), (3, .int (nI i)), (0, .ref (o 1)), (1, .int (nI p))]) hx hb dX4_supply_33 rfl hl (by decide) rfl (fun ls hl => ?_)
      refine lv_iinc (v := nI (i + 1)) (lv' := [(3, .int (nI (i + 1))), (2, .int (hg_sum (f_sup1 S p) (i + 1))), (0, .ref (o 1)), (1, .int (nI p))]) hx hb dX4_supply_34 hl (k := 1) rfl (nI_1 _) (by decide) rfl (fun ls hl => ?_)
      refine lv_goto (tgt := 4) hx hb dX4_supply_37 (by decide) ?_
      exact ih ls (lv_sub hl [0, 1, 2, 3] rfl)
  · intro ls hl
    have hl : lv_has ls 4 [(3, .int (nI (hg_n S 0))), (2, .int (hg_sum (f_sup1 S p) (hg_n S 0))), (0, .ref (o 1)), (1, .int (nI p))] := hl
    refine lv_iload_n hx hb dX4_supply_4 rfl (lv_at hl 0 rfl) ?_
    refine lv_aload_n hx hb dX4_supply_5 rfl (lv_at hl 2 rfl) ?_
    refine va_get (C := RX4) (T := TX4) (N := 6) (v := .int (nI (hg_n S 0))) hx hb hts hi4 hown hK hP 1 rfl rfl 0 (by decide) (hts (.fieldLink RX4 26 "HotGround$Wells" "count" "I") (by decide +kernel)) (fun _ h9 => h9) rfl dX4_supply_6 ?_
    refine lv_icmp_ge (tgt := 40) hx hb dX4_supply_9 (by decide) (fun c_9 => ?_) (fun c_9 => absurd (nI_le (Nat.le_refl _) (by omega)) c_9)
    refine lv_iload_n hx hb dX4_supply_40 rfl (lv_at hl 1 rfl) ?_
    exact W.iret (v := hg_sum (f_sup1 S p) (hg_n S 0)) hx hb hr (fun t ht hW => ⟨_, rfl, rfl, ht⟩) (fun _ h9 => nomatch h9) dX4_supply_41
set_option maxHeartbeats 4000000 in
set_option maxRecDepth 100000 in
/-- WATER -/
theorem m_X4_water (l : Launch) (D : va_G) (o : Nat → Nat) (cI cJ cZ : ClassId) (S : hg_S) (h0 : hg_n S 0 ≤ 8) (p : Nat) (hp : p ≤ 20) : Met l yX4_water wsX4_water ({ frames := 3, cells := 0, slots := 0, locals := 56 }) (va_Pc [.ref (o 1), .int (nI p)] (hg_R D (xW o cI cJ cZ S) (hg_ty cI cJ cZ))) (vp_Si (fun r => r = f_water S p)) 0 0 (fun _ => False) := by
  refine h_start (cc := cX4_water) (maxL := 5) (ret := (some .int)) (by decide) rfl (Nat.le_of_ble_eq_true rfl) ?_
  intro pg ev s mi args below meth cd ls hx hb hr hts hown hlocks hml hnm hpic hl
  obtain ⟨hP, hK⟩ := hpic
  have hi4 : ∀ w ∈ u_ws RX4 TX4 6, w ∈ wsX4_water := by decide +kernel
  have hl : lv_has ls 5 [(0, .ref (o 1)), (1, .int (nI p))] := hl
  refine lv_iconst (v := nI 0) hx hb dX4_water_0 (by decide) ?_
  refine h_topi (y := hg_sum (f_wat1 S p) 0) (hg_sum_0) ?_
  refine lv_istore_n (lv' := [(2, .int (hg_sum (f_wat1 S p) 0)), (0, .ref (o 1)), (1, .int (nI p))]) hx hb dX4_water_1 rfl hl (by decide) rfl (fun ls hl => ?_)
  refine lv_iconst (v := nI 0) hx hb dX4_water_2 (by decide) ?_
  refine lv_istore_n (lv' := [(3, .int (nI 0)), (2, .int (hg_sum (f_wat1 S p) 0)), (0, .ref (o 1)), (1, .int (nI p))]) hx hb dX4_water_3 rfl hl (by decide) rfl (fun ls hl => ?_)
  refine h_for (nL := 5) (hg_n S 0) (fun i => [(3, .int (nI i)), (2, .int (hg_sum (f_wat1 S p) i)), (0, .ref (o 1)), (1, .int (nI p))]) ?_ ?_ (lv_sub hl [0, 1, 2, 3] rfl)
  · intro i ls hi hl ih
    have hl : lv_has ls 5 [(3, .int (nI i)), (2, .int (hg_sum (f_wat1 S p) i)), (0, .ref (o 1)), (1, .int (nI p))] := hl
    refine lv_iload_n hx hb dX4_water_4 rfl (lv_at hl 0 rfl) ?_
    refine lv_aload_n hx hb dX4_water_5 rfl (lv_at hl 2 rfl) ?_
    refine va_get (C := RX4) (T := TX4) (N := 6) (v := .int (nI (hg_n S 0))) hx hb hts hi4 hown hK hP 1 rfl rfl 0 (by decide) (hts (.fieldLink RX4 26 "HotGround$Wells" "count" "I") (by decide +kernel)) (fun _ h9 => h9) rfl dX4_water_6 ?_
    refine lv_icmp_ge (tgt := 47) hx hb dX4_water_9 (by decide) (fun c_9 => absurd c_9 (nI_ge hi (by omega))) (fun c_9 => ?_)
    refine lv_aload_n hx hb dX4_water_12 rfl (lv_at hl 2 rfl) ?_
    refine va_get (C := RX4) (T := TX4) (N := 6) (v := .ref (o 9)) hx hb hts hi4 hown hK hP 1 rfl rfl 4 (by decide) (hts (.fieldLink RX4 19 "HotGround$Wells" "open" "[Z") (by decide +kernel)) (fun _ h9 => h9) rfl dX4_water_13 ?_
    refine lv_iload_n hx hb dX4_water_16 rfl (lv_at hl 0 rfl) ?_
    refine h_zald (f := hg_i S 3) hx hb hK hP 9 2 rfl rfl i (rfl) (by omega) (by decide) dX4_water_17 ?_
    refine lv_if_eq (tgt := 41) hx hb dX4_water_18 (by decide) (fun c_18 => ?_) (fun c_18 => ?_)
    · skip
      rw [show hg_sum (f_wat1 S p) i = hg_sum (f_wat1 S p) (i + 1) from hg_sum_keep (g := f_wat1 S p) (n := i) (by unfold f_wat1; rw [if_pos c_18])] at hl
      have hl : lv_has ls 5 [(3, .int (nI i)), (2, .int (hg_sum (f_wat1 S p) (i + 1))), (0, .ref (o 1)), (1, .int (nI p))] := hl
      refine lv_iinc (v := nI (i + 1)) (lv' := [(3, .int (nI (i + 1))), (2, .int (hg_sum (f_wat1 S p) (i + 1))), (0, .ref (o 1)), (1, .int (nI p))]) hx hb dX4_water_41 hl (k := 0) rfl (nI_1 _) (by decide) rfl (fun ls hl => ?_)
      refine lv_goto (tgt := 4) hx hb dX4_water_44 (by decide) ?_
      exact ih ls (lv_sub hl [0, 1, 2, 3] rfl)
    · skip
      refine lv_aload_n hx hb dX4_water_21 rfl (lv_at hl 2 rfl) ?_
      refine lv_iload_n hx hb dX4_water_22 rfl (lv_at hl 0 rfl) ?_
      refine lv_iload_n hx hb dX4_water_23 rfl (lv_at hl 3 rfl) ?_
      refine vp_callSi (va_Run.run (va_runV (As := [.int (nI i), .int (nI p)]) (rest := []) ⟨hx, hb, hml, hown, hts⟩ (m_X4_fifths l D o cI cJ cZ S i p (by omega) (by omega)) (cwV 2 hts gX4_water_X4_fifths rfl rfl rfl (by decide +kernel) ⟨Nat.le_of_ble_eq_true rfl, Nat.le_of_ble_eq_true rfl⟩) (h_preR hK hP 1 rfl rfl rfl) rfl rfl hl.1 rfl (lv_room (Nat.le_of_ble_eq_true rfl)) dX4_water_24 ⟨Nat.le_of_ble_eq_true rfl, Nat.le_of_ble_eq_true rfl⟩)) (fun r_1 hr_1 => ?_)
      subst hr_1
      refine lv_istore (lv' := [(4, .int (f_flow S i p)), (3, .int (nI i)), (2, .int (hg_sum (f_wat1 S p) i)), (0, .ref (o 1)), (1, .int (nI p))]) hx hb dX4_water_27 hl (by decide) rfl (fun ls hl => ?_)
      refine lv_iload_n hx hb dX4_water_29 rfl (lv_at hl 2 rfl) ?_
      refine lv_iload hx hb dX4_water_30 (lv_at hl 0 rfl) ?_
      refine lv_iload hx hb dX4_water_32 (lv_at hl 0 rfl) ?_
      refine lv_iload_n hx hb dX4_water_34 rfl (lv_at hl 4 rfl) ?_
      refine vp_callSi (va_Run.run (va_runS (As := [.int (f_flow S i p), .int (nI p)]) (rest := [.int (f_flow S i p), .int (hg_sum (f_wat1 S p) i)]) ⟨hx, hb, hml, hown, hts⟩ (m_X4_steam l (f_flow S i p) p (by omega)) (va_cwS 2 hts gX4_water_X4_steam rfl rfl rfl (by decide +kernel) ⟨Nat.le_of_ble_eq_true rfl, Nat.le_of_ble_eq_true rfl⟩) (h_preS0) rfl rfl hl.1 rfl (lv_room (Nat.le_of_ble_eq_true rfl)) dX4_water_35 ⟨Nat.le_of_ble_eq_true rfl, Nat.le_of_ble_eq_true rfl⟩)) (fun r_2 hr_2 => ?_)
      subst hr_2
      refine lv_isub hx hb dX4_water_38 ?_
      refine lv_iadd hx hb dX4_water_39 ?_
      refine h_topi (y := hg_sum (f_wat1 S p) (i + 1)) (by show _ + _ = _ + f_wat1 S p i; unfold f_wat1; rw [if_neg c_18]) ?_
      refine lv_istore_n (lv' := [(2, .int (hg_sum (f_wat1 S p) (i + 1))), (4, .int (f_flow S i p)), (3, .int (nI i)), (0, .ref (o 1)), (1, .int (nI p))]) hx hb dX4_water_40 rfl hl (by decide) rfl (fun ls hl => ?_)
      refine lv_iinc (v := nI (i + 1)) (lv' := [(3, .int (nI (i + 1))), (2, .int (hg_sum (f_wat1 S p) (i + 1))), (4, .int (f_flow S i p)), (0, .ref (o 1)), (1, .int (nI p))]) hx hb dX4_water_41 hl (k := 2) rfl (nI_1 _) (by decide) rfl (fun ls hl => ?_)
      refine lv_goto (tgt := 4) hx hb dX4_water_44 (by decide) ?_
      exact ih ls (lv_sub hl [0, 1, 3, 4] rfl)
  · intro ls hl
    have hl : lv_has ls 5 [(3, .int (nI (hg_n S 0))), (2, .int (hg_sum (f_wat1 S p) (hg_n S 0))), (0, .ref (o 1)), (1, .int (nI p))] := hl
    refine lv_iload_n hx hb dX4_water_4 rfl (lv_at hl 0 rfl) ?_
    refine lv_aload_n hx hb dX4_water_5 rfl (lv_at hl 2 rfl) ?_
    refine va_get (C := RX4) (T := TX4) (N := 6) (v := .int (nI (hg_n S 0))) hx hb hts hi4 hown hK hP 1 rfl rfl 0 (by decide) (hts (.fieldLink RX4 26 "HotGround$Wells" "count" "I") (by decide +kernel)) (fun _ h9 => h9) rfl dX4_water_6 ?_
    refine lv_icmp_ge (tgt := 47) hx hb dX4_water_9 (by decide) (fun c_9 => ?_) (fun c_9 => absurd (nI_le (Nat.le_refl _) (by omega)) c_9)
    refine lv_iload_n hx hb dX4_water_47 rfl (lv_at hl 1 rfl) ?_
    exact W.iret (v := hg_sum (f_wat1 S p) (hg_n S 0)) hx hb hr (fun t ht hW => ⟨_, rfl, rfl, ht⟩) (fun _ h9 => nomatch h9) dX4_water_48
set_option maxHeartbeats 4000000 in
set_option maxRecDepth 100000 in
/-- a well more -/
theorem m_X4_add (l : Launch) (D : va_G) (o : Nat → Nat) (cI cJ cZ : ClassId) (S : hg_S) (sz : Nat) (hc : hg_n S 0 < 8) (a b : Int32) : Met l yX4_add wsX4_add ({ frames := 0, cells := 0, slots := 0, locals := 0 }) (va_Pc [.ref (o 1), .int a, .int b] (hg_Wr D (xW o cI cJ cZ S) (hg_ty cI cJ cZ) sz)) (va_Qi (fun (r : Int32) (_ : Unit) => r = nI (hg_n S 0)) (fun _ t => hg_At D (xW o cI cJ cZ (hg_sn (hg_si (hg_si S 0 (upd (hg_i S 0) (hg_n S 0) a)) 1 (upd (hg_i S 1) (hg_n S 0) b)) 0 (hg_n S 0 + 1))) (va_A (xW o cI cJ cZ S) sz) t) (va_A (xW o cI cJ cZ S) sz)) 0 0 (va_A (xW o cI cJ cZ S) sz) := by
  refine h_start (cc := cX4_add) (maxL := 4) (ret := (some .int)) (by decide) rfl (Nat.le_of_ble_eq_true rfl) ?_
  intro pg ev s mi args below meth cd ls hx hb hr hts hown hlocks hml hnm hpic hl
  obtain ⟨hsz, hP, hK, hD0⟩ := hpic
  subst hsz
  have hD := hD0.self (sz := s.heap.size)
  generalize hAe : va_A (xW o cI cJ cZ S) s.heap.size = A at hD ⊢
  have hA : ∀ q : Nat, s.heap.size ≤ q → A q := fun q h => by rw [← hAe]; exact Or.inr h
  have hS : va_S A s.heap s.heap [] := va_S.rf
  have hi4 : ∀ w ∈ u_ws RX4 TX4 6, w ∈ wsX4_add := by decide +kernel
  have hl : lv_has ls 4 [(0, .ref (o 1)), (1, .int a), (2, .int b)] := hl
  refine lv_aload_n hx hb dX4_add_0 rfl (lv_at hl 0 rfl) ?_
  refine va_get (C := RX4) (T := TX4) (N := 6) (v := .int (nI (hg_n S 0))) hx hb hts hi4 hown hK hP 1 rfl rfl 0 (by decide) (hts (.fieldLink RX4 26 "HotGround$Wells" "count" "I") (by decide +kernel)) (fun _ h9 => h9) rfl dX4_add_1 ?_
  refine lv_istore_n (lv' := [(3, .int (nI (hg_n S 0))), (0, .ref (o 1)), (1, .int a), (2, .int b)]) hx hb dX4_add_4 rfl hl (by decide) rfl (fun ls hl => ?_)
  refine lv_aload_n hx hb dX4_add_5 rfl (lv_at hl 1 rfl) ?_
  refine va_get (C := RX4) (T := TX4) (N := 6) (v := .ref (o 6)) hx hb hts hi4 hown hK hP 1 rfl rfl 1 (by decide) (hts (.fieldLink RX4 9 "HotGround$Wells" "kind" "[I") (by decide +kernel)) (fun _ h9 => h9) rfl dX4_add_6 ?_
  refine lv_iload_n hx hb dX4_add_9 rfl (lv_at hl 0 rfl) ?_
  refine lv_iload_n hx hb dX4_add_10 rfl (lv_at hl 2 rfl) ?_
  refine h_iast (f := hg_i S 0) (ws' := xW o cI cJ cZ (hg_si S 0 (upd (hg_i S 0) (hg_n S 0) a))) hx hb hK hP hD hS 6 0 rfl rfl (hg_n S 0) (rfl) (by omega) (by decide) rfl dX4_add_11 (fun H locs hP hD hS => ?_)
  refine lv_aload_n hx hb dX4_add_12 rfl (lv_at hl 1 rfl) ?_
  refine va_get (C := RX4) (T := TX4) (N := 6) (v := .ref (o 7)) hx hb hts hi4 hown hK hP 1 rfl rfl 2 (by decide) (hts (.fieldLink RX4 13 "HotGround$Wells" "box" "[I") (by decide +kernel)) (fun _ h9 => h9) rfl dX4_add_13 ?_
  refine lv_iload_n hx hb dX4_add_16 rfl (lv_at hl 0 rfl) ?_
  refine lv_iload_n hx hb dX4_add_17 rfl (lv_at hl 3 rfl) ?_
  refine h_iast (f := hg_i S 1) (ws' := xW o cI cJ cZ (hg_si (hg_si S 0 (upd (hg_i S 0) (hg_n S 0) a)) 1 (upd (hg_i S 1) (hg_n S 0) b))) hx hb hK hP hD hS 7 0 rfl rfl (hg_n S 0) (rfl) (by omega) (by decide) rfl dX4_add_18 (fun H locs hP hD hS => ?_)
  refine lv_aload_n hx hb dX4_add_19 rfl (lv_at hl 1 rfl) ?_
  refine lv_dup hx hb dX4_add_20 rfl ?_
  refine va_get (C := RX4) (T := TX4) (N := 6) (v := .int (nI (hg_n S 0))) hx hb hts hi4 hown hK hP 1 rfl rfl 0 (by decide) (hts (.fieldLink RX4 26 "HotGround$Wells" "count" "I") (by decide +kernel)) (fun _ h9 => h9) rfl dX4_add_21 ?_
  refine lv_iconst (v := nI 1) hx hb dX4_add_24 (by decide) ?_
  refine lv_iadd hx hb dX4_add_25 ?_
  refine h_topi (y := nI ((hg_n S 0) + 1)) (nI_add _ _) ?_
  refine h_put (C := RX4) (T := TX4) (N := 6) (v := .int (nI ((hg_n S 0) + 1))) (ty := .int) (ws' := xW o cI cJ cZ (hg_sn (hg_si (hg_si S 0 (upd (hg_i S 0) (hg_n S 0) a)) 1 (upd (hg_i S 1) (hg_n S 0) b)) 0 ((hg_n S 0) + 1))) hx hb hts hi4 tyX4 tyX4_ok nmX4 hown hK hP hD hS 1 rfl rfl 0 (by decide) (hts (.fieldLink RX4 26 "HotGround$Wells" "count" "I") (by decide +kernel)) (fun _ h9 => h9) rfl (by decide +kernel) rfl rfl (Nat.le_of_ble_eq_true rfl) rfl dX4_add_26 (fun H locs hP hD hS => ?_)
  refine lv_iload_n hx hb dX4_add_29 rfl (lv_at hl 0 rfl) ?_
  exact W.iret (v := nI (hg_n S 0)) hx hb hr (fun t ht hW => ⟨⟨_, (), rfl, rfl, ⟨by rw [ht]; exact hP, hD⟩⟩, hS.F ht⟩) hS.2.2 dX4_add_30
set_option maxHeartbeats 4000000 in
set_option maxRecDepth 100000 in
/-- its corners -/
theorem m_X4_shape (l : Launch) (D : va_G) (o : Nat → Nat) (cI cJ cZ : ClassId) (S : hg_S) (sz : Nat) (w : Nat) (hw : w < 8) (a b d f g : Int32) : Met l yX4_shape wsX4_shape ({ frames := 0, cells := 0, slots := 0, locals := 0 }) (va_Pc [.ref (o 1), .int (nI w), .int a, .int b, .int d, .int f, .int g] (hg_Wr D (xW o cI cJ cZ S) (hg_ty cI cJ cZ) sz)) (va_Qv (fun (_ : Unit) => True) (fun _ t => hg_At D (xW o cI cJ cZ (hg_si S 4 (upd (upd (upd (upd (upd (hg_i S 4) (w * 5) a) (w * 5 + 1) b) (w * 5 + 2) d) (w * 5 + 3) f) (w * 5 + 4) g))) (va_A (xW o cI cJ cZ S) sz) t) (va_A (xW o cI cJ cZ S) sz)) 0 0 (va_A (xW o cI cJ cZ S) sz) := by
  refine h_start (cc := cX4_shape) (maxL := 8) (ret := none) (by decide) rfl (Nat.le_of_ble_eq_true rfl) ?_
  intro pg ev s mi args below meth cd ls hx hb hr hts hown hlocks hml hnm hpic hl
  obtain ⟨hsz, hP, hK, hD0⟩ := hpic
  subst hsz
  have hD := hD0.self (sz := s.heap.size)
  generalize hAe : va_A (xW o cI cJ cZ S) s.heap.size = A at hD ⊢
  have hA : ∀ q : Nat, s.heap.size ≤ q → A q := fun q h => by rw [← hAe]; exact Or.inr h
  have hS : va_S A s.heap s.heap [] := va_S.rf
  have hi4 : ∀ w ∈ u_ws RX4 TX4 6, w ∈ wsX4_shape := by decide +kernel
  have hl : lv_has ls 8 [(0, .ref (o 1)), (1, .int (nI w)), (2, .int a), (3, .int b), (4, .int d), (5, .int f), (6, .int g)] := hl
  refine lv_iload_n hx hb dX4_shape_0 rfl (lv_at hl 1 rfl) ?_
  refine lv_iconst (v := nI 5) hx hb dX4_shape_1 (by decide) ?_
  refine lv_imul hx hb dX4_shape_2 ?_
  refine h_topi (y := nI (w * 5)) (pk_mul _ _) ?_
  refine lv_istore (lv' := [(7, .int (nI (w * 5))), (0, .ref (o 1)), (1, .int (nI w)), (2, .int a), (3, .int b), (4, .int d), (5, .int f), (6, .int g)]) hx hb dX4_shape_3 hl (by decide) rfl (fun ls hl => ?_)
  refine lv_aload_n hx hb dX4_shape_5 rfl (lv_at hl 1 rfl) ?_
  refine va_get (C := RX4) (T := TX4) (N := 6) (v := .ref (o 10)) hx hb hts hi4 hown hK hP 1 rfl rfl 5 (by decide) (hts (.fieldLink RX4 23 "HotGround$Wells" "corners" "[I") (by decide +kernel)) (fun _ h9 => h9) rfl dX4_shape_6 ?_
  refine lv_iload hx hb dX4_shape_9 (lv_at hl 0 rfl) ?_
  refine lv_iload_n hx hb dX4_shape_11 rfl (lv_at hl 3 rfl) ?_
  refine h_iast (f := hg_i S 4) (ws' := xW o cI cJ cZ (hg_si S 4 (upd (hg_i S 4) (w * 5) a))) hx hb hK hP hD hS 10 0 rfl rfl (w * 5) (rfl) (by omega) (by decide) rfl dX4_shape_12 (fun H locs hP hD hS => ?_)
  refine lv_aload_n hx hb dX4_shape_13 rfl (lv_at hl 1 rfl) ?_
  refine va_get (C := RX4) (T := TX4) (N := 6) (v := .ref (o 10)) hx hb hts hi4 hown hK hP 1 rfl rfl 5 (by decide) (hts (.fieldLink RX4 23 "HotGround$Wells" "corners" "[I") (by decide +kernel)) (fun _ h9 => h9) rfl dX4_shape_14 ?_
  refine lv_iload hx hb dX4_shape_17 (lv_at hl 0 rfl) ?_
  refine lv_iconst (v := nI 1) hx hb dX4_shape_19 (by decide) ?_
  refine lv_iadd hx hb dX4_shape_20 ?_
  refine h_topi (y := nI ((w * 5) + 1)) (nI_add _ _) ?_
  refine lv_iload_n hx hb dX4_shape_21 rfl (lv_at hl 4 rfl) ?_
  refine h_iast (f := upd (hg_i S 4) (w * 5) a) (ws' := xW o cI cJ cZ (hg_si S 4 (upd (upd (hg_i S 4) (w * 5) a) ((w * 5) + 1) b))) hx hb hK hP hD hS 10 0 rfl rfl ((w * 5) + 1) (rfl) (by omega) (by decide) rfl dX4_shape_22 (fun H locs hP hD hS => ?_)
  refine lv_aload_n hx hb dX4_shape_23 rfl (lv_at hl 1 rfl) ?_
  refine va_get (C := RX4) (T := TX4) (N := 6) (v := .ref (o 10)) hx hb hts hi4 hown hK hP 1 rfl rfl 5 (by decide) (hts (.fieldLink RX4 23 "HotGround$Wells" "corners" "[I") (by decide +kernel)) (fun _ h9 => h9) rfl dX4_shape_24 ?_
  refine lv_iload hx hb dX4_shape_27 (lv_at hl 0 rfl) ?_
  refine lv_iconst (v := nI 2) hx hb dX4_shape_29 (by decide) ?_
  refine lv_iadd hx hb dX4_shape_30 ?_
  refine h_topi (y := nI ((w * 5) + 2)) (nI_add _ _) ?_
  refine lv_iload hx hb dX4_shape_31 (lv_at hl 5 rfl) ?_
  refine h_iast (f := upd (upd (hg_i S 4) (w * 5) a) ((w * 5) + 1) b) (ws' := xW o cI cJ cZ (hg_si S 4 (upd (upd (upd (hg_i S 4) (w * 5) a) ((w * 5) + 1) b) ((w * 5) + 2) d))) hx hb hK hP hD hS 10 0 rfl rfl ((w * 5) + 2) (rfl) (by omega) (by decide) rfl dX4_shape_33 (fun H locs hP hD hS => ?_)
  refine lv_aload_n hx hb dX4_shape_34 rfl (lv_at hl 1 rfl) ?_
  refine va_get (C := RX4) (T := TX4) (N := 6) (v := .ref (o 10)) hx hb hts hi4 hown hK hP 1 rfl rfl 5 (by decide) (hts (.fieldLink RX4 23 "HotGround$Wells" "corners" "[I") (by decide +kernel)) (fun _ h9 => h9) rfl dX4_shape_35 ?_
  refine lv_iload hx hb dX4_shape_38 (lv_at hl 0 rfl) ?_
  refine lv_iconst (v := nI 3) hx hb dX4_shape_40 (by decide) ?_
  refine lv_iadd hx hb dX4_shape_41 ?_
  refine h_topi (y := nI ((w * 5) + 3)) (nI_add _ _) ?_
  refine lv_iload hx hb dX4_shape_42 (lv_at hl 6 rfl) ?_
  refine h_iast (f := upd (upd (upd (hg_i S 4) (w * 5) a) ((w * 5) + 1) b) ((w * 5) + 2) d) (ws' := xW o cI cJ cZ (hg_si S 4 (upd (upd (upd (upd (hg_i S 4) (w * 5) a) ((w * 5) + 1) b) ((w * 5) + 2) d) ((w * 5) + 3) f))) hx hb hK hP hD hS 10 0 rfl rfl ((w * 5) + 3) (rfl) (by omega) (by decide) rfl dX4_shape_44 (fun H locs hP hD hS => ?_)
  refine lv_aload_n hx hb dX4_shape_45 rfl (lv_at hl 1 rfl) ?_
  refine va_get (C := RX4) (T := TX4) (N := 6) (v := .ref (o 10)) hx hb hts hi4 hown hK hP 1 rfl rfl 5 (by decide) (hts (.fieldLink RX4 23 "HotGround$Wells" "corners" "[I") (by decide +kernel)) (fun _ h9 => h9) rfl dX4_shape_46 ?_
  refine lv_iload hx hb dX4_shape_49 (lv_at hl 0 rfl) ?_
  refine lv_iconst (v := nI 4) hx hb dX4_shape_51 (by decide) ?_
  refine lv_iadd hx hb dX4_shape_52 ?_
  refine h_topi (y := nI ((w * 5) + 4)) (nI_add _ _) ?_
  refine lv_iload hx hb dX4_shape_53 (lv_at hl 7 rfl) ?_
  refine h_iast (f := upd (upd (upd (upd (hg_i S 4) (w * 5) a) ((w * 5) + 1) b) ((w * 5) + 2) d) ((w * 5) + 3) f) (ws' := xW o cI cJ cZ (hg_si S 4 (upd (upd (upd (upd (upd (hg_i S 4) (w * 5) a) ((w * 5) + 1) b) ((w * 5) + 2) d) ((w * 5) + 3) f) ((w * 5) + 4) g))) hx hb hK hP hD hS 10 0 rfl rfl ((w * 5) + 4) (rfl) (by omega) (by decide) rfl dX4_shape_55 (fun H locs hP hD hS => ?_)
  exact W.vret hx hb hr (fun t ht hW => ⟨⟨(), rfl, trivial, ⟨by rw [ht]; exact hP, hD⟩⟩, hS.F ht⟩) hS.2.2 dX4_shape_56
set_option maxHeartbeats 4000000 in
set_option maxRecDepth 100000 in
/-- a year older -/
theorem m_X4_grow (l : Launch) (D : va_G) (o : Nat → Nat) (cI cJ cZ : ClassId) (S : hg_S) (sz : Nat) (h0 : hg_n S 0 ≤ 8) : Met l yX4_grow wsX4_grow ({ frames := 0, cells := 0, slots := 0, locals := 0 }) (va_Pc [.ref (o 1)] (hg_Wr D (xW o cI cJ cZ S) (hg_ty cI cJ cZ) sz)) (va_Qv (fun (_ : Unit) => True) (fun _ t => hg_At D (xW o cI cJ cZ (hg_si S 2 (f_ages S (hg_n S 0)))) (va_A (xW o cI cJ cZ S) sz) t) (va_A (xW o cI cJ cZ S) sz)) 0 0 (va_A (xW o cI cJ cZ S) sz) := by
  refine h_start (cc := cX4_grow) (maxL := 2) (ret := none) (by decide) rfl (Nat.le_of_ble_eq_true rfl) ?_
  intro pg ev s mi args below meth cd ls hx hb hr hts hown hlocks hml hnm hpic hl
  obtain ⟨hsz, hP, hK, hD0⟩ := hpic
  subst hsz
  have hD := hD0.self (sz := s.heap.size)
  generalize hAe : va_A (xW o cI cJ cZ S) s.heap.size = A at hD ⊢
  have hA : ∀ q : Nat, s.heap.size ≤ q → A q := fun q h => by rw [← hAe]; exact Or.inr h
  have hS : va_S A s.heap s.heap [] := va_S.rf
  have hi4 : ∀ w ∈ u_ws RX4 TX4 6, w ∈ wsX4_grow := by decide +kernel
  have hl : lv_has ls 2 [(0, .ref (o 1))] := hl
  refine lv_iconst (v := nI 0) hx hb dX4_grow_0 (by decide) ?_
  refine lv_istore_n (lv' := [(1, .int (nI 0)), (0, .ref (o 1))]) hx hb dX4_grow_1 rfl hl (by decide) rfl (fun ls hl => ?_)
  rw [show S = hg_si S 2 (f_ages S 0) from f_ages_0 S] at hP hD
  refine h_forW (nL := 2) (hg_n S 0) (fun i => [(1, .int (nI i)), (0, .ref (o 1))]) (fun i => xW o cI cJ cZ (hg_si S 2 (f_ages S i))) ?_ ?_ (lv_sub hl [0, 1] rfl) hP hD hS
  · intro i ls H locs hi hl hP hD hS ih
    have hl : lv_has ls 2 [(1, .int (nI i)), (0, .ref (o 1))] := hl
    refine lv_iload_n hx hb dX4_grow_2 rfl (lv_at hl 0 rfl) ?_
    refine lv_aload_n hx hb dX4_grow_3 rfl (lv_at hl 1 rfl) ?_
    refine va_get (C := RX4) (T := TX4) (N := 6) (v := .int (nI (hg_n S 0))) hx hb hts hi4 hown hK hP 1 rfl rfl 0 (by decide) (hts (.fieldLink RX4 26 "HotGround$Wells" "count" "I") (by decide +kernel)) (fun _ h9 => h9) rfl dX4_grow_4 ?_
    refine lv_icmp_ge (tgt := 35) hx hb dX4_grow_7 (by decide) (fun c_7 => absurd c_7 (nI_ge hi (by omega))) (fun c_7 => ?_)
    refine lv_aload_n hx hb dX4_grow_10 rfl (lv_at hl 1 rfl) ?_
    refine va_get (C := RX4) (T := TX4) (N := 6) (v := .ref (o 9)) hx hb hts hi4 hown hK hP 1 rfl rfl 4 (by decide) (hts (.fieldLink RX4 19 "HotGround$Wells" "open" "[Z") (by decide +kernel)) (fun _ h9 => h9) rfl dX4_grow_11 ?_
    refine lv_iload_n hx hb dX4_grow_14 rfl (lv_at hl 0 rfl) ?_
    refine h_zald (f := hg_i S 3) hx hb hK hP 9 2 rfl rfl i (rfl) (by omega) (by decide) dX4_grow_15 ?_
    refine lv_if_eq (tgt := 29) hx hb dX4_grow_16 (by decide) (fun c_16 => ?_) (fun c_16 => ?_)
    · skip
      refine lv_iinc (v := nI (i + 1)) (lv' := [(1, .int (nI (i + 1))), (0, .ref (o 1))]) hx hb dX4_grow_29 hl (k := 0) rfl (nI_1 _) (by decide) rfl (fun ls hl => ?_)
      refine lv_goto (tgt := 2) hx hb dX4_grow_32 (by decide) ?_
      rw [show (hg_si S 2 (f_ages S i) : hg_S) = hg_si S 2 (f_ages S (i + 1)) from congrArg (hg_si S 2) (f_ages_skip c_16)] at hP hD
      exact ih ls H locs (lv_sub hl [0, 1] rfl) hP hD hS
    · skip
      refine lv_aload_n hx hb dX4_grow_19 rfl (lv_at hl 1 rfl) ?_
      refine va_get (C := RX4) (T := TX4) (N := 6) (v := .ref (o 8)) hx hb hts hi4 hown hK hP 1 rfl rfl 3 (by decide) (hts (.fieldLink RX4 16 "HotGround$Wells" "age" "[I") (by decide +kernel)) (fun _ h9 => h9) rfl dX4_grow_20 ?_
      refine lv_iload_n hx hb dX4_grow_23 rfl (lv_at hl 0 rfl) ?_
      refine lv_dup2_11 hx hb dX4_grow_24 rfl rfl ?_
      refine h_iald (f := f_ages S i) hx hb hK hP 8 0 rfl rfl i (rfl) (by omega) (by decide) dX4_grow_25 ?_
      refine lv_iconst (v := nI 1) hx hb dX4_grow_26 (by decide) ?_
      refine lv_iadd hx hb dX4_grow_27 ?_
      refine lv_topi (fun z_1 ez_1 => ?_)
      refine h_iast (f := f_ages S i) (ws' := xW o cI cJ cZ (hg_si S 2 (upd (f_ages S i) i z_1))) hx hb hK hP hD hS 8 0 rfl rfl i (rfl) (by omega) (by decide) rfl dX4_grow_28 (fun H locs hP hD hS => ?_)
      refine lv_iinc (v := nI (i + 1)) (lv' := [(1, .int (nI (i + 1))), (0, .ref (o 1))]) hx hb dX4_grow_29 hl (k := 0) rfl (nI_1 _) (by decide) rfl (fun ls hl => ?_)
      refine lv_goto (tgt := 2) hx hb dX4_grow_32 (by decide) ?_
      subst ez_1
      rw [show (hg_si S 2 (upd (f_ages S i) i ((f_ages S i i) + (nI 1))) : hg_S) = hg_si S 2 (f_ages S (i + 1)) from congrArg (hg_si S 2) (f_ages_put c_16)] at hP hD
      exact ih ls H locs (lv_sub hl [0, 1] rfl) hP hD hS
  · intro ls H locs hl hP hD hS
    have hl : lv_has ls 2 [(1, .int (nI (hg_n S 0))), (0, .ref (o 1))] := hl
    refine lv_iload_n hx hb dX4_grow_2 rfl (lv_at hl 0 rfl) ?_
    refine lv_aload_n hx hb dX4_grow_3 rfl (lv_at hl 1 rfl) ?_
    refine va_get (C := RX4) (T := TX4) (N := 6) (v := .int (nI (hg_n S 0))) hx hb hts hi4 hown hK hP 1 rfl rfl 0 (by decide) (hts (.fieldLink RX4 26 "HotGround$Wells" "count" "I") (by decide +kernel)) (fun _ h9 => h9) rfl dX4_grow_4 ?_
    refine lv_icmp_ge (tgt := 35) hx hb dX4_grow_7 (by decide) (fun c_7 => ?_) (fun c_7 => absurd (nI_le (Nat.le_refl _) (by omega)) c_7)
    exact W.vret hx hb hr (fun t ht hW => ⟨⟨(), rfl, trivial, ⟨by rw [ht]; exact hP, hD⟩⟩, hS.F ht⟩) hS.2.2 dX4_grow_35
