set_option maxHeartbeats 4000000 in
set_option maxRecDepth 100000 in
/-- in -/
theorem m_X6_in (l : Launch) (v a b : Int32) : Met l yX6_in wsX6_in ({ frames := 0, cells := 0, slots := 0, locals := 0 }) (va_Pc [.int v, .int a, .int b] (fun _ => True)) (vp_Si (fun r => r = hg_in v a b)) 0 0 (fun _ => False) := by
  refine h_start (cc := cX6_in) (maxL := 3) (ret := (some .boolean)) (by decide) rfl (Nat.le_of_ble_eq_true rfl) ?_
  intro pg ev s mi args below meth cd ls hx hb hr hts hown hlocks hml hnm hpic hl
  have hl : lv_has ls 3 [(0, .int v), (1, .int a), (2, .int b)] := hl
  refine lv_iload_n hx hb dX6_in_0 rfl (lv_at hl 0 rfl) ?_
  refine lv_iload_n hx hb dX6_in_1 rfl (lv_at hl 1 rfl) ?_
  refine lv_icmp_lt (tgt := 14) hx hb dX6_in_2 (by decide) (fun c_2 => ?_) (fun c_2 => ?_)
  · skip
    refine lv_iconst (v := nI 0) hx hb dX6_in_14 (by decide) ?_
    exact W.zret (v := nI 0) hx hb hr (by decide) (fun t ht hW => ⟨_, rfl, by rw [hg_in_0 (fun q => by first | exact hg_nlt.mpr q.1 c_2 | exact hg_nlt.mpr q.2 c_7)]; decide, ht⟩) (fun _ h9 => nomatch h9) dX6_in_15
  · skip
    refine lv_iload_n hx hb dX6_in_5 rfl (lv_at hl 0 rfl) ?_
    refine lv_iload_n hx hb dX6_in_6 rfl (lv_at hl 2 rfl) ?_
    refine lv_icmp_gt (tgt := 14) hx hb dX6_in_7 (by decide) (fun c_7 => ?_) (fun c_7 => ?_)
    · skip
      refine lv_iconst (v := nI 0) hx hb dX6_in_14 (by decide) ?_
      exact W.zret (v := nI 0) hx hb hr (by decide) (fun t ht hW => ⟨_, rfl, by rw [hg_in_0 (fun q => by first | exact hg_nlt.mpr q.1 c_2 | exact hg_nlt.mpr q.2 c_7)]; decide, ht⟩) (fun _ h9 => nomatch h9) dX6_in_15
    · skip
      refine lv_iconst (v := nI 1) hx hb dX6_in_10 (by decide) ?_
      refine lv_goto (tgt := 15) hx hb dX6_in_11 (by decide) ?_
      exact W.zret (v := nI 1) hx hb hr (by decide) (fun t ht hW => ⟨_, rfl, by rw [hg_in_1 ⟨hg_nlt.mp c_2, hg_nlt.mp c_7⟩]; decide, ht⟩) (fun _ h9 => nomatch h9) dX6_in_15
set_option maxHeartbeats 4000000 in
set_option maxRecDepth 100000 in
/-- isBox -/
theorem m_X6_isBox (l : Launch) (v : Int32) : Met l yX6_isBox wsX6_isBox ({ frames := 1, cells := 0, slots := 0, locals := 22 }) (va_Pc [.int v] (fun _ => True)) (vp_Si (fun r => r = hg_in v (nI 0) (nI 3))) 0 0 (fun _ => False) := by
  refine h_start (cc := cX6_isBox) (maxL := 1) (ret := (some .boolean)) (by decide) rfl (Nat.le_of_ble_eq_true rfl) ?_
  intro pg ev s mi args below meth cd ls hx hb hr hts hown hlocks hml hnm hpic hl
  have hl : lv_has ls 1 [(0, .int v)] := hl
  refine lv_iload_n hx hb dX6_isBox_0 rfl (lv_at hl 0 rfl) ?_
  refine lv_iconst (v := nI 0) hx hb dX6_isBox_1 (by decide) ?_
  refine lv_iconst (v := nI 3) hx hb dX6_isBox_2 (by decide) ?_
  refine vp_callSi (va_Run.run (va_runS (As := [.int v, .int (nI 0), .int (nI 3)]) (rest := []) ⟨hx, hb, hml, hown, hts⟩ (m_X6_in l v (nI 0) (nI 3)) (va_cwS 3 hts gX6_isBox_X6_in rfl rfl rfl (by decide +kernel) ⟨Nat.le_of_ble_eq_true rfl, Nat.le_of_ble_eq_true rfl⟩) (h_preS0) rfl rfl hl.1 rfl (lv_room (Nat.le_of_ble_eq_true rfl)) dX6_isBox_3 ⟨Nat.le_of_ble_eq_true rfl, Nat.le_of_ble_eq_true rfl⟩)) (fun r_1 hr_1 => ?_)
  subst hr_1
  exact W.zret (v := hg_in v (nI 0) (nI 3)) hx hb hr (hg_in_nar _ _ _) (fun t ht hW => ⟨_, rfl, rfl, ht⟩) (fun _ h9 => nomatch h9) dX6_isBox_6
set_option maxHeartbeats 4000000 in
set_option maxRecDepth 100000 in
/-- is there such a well -/
theorem m_X6_isWell (l : Launch) (D : va_G) (o : Nat → Nat) (cI cJ cZ : ClassId) (S : hg_S) (v : Int32) : Met l yX6_isWell wsX6_isWell ({ frames := 1, cells := 0, slots := 0, locals := 22 }) (va_Pc [.ref (o 0), .int v] (hg_R D (mW o cI cJ cZ S) (hg_ty cI cJ cZ))) (vp_Si (fun r => r = hg_in v (nI 0) (nI (hg_n S 0) - nI 1))) 0 0 (fun _ => False) := by
  refine h_start (cc := cX6_isWell) (maxL := 2) (ret := (some .boolean)) (by decide) rfl (Nat.le_of_ble_eq_true rfl) ?_
  intro pg ev s mi args below meth cd ls hx hb hr hts hown hlocks hml hnm hpic hl
  obtain ⟨hP, hK⟩ := hpic
  have hi6 : ∀ w ∈ u_ws RX6 TX6 27, w ∈ wsX6_isWell := by decide +kernel
  have hl : lv_has ls 2 [(0, .ref (o 0)), (1, .int v)] := hl
  refine lv_iload_n hx hb dX6_isWell_0 rfl (lv_at hl 1 rfl) ?_
  refine lv_iconst (v := nI 0) hx hb dX6_isWell_1 (by decide) ?_
  refine lv_aload_n hx hb dX6_isWell_2 rfl (lv_at hl 0 rfl) ?_
  refine va_get (C := RX6) (T := TX6) (N := 27) (v := .int (nI (hg_n S 0))) hx hb hts hi6 hown hK hP 0 rfl rfl 0 (by decide) (hts (.fieldLink RX6 72 "HotGroundModel" "wells" "I") (by decide +kernel)) (fun _ h9 => h9) rfl dX6_isWell_3 ?_
  refine lv_iconst (v := nI 1) hx hb dX6_isWell_6 (by decide) ?_
  refine lv_isub hx hb dX6_isWell_7 ?_
  refine vp_callSi (va_Run.run (va_runS (As := [.int v, .int (nI 0), .int ((nI (hg_n S 0)) - (nI 1))]) (rest := []) ⟨hx, hb, hml, hown, hts⟩ (m_X6_in l v (nI 0) ((nI (hg_n S 0)) - (nI 1))) (va_cwS 3 hts gX6_isWell_X6_in rfl rfl rfl (by decide +kernel) ⟨Nat.le_of_ble_eq_true rfl, Nat.le_of_ble_eq_true rfl⟩) (h_preS0) rfl rfl hl.1 rfl (lv_room (Nat.le_of_ble_eq_true rfl)) dX6_isWell_8 ⟨Nat.le_of_ble_eq_true rfl, Nat.le_of_ble_eq_true rfl⟩)) (fun r_1 hr_1 => ?_)
  subst hr_1
  exact W.zret (v := hg_in v (nI 0) ((nI (hg_n S 0)) - (nI 1))) hx hb hr (hg_in_nar _ _ _) (fun t ht hW => ⟨_, rfl, rfl, ht⟩) (fun _ h9 => nomatch h9) dX6_isWell_11
set_option maxHeartbeats 4000000 in
set_option maxRecDepth 100000 in
/-- STEAM -/
theorem m_X6_steamOf (l : Launch) (a : Int32) (p : Nat) (hp : p ≤ 20) : Met l yX6_steamOf wsX6_steamOf ({ frames := 0, cells := 0, slots := 0, locals := 0 }) (va_Pc [.int a, .int (nI p)] (fun _ => True)) (vp_Si (fun r => r = f_steam a p)) 0 0 (fun _ => False) := by
  refine h_start (cc := cX6_steamOf) (maxL := 2) (ret := (some .int)) (by decide) rfl (Nat.le_of_ble_eq_true rfl) ?_
  intro pg ev s mi args below meth cd ls hx hb hr hts hown hlocks hml hnm hpic hl
  have hl : lv_has ls 2 [(0, .int a), (1, .int (nI p))] := hl
  refine lv_iload_n hx hb dX6_steamOf_0 rfl (lv_at hl 0 rfl) ?_
  refine lv_sipush (v := nI 300) hx hb dX6_steamOf_1 (by decide) ?_
  refine lv_iconst (v := nI 5) hx hb dX6_steamOf_4 (by decide) ?_
  refine lv_iload_n hx hb dX6_steamOf_5 rfl (lv_at hl 1 rfl) ?_
  refine lv_imul hx hb dX6_steamOf_6 ?_
  refine h_topi (y := nI (5 * p)) (pk_mul _ _) ?_
  refine lv_isub hx hb dX6_steamOf_7 ?_
  refine h_topi (y := nI (300 - (5 * p))) (pk_sub (by omega)) ?_
  refine lv_imul hx hb dX6_steamOf_8 ?_
  refine lv_sipush (v := nI 1000) hx hb dX6_steamOf_9 (by decide) ?_
  refine lv_idiv hx hb dX6_steamOf_12 (by decide) ?_
  exact W.iret (v := (a * (nI (300 - (5 * p)))) / (nI 1000)) hx hb hr (fun t ht hW => ⟨_, rfl, rfl, ht⟩) (fun _ h9 => nomatch h9) dX6_steamOf_13
set_option maxHeartbeats 4000000 in
set_option maxRecDepth 100000 in
/-- a flow -/
theorem m_X6_flowOf (l : Launch) (D : va_G) (o : Nat → Nat) (cI cJ cZ : ClassId) (S : hg_S) (hkd : ok_kd S) (w p : Nat) (hw : w < 8) (hp : p ≤ 20) : Met l yX6_flowOf wsX6_flowOf ({ frames := 0, cells := 0, slots := 0, locals := 0 }) (va_Pc [.ref (o 0), .int (nI w), .int (nI p)] (hg_R D (mW o cI cJ cZ S) (hg_ty cI cJ cZ))) (vp_Si (fun r => r = f_flow S w p)) 0 0 (fun _ => False) := by
  refine h_start (cc := cX6_flowOf) (maxL := 6) (ret := (some .int)) (by decide) rfl (Nat.le_of_ble_eq_true rfl) ?_
  intro pg ev s mi args below meth cd ls hx hb hr hts hown hlocks hml hnm hpic hl
  obtain ⟨hP, hK⟩ := hpic
  have hi6 : ∀ w ∈ u_ws RX6 TX6 27, w ∈ wsX6_flowOf := by decide +kernel
  have hl : lv_has ls 6 [(0, .ref (o 0)), (1, .int (nI w)), (2, .int (nI p))] := hl
  refine lv_iload_n hx hb dX6_flowOf_0 rfl (lv_at hl 2 rfl) ?_
  refine lv_iconst (v := nI 5) hx hb dX6_flowOf_1 (by decide) ?_
  refine lv_idiv hx hb dX6_flowOf_2 (by decide) ?_
  refine h_topi (y := nI (p / 5)) (pk_div (by omega) (by omega) (by omega)) ?_
  refine lv_istore_n (lv' := [(3, .int (nI (p / 5))), (0, .ref (o 0)), (1, .int (nI w)), (2, .int (nI p))]) hx hb dX6_flowOf_3 rfl hl (by decide) rfl (fun ls hl => ?_)
  refine lv_iload_n hx hb dX6_flowOf_4 rfl (lv_at hl 3 rfl) ?_
  refine lv_iconst (v := nI 5) hx hb dX6_flowOf_5 (by decide) ?_
  refine lv_irem hx hb dX6_flowOf_6 (by decide) ?_
  refine h_topi (y := nI (p % 5)) (pk_rem (by omega) (by omega) (by omega)) ?_
  refine lv_istore (lv' := [(4, .int (nI (p % 5))), (3, .int (nI (p / 5))), (0, .ref (o 0)), (1, .int (nI w)), (2, .int (nI p))]) hx hb dX6_flowOf_7 hl (by decide) rfl (fun ls hl => ?_)
  refine lv_iconst (v := nI 5) hx hb dX6_flowOf_9 (by decide) ?_
  refine lv_iload hx hb dX6_flowOf_10 (lv_at hl 0 rfl) ?_
  refine lv_isub hx hb dX6_flowOf_12 ?_
  refine h_topi (y := nI (5 - (p % 5))) (pk_sub (by omega)) ?_
  refine lv_aload_n hx hb dX6_flowOf_13 rfl (lv_at hl 2 rfl) ?_
  refine va_get (C := RX6) (T := TX6) (N := 27) (v := .ref (o 5)) hx hb hts hi6 hown hK hP 0 rfl rfl 5 (by decide) (hts (.fieldLink RX6 23 "HotGroundModel" "corner" "[I") (by decide +kernel)) (fun _ h9 => h9) rfl dX6_flowOf_14 ?_
  refine lv_iconst (v := nI 5) hx hb dX6_flowOf_17 (by decide) ?_
  refine lv_iload_n hx hb dX6_flowOf_18 rfl (lv_at hl 3 rfl) ?_
  refine lv_imul hx hb dX6_flowOf_19 ?_
  refine h_topi (y := nI (5 * w)) (pk_mul _ _) ?_
  refine lv_iload_n hx hb dX6_flowOf_20 rfl (lv_at hl 1 rfl) ?_
  refine lv_iadd hx hb dX6_flowOf_21 ?_
  refine h_topi (y := nI ((5 * w) + (p / 5))) (nI_add _ _) ?_
  refine h_iald (f := hg_i S 4) hx hb hK hP 5 0 rfl rfl ((5 * w) + (p / 5)) (rfl) (by omega) (by decide) dX6_flowOf_22 ?_
  refine lv_imul hx hb dX6_flowOf_23 ?_
  refine lv_istore (lv' := [(5, .int ((nI (5 - (p % 5))) * (hg_i S 4 ((5 * w) + (p / 5))))), (4, .int (nI (p % 5))), (3, .int (nI (p / 5))), (0, .ref (o 0)), (1, .int (nI w)), (2, .int (nI p))]) hx hb dX6_flowOf_24 hl (by decide) rfl (fun ls hl => ?_)
  refine lv_iload hx hb dX6_flowOf_26 (lv_at hl 0 rfl) ?_
  refine lv_iload hx hb dX6_flowOf_28 (lv_at hl 1 rfl) ?_
  refine lv_if_ne (tgt := 37) hx hb dX6_flowOf_30 (by decide) (fun c_30 => ?_) (fun c_30 => ?_)
  · skip
    have c30 : ¬ p % 5 = 0 := fun h => c_30 ((nI_eq0 (by omega)).mpr h)
    refine lv_iload hx hb dX6_flowOf_37 (lv_at hl 1 rfl) ?_
    refine lv_aload_n hx hb dX6_flowOf_39 rfl (lv_at hl 3 rfl) ?_
    refine va_get (C := RX6) (T := TX6) (N := 27) (v := .ref (o 5)) hx hb hts hi6 hown hK hP 0 rfl rfl 5 (by decide) (hts (.fieldLink RX6 23 "HotGroundModel" "corner" "[I") (by decide +kernel)) (fun _ h9 => h9) rfl dX6_flowOf_40 ?_
    refine lv_iconst (v := nI 5) hx hb dX6_flowOf_43 (by decide) ?_
    refine lv_iload_n hx hb dX6_flowOf_44 rfl (lv_at hl 4 rfl) ?_
    refine lv_imul hx hb dX6_flowOf_45 ?_
    refine h_topi (y := nI (5 * w)) (pk_mul _ _) ?_
    refine lv_iload_n hx hb dX6_flowOf_46 rfl (lv_at hl 2 rfl) ?_
    refine lv_iadd hx hb dX6_flowOf_47 ?_
    refine h_topi (y := nI ((5 * w) + (p / 5))) (nI_add _ _) ?_
    refine lv_iconst (v := nI 1) hx hb dX6_flowOf_48 (by decide) ?_
    refine lv_iadd hx hb dX6_flowOf_49 ?_
    refine h_topi (y := nI (((5 * w) + (p / 5)) + 1)) (nI_add _ _) ?_
    refine h_iald (f := hg_i S 4) hx hb hK hP 5 0 rfl rfl (((5 * w) + (p / 5)) + 1) (rfl) (by omega) (by decide) dX6_flowOf_50 ?_
    refine lv_imul hx hb dX6_flowOf_51 ?_
    refine lv_iadd hx hb dX6_flowOf_52 ?_
    refine h_topi (y := f_plain S w p) (by unfold f_plain; rw [if_neg c30, Nat.mul_comm w 5]) ?_
    refine lv_istore (lv' := [(5, .int (f_plain S w p)), (4, .int (nI (p % 5))), (3, .int (nI (p / 5))), (0, .ref (o 0)), (1, .int (nI w)), (2, .int (nI p))]) hx hb dX6_flowOf_53 hl (by decide) rfl (fun ls hl => ?_)
    refine lv_aload_n hx hb dX6_flowOf_55 rfl (lv_at hl 3 rfl) ?_
    refine va_get (C := RX6) (T := TX6) (N := 27) (v := .ref (o 1)) hx hb hts hi6 hown hK hP 0 rfl rfl 1 (by decide) (hts (.fieldLink RX6 7 "HotGroundModel" "kind" "[I") (by decide +kernel)) (fun _ h9 => h9) rfl dX6_flowOf_56 ?_
    refine lv_iload_n hx hb dX6_flowOf_59 rfl (lv_at hl 4 rfl) ?_
    refine h_iald (f := hg_i S 0) hx hb hK hP 1 0 rfl rfl w (rfl) (by omega) (by decide) dX6_flowOf_60 ?_
    refine lv_if_le (tgt := 96) hx hb dX6_flowOf_61 (by decide) (fun c_61 => ?_) (fun c_61 => ?_)
    · skip
      rw [show f_plain S w p = f_up S w p from by unfold f_up; rw [if_pos (by rw [hg_lt, i_1]; have := hg_le.mp c_61; rw [i_z] at this; omega)]] at hl
      have hl : lv_has ls 6 [(5, .int (f_up S w p)), (4, .int (nI (p % 5))), (3, .int (nI (p / 5))), (0, .ref (o 0)), (1, .int (nI w)), (2, .int (nI p))] := hl
      refine lv_aload_n hx hb dX6_flowOf_96 rfl (lv_at hl 3 rfl) ?_
      refine va_get (C := RX6) (T := TX6) (N := 27) (v := .ref (o 1)) hx hb hts hi6 hown hK hP 0 rfl rfl 1 (by decide) (hts (.fieldLink RX6 7 "HotGroundModel" "kind" "[I") (by decide +kernel)) (fun _ h9 => h9) rfl dX6_flowOf_97 ?_
      refine lv_iload_n hx hb dX6_flowOf_100 rfl (lv_at hl 4 rfl) ?_
      refine h_iald (f := hg_i S 0) hx hb hK hP 1 0 rfl rfl w (rfl) (by omega) (by decide) dX6_flowOf_101 ?_
      refine lv_iconst (v := nI 2) hx hb dX6_flowOf_102 (by decide) ?_
      refine lv_icmp_ne (tgt := 120) hx hb dX6_flowOf_103 (by decide) (fun c_103 => ?_) (fun c_103 => ?_)
      · skip
        refine lv_iload hx hb dX6_flowOf_120 (lv_at hl 0 rfl) ?_
        exact W.iret (v := f_up S w p) hx hb hr (fun t ht hW => ⟨_, rfl, by unfold f_flow; rw [if_pos (by rcases hkd w hw with h | h | h <;> first | exact absurd h c_103 | (rw [h]; decide))], ht⟩) (fun _ h9 => nomatch h9) dX6_flowOf_122
      · skip
        refine lv_iload hx hb dX6_flowOf_106 (lv_at hl 0 rfl) ?_
        refine lv_sipush (v := nI 1000) hx hb dX6_flowOf_108 (by decide) ?_
        refine lv_icmp_le (tgt := 120) hx hb dX6_flowOf_111 (by decide) (fun c_111 => ?_) (fun c_111 => ?_)
        · skip
          refine lv_iload hx hb dX6_flowOf_120 (lv_at hl 0 rfl) ?_
          exact W.iret (v := f_up S w p) hx hb hr (fun t ht hW => ⟨_, rfl, by unfold f_flow f_tested; rw [if_neg (fun h => by rw [c_103] at h; exact absurd h (by decide))]; rw [if_neg (hg_nlt.mpr c_111)], ht⟩) (fun _ h9 => nomatch h9) dX6_flowOf_122
        · skip
          refine lv_sipush (v := nI 1000) hx hb dX6_flowOf_114 (by decide) ?_
          refine lv_goto (tgt := 122) hx hb dX6_flowOf_117 (by decide) ?_
          exact W.iret (v := nI 1000) hx hb hr (fun t ht hW => ⟨_, rfl, by unfold f_flow f_tested; rw [if_neg (fun h => by rw [c_103] at h; exact absurd h (by decide))]; rw [if_pos (hg_nle.mp c_111)], ht⟩) (fun _ h9 => nomatch h9) dX6_flowOf_122
    · skip
      have k61 : ¬ hg_i S 0 w < nI 1 := by rw [hg_lt, i_1]; intro h; apply c_61; rw [hg_le, i_z]; omega
      refine lv_aload_n hx hb dX6_flowOf_64 rfl (lv_at hl 3 rfl) ?_
      refine va_get (C := RX6) (T := TX6) (N := 27) (v := .ref (o 3)) hx hb hts hi6 hown hK hP 0 rfl rfl 3 (by decide) (hts (.fieldLink RX6 16 "HotGroundModel" "age" "[I") (by decide +kernel)) (fun _ h9 => h9) rfl dX6_flowOf_65 ?_
      refine lv_iload_n hx hb dX6_flowOf_68 rfl (lv_at hl 4 rfl) ?_
      refine h_iald (f := hg_i S 2) hx hb hK hP 3 0 rfl rfl w (rfl) (by omega) (by decide) dX6_flowOf_69 ?_
      refine lv_bipush (v := nI 19) hx hb dX6_flowOf_70 (by decide) ?_
      refine lv_icmp_le (tgt := 79) hx hb dX6_flowOf_72 (by decide) (fun c_72 => ?_) (fun c_72 => ?_)
      · skip
        refine lv_iload hx hb dX6_flowOf_79 (lv_at hl 0 rfl) ?_
        refine lv_bipush (v := nI 20) hx hb dX6_flowOf_81 (by decide) ?_
        refine lv_aload_n hx hb dX6_flowOf_83 rfl (lv_at hl 3 rfl) ?_
        refine va_get (C := RX6) (T := TX6) (N := 27) (v := .ref (o 3)) hx hb hts hi6 hown hK hP 0 rfl rfl 3 (by decide) (hts (.fieldLink RX6 16 "HotGroundModel" "age" "[I") (by decide +kernel)) (fun _ h9 => h9) rfl dX6_flowOf_84 ?_
        refine lv_iload_n hx hb dX6_flowOf_87 rfl (lv_at hl 4 rfl) ?_
        refine h_iald (f := hg_i S 2) hx hb hK hP 3 0 rfl rfl w (rfl) (by omega) (by decide) dX6_flowOf_88 ?_
        refine lv_isub hx hb dX6_flowOf_89 ?_
        refine lv_imul hx hb dX6_flowOf_90 ?_
        refine lv_bipush (v := nI 20) hx hb dX6_flowOf_91 (by decide) ?_
        refine lv_idiv hx hb dX6_flowOf_93 (by decide) ?_
        refine h_topi (y := f_up S w p) (by unfold f_up f_scaled; rw [if_neg k61, if_pos (by rw [hg_lt, i_20]; have := hg_le.mp c_72; rw [i_19] at this; omega)]) ?_
        refine lv_istore (lv' := [(5, .int (f_up S w p)), (4, .int (nI (p % 5))), (3, .int (nI (p / 5))), (0, .ref (o 0)), (1, .int (nI w)), (2, .int (nI p))]) hx hb dX6_flowOf_94 hl (by decide) rfl (fun ls hl => ?_)
        refine lv_aload_n hx hb dX6_flowOf_96 rfl (lv_at hl 3 rfl) ?_
        refine va_get (C := RX6) (T := TX6) (N := 27) (v := .ref (o 1)) hx hb hts hi6 hown hK hP 0 rfl rfl 1 (by decide) (hts (.fieldLink RX6 7 "HotGroundModel" "kind" "[I") (by decide +kernel)) (fun _ h9 => h9) rfl dX6_flowOf_97 ?_
        refine lv_iload_n hx hb dX6_flowOf_100 rfl (lv_at hl 4 rfl) ?_
        refine h_iald (f := hg_i S 0) hx hb hK hP 1 0 rfl rfl w (rfl) (by omega) (by decide) dX6_flowOf_101 ?_
        refine lv_iconst (v := nI 2) hx hb dX6_flowOf_102 (by decide) ?_
        refine lv_icmp_ne (tgt := 120) hx hb dX6_flowOf_103 (by decide) (fun c_103 => ?_) (fun c_103 => ?_)
        · skip
          refine lv_iload hx hb dX6_flowOf_120 (lv_at hl 0 rfl) ?_
          exact W.iret (v := f_up S w p) hx hb hr (fun t ht hW => ⟨_, rfl, by unfold f_flow; rw [if_pos (by rcases hkd w hw with h | h | h <;> first | exact absurd h c_103 | (rw [h]; decide))], ht⟩) (fun _ h9 => nomatch h9) dX6_flowOf_122
        · skip
          refine lv_iload hx hb dX6_flowOf_106 (lv_at hl 0 rfl) ?_
          refine lv_sipush (v := nI 1000) hx hb dX6_flowOf_108 (by decide) ?_
          refine lv_icmp_le (tgt := 120) hx hb dX6_flowOf_111 (by decide) (fun c_111 => ?_) (fun c_111 => ?_)
          · skip
            refine lv_iload hx hb dX6_flowOf_120 (lv_at hl 0 rfl) ?_
            exact W.iret (v := f_up S w p) hx hb hr (fun t ht hW => ⟨_, rfl, by unfold f_flow f_tested; rw [if_neg (fun h => by rw [c_103] at h; exact absurd h (by decide))]; rw [if_neg (hg_nlt.mpr c_111)], ht⟩) (fun _ h9 => nomatch h9) dX6_flowOf_122
          · skip
            refine lv_sipush (v := nI 1000) hx hb dX6_flowOf_114 (by decide) ?_
            refine lv_goto (tgt := 122) hx hb dX6_flowOf_117 (by decide) ?_
            exact W.iret (v := nI 1000) hx hb hr (fun t ht hW => ⟨_, rfl, by unfold f_flow f_tested; rw [if_neg (fun h => by rw [c_103] at h; exact absurd h (by decide))]; rw [if_pos (hg_nle.mp c_111)], ht⟩) (fun _ h9 => nomatch h9) dX6_flowOf_122
      · skip
        refine lv_iconst (v := nI 0) hx hb dX6_flowOf_75 (by decide) ?_
        refine lv_goto (tgt := 94) hx hb dX6_flowOf_76 (by decide) ?_
        refine h_topi (y := f_up S w p) (by unfold f_up f_scaled; rw [if_neg k61, if_neg (by rw [hg_nlt, hg_le, i_20]; have := hg_lt.mp (hg_nle.mp c_72); rw [i_19] at this; omega)]) ?_
        refine lv_istore (lv' := [(5, .int (f_up S w p)), (4, .int (nI (p % 5))), (3, .int (nI (p / 5))), (0, .ref (o 0)), (1, .int (nI w)), (2, .int (nI p))]) hx hb dX6_flowOf_94 hl (by decide) rfl (fun ls hl => ?_)
        refine lv_aload_n hx hb dX6_flowOf_96 rfl (lv_at hl 3 rfl) ?_
        refine va_get (C := RX6) (T := TX6) (N := 27) (v := .ref (o 1)) hx hb hts hi6 hown hK hP 0 rfl rfl 1 (by decide) (hts (.fieldLink RX6 7 "HotGroundModel" "kind" "[I") (by decide +kernel)) (fun _ h9 => h9) rfl dX6_flowOf_97 ?_
        refine lv_iload_n hx hb dX6_flowOf_100 rfl (lv_at hl 4 rfl) ?_
        refine h_iald (f := hg_i S 0) hx hb hK hP 1 0 rfl rfl w (rfl) (by omega) (by decide) dX6_flowOf_101 ?_
        refine lv_iconst (v := nI 2) hx hb dX6_flowOf_102 (by decide) ?_
        refine lv_icmp_ne (tgt := 120) hx hb dX6_flowOf_103 (by decide) (fun c_103 => ?_) (fun c_103 => ?_)
        · skip
          refine lv_iload hx hb dX6_flowOf_120 (lv_at hl 0 rfl) ?_
          exact W.iret (v := f_up S w p) hx hb hr (fun t ht hW => ⟨_, rfl, by unfold f_flow; rw [if_pos (by rcases hkd w hw with h | h | h <;> first | exact absurd h c_103 | (rw [h]; decide))], ht⟩) (fun _ h9 => nomatch h9) dX6_flowOf_122
        · skip
          refine lv_iload hx hb dX6_flowOf_106 (lv_at hl 0 rfl) ?_
          refine lv_sipush (v := nI 1000) hx hb dX6_flowOf_108 (by decide) ?_
          refine lv_icmp_le (tgt := 120) hx hb dX6_flowOf_111 (by decide) (fun c_111 => ?_) (fun c_111 => ?_)
          · skip
            refine lv_iload hx hb dX6_flowOf_120 (lv_at hl 0 rfl) ?_
            exact W.iret (v := f_up S w p) hx hb hr (fun t ht hW => ⟨_, rfl, by unfold f_flow f_tested; rw [if_neg (fun h => by rw [c_103] at h; exact absurd h (by decide))]; rw [if_neg (hg_nlt.mpr c_111)], ht⟩) (fun _ h9 => nomatch h9) dX6_flowOf_122
          · skip
            refine lv_sipush (v := nI 1000) hx hb dX6_flowOf_114 (by decide) ?_
            refine lv_goto (tgt := 122) hx hb dX6_flowOf_117 (by decide) ?_
            exact W.iret (v := nI 1000) hx hb hr (fun t ht hW => ⟨_, rfl, by unfold f_flow f_tested; rw [if_neg (fun h => by rw [c_103] at h; exact absurd h (by decide))]; rw [if_pos (hg_nle.mp c_111)], ht⟩) (fun _ h9 => nomatch h9) dX6_flowOf_122
  · skip
    have c30 : p % 5 = 0 := (nI_eq0 (by omega)).mp c_30
    refine lv_iconst (v := nI 0) hx hb dX6_flowOf_33 (by decide) ?_
    refine lv_goto (tgt := 52) hx hb dX6_flowOf_34 (by decide) ?_
    refine lv_iadd hx hb dX6_flowOf_52 ?_
    refine h_topi (y := f_plain S w p) (by unfold f_plain; rw [if_pos c30, Nat.mul_comm w 5, nI_0, Int32.add_zero]) ?_
    refine lv_istore (lv' := [(5, .int (f_plain S w p)), (4, .int (nI (p % 5))), (3, .int (nI (p / 5))), (0, .ref (o 0)), (1, .int (nI w)), (2, .int (nI p))]) hx hb dX6_flowOf_53 hl (by decide) rfl (fun ls hl => ?_)
    refine lv_aload_n hx hb dX6_flowOf_55 rfl (lv_at hl 3 rfl) ?_
    refine va_get (C := RX6) (T := TX6) (N := 27) (v := .ref (o 1)) hx hb hts hi6 hown hK hP 0 rfl rfl 1 (by decide) (hts (.fieldLink RX6 7 "HotGroundModel" "kind" "[I") (by decide +kernel)) (fun _ h9 => h9) rfl dX6_flowOf_56 ?_
    refine lv_iload_n hx hb dX6_flowOf_59 rfl (lv_at hl 4 rfl) ?_
    refine h_iald (f := hg_i S 0) hx hb hK hP 1 0 rfl rfl w (rfl) (by omega) (by decide) dX6_flowOf_60 ?_
    refine lv_if_le (tgt := 96) hx hb dX6_flowOf_61 (by decide) (fun c_61 => ?_) (fun c_61 => ?_)
    · skip
      rw [show f_plain S w p = f_up S w p from by unfold f_up; rw [if_pos (by rw [hg_lt, i_1]; have := hg_le.mp c_61; rw [i_z] at this; omega)]] at hl
      have hl : lv_has ls 6 [(5, .int (f_up S w p)), (4, .int (nI (p % 5))), (3, .int (nI (p / 5))), (0, .ref (o 0)), (1, .int (nI w)), (2, .int (nI p))] := hl
      refine lv_aload_n hx hb dX6_flowOf_96 rfl (lv_at hl 3 rfl) ?_
      refine va_get (C := RX6) (T := TX6) (N := 27) (v := .ref (o 1)) hx hb hts hi6 hown hK hP 0 rfl rfl 1 (by decide) (hts (.fieldLink RX6 7 "HotGroundModel" "kind" "[I") (by decide +kernel)) (fun _ h9 => h9) rfl dX6_flowOf_97 ?_
      refine lv_iload_n hx hb dX6_flowOf_100 rfl (lv_at hl 4 rfl) ?_
      refine h_iald (f := hg_i S 0) hx hb hK hP 1 0 rfl rfl w (rfl) (by omega) (by decide) dX6_flowOf_101 ?_
      refine lv_iconst (v := nI 2) hx hb dX6_flowOf_102 (by decide) ?_
      refine lv_icmp_ne (tgt := 120) hx hb dX6_flowOf_103 (by decide) (fun c_103 => ?_) (fun c_103 => ?_)
      · skip
        refine lv_iload hx hb dX6_flowOf_120 (lv_at hl 0 rfl) ?_
        exact W.iret (v := f_up S w p) hx hb hr (fun t ht hW => ⟨_, rfl, by unfold f_flow; rw [if_pos (by rcases hkd w hw with h | h | h <;> first | exact absurd h c_103 | (rw [h]; decide))], ht⟩) (fun _ h9 => nomatch h9) dX6_flowOf_122
      · skip
        refine lv_iload hx hb dX6_flowOf_106 (lv_at hl 0 rfl) ?_
        refine lv_sipush (v := nI 1000) hx hb dX6_flowOf_108 (by decide) ?_
        refine lv_icmp_le (tgt := 120) hx hb dX6_flowOf_111 (by decide) (fun c_111 => ?_) (fun c_111 => ?_)
        · skip
          refine lv_iload hx hb dX6_flowOf_120 (lv_at hl 0 rfl) ?_
          exact W.iret (v := f_up S w p) hx hb hr (fun t ht hW => ⟨_, rfl, by unfold f_flow f_tested; rw [if_neg (fun h => by rw [c_103] at h; exact absurd h (by decide))]; rw [if_neg (hg_nlt.mpr c_111)], ht⟩) (fun _ h9 => nomatch h9) dX6_flowOf_122
        · skip
          refine lv_sipush (v := nI 1000) hx hb dX6_flowOf_114 (by decide) ?_
          refine lv_goto (tgt := 122) hx hb dX6_flowOf_117 (by decide) ?_
          exact W.iret (v := nI 1000) hx hb hr (fun t ht hW => ⟨_, rfl, by unfold f_flow f_tested; rw [if_neg (fun h => by rw [c_103] at h; exact absurd h (by decide))]; rw [if_pos (hg_nle.mp c_111)], ht⟩) (fun _ h9 => nomatch h9) dX6_flowOf_122
    · skip
      have k61 : ¬ hg_i S 0 w < nI 1 := by rw [hg_lt, i_1]; intro h; apply c_61; rw [hg_le, i_z]; omega
      refine lv_aload_n hx hb dX6_flowOf_64 rfl (lv_at hl 3 rfl) ?_
      refine va_get (C := RX6) (T := TX6) (N := 27) (v := .ref (o 3)) hx hb hts hi6 hown hK hP 0 rfl rfl 3 (by decide) (hts (.fieldLink RX6 16 "HotGroundModel" "age" "[I") (by decide +kernel)) (fun _ h9 => h9) rfl dX6_flowOf_65 ?_
      refine lv_iload_n hx hb dX6_flowOf_68 rfl (lv_at hl 4 rfl) ?_
      refine h_iald (f := hg_i S 2) hx hb hK hP 3 0 rfl rfl w (rfl) (by omega) (by decide) dX6_flowOf_69 ?_
      refine lv_bipush (v := nI 19) hx hb dX6_flowOf_70 (by decide) ?_
      refine lv_icmp_le (tgt := 79) hx hb dX6_flowOf_72 (by decide) (fun c_72 => ?_) (fun c_72 => ?_)
      · skip
        refine lv_iload hx hb dX6_flowOf_79 (lv_at hl 0 rfl) ?_
        refine lv_bipush (v := nI 20) hx hb dX6_flowOf_81 (by decide) ?_
        refine lv_aload_n hx hb dX6_flowOf_83 rfl (lv_at hl 3 rfl) ?_
        refine va_get (C := RX6) (T := TX6) (N := 27) (v := .ref (o 3)) hx hb hts hi6 hown hK hP 0 rfl rfl 3 (by decide) (hts (.fieldLink RX6 16 "HotGroundModel" "age" "[I") (by decide +kernel)) (fun _ h9 => h9) rfl dX6_flowOf_84 ?_
        refine lv_iload_n hx hb dX6_flowOf_87 rfl (lv_at hl 4 rfl) ?_
        refine h_iald (f := hg_i S 2) hx hb hK hP 3 0 rfl rfl w (rfl) (by omega) (by decide) dX6_flowOf_88 ?_
        refine lv_isub hx hb dX6_flowOf_89 ?_
        refine lv_imul hx hb dX6_flowOf_90 ?_
        refine lv_bipush (v := nI 20) hx hb dX6_flowOf_91 (by decide) ?_
        refine lv_idiv hx hb dX6_flowOf_93 (by decide) ?_
        refine h_topi (y := f_up S w p) (by unfold f_up f_scaled; rw [if_neg k61, if_pos (by rw [hg_lt, i_20]; have := hg_le.mp c_72; rw [i_19] at this; omega)]) ?_
        refine lv_istore (lv' := [(5, .int (f_up S w p)), (4, .int (nI (p % 5))), (3, .int (nI (p / 5))), (0, .ref (o 0)), (1, .int (nI w)), (2, .int (nI p))]) hx hb dX6_flowOf_94 hl (by decide) rfl (fun ls hl => ?_)
        refine lv_aload_n hx hb dX6_flowOf_96 rfl (lv_at hl 3 rfl) ?_
        refine va_get (C := RX6) (T := TX6) (N := 27) (v := .ref (o 1)) hx hb hts hi6 hown hK hP 0 rfl rfl 1 (by decide) (hts (.fieldLink RX6 7 "HotGroundModel" "kind" "[I") (by decide +kernel)) (fun _ h9 => h9) rfl dX6_flowOf_97 ?_
        refine lv_iload_n hx hb dX6_flowOf_100 rfl (lv_at hl 4 rfl) ?_
        refine h_iald (f := hg_i S 0) hx hb hK hP 1 0 rfl rfl w (rfl) (by omega) (by decide) dX6_flowOf_101 ?_
        refine lv_iconst (v := nI 2) hx hb dX6_flowOf_102 (by decide) ?_
        refine lv_icmp_ne (tgt := 120) hx hb dX6_flowOf_103 (by decide) (fun c_103 => ?_) (fun c_103 => ?_)
        · skip
          refine lv_iload hx hb dX6_flowOf_120 (lv_at hl 0 rfl) ?_
          exact W.iret (v := f_up S w p) hx hb hr (fun t ht hW => ⟨_, rfl, by unfold f_flow; rw [if_pos (by rcases hkd w hw with h | h | h <;> first | exact absurd h c_103 | (rw [h]; decide))], ht⟩) (fun _ h9 => nomatch h9) dX6_flowOf_122
        · skip
          refine lv_iload hx hb dX6_flowOf_106 (lv_at hl 0 rfl) ?_
          refine lv_sipush (v := nI 1000) hx hb dX6_flowOf_108 (by decide) ?_
          refine lv_icmp_le (tgt := 120) hx hb dX6_flowOf_111 (by decide) (fun c_111 => ?_) (fun c_111 => ?_)
          · skip
            refine lv_iload hx hb dX6_flowOf_120 (lv_at hl 0 rfl) ?_
            exact W.iret (v := f_up S w p) hx hb hr (fun t ht hW => ⟨_, rfl, by unfold f_flow f_tested; rw [if_neg (fun h => by rw [c_103] at h; exact absurd h (by decide))]; rw [if_neg (hg_nlt.mpr c_111)], ht⟩) (fun _ h9 => nomatch h9) dX6_flowOf_122
          · skip
            refine lv_sipush (v := nI 1000) hx hb dX6_flowOf_114 (by decide) ?_
            refine lv_goto (tgt := 122) hx hb dX6_flowOf_117 (by decide) ?_
            exact W.iret (v := nI 1000) hx hb hr (fun t ht hW => ⟨_, rfl, by unfold f_flow f_tested; rw [if_neg (fun h => by rw [c_103] at h; exact absurd h (by decide))]; rw [if_pos (hg_nle.mp c_111)], ht⟩) (fun _ h9 => nomatch h9) dX6_flowOf_122
      · skip
        refine lv_iconst (v := nI 0) hx hb dX6_flowOf_75 (by decide) ?_
        refine lv_goto (tgt := 94) hx hb dX6_flowOf_76 (by decide) ?_
        refine h_topi (y := f_up S w p) (by unfold f_up f_scaled; rw [if_neg k61, if_neg (by rw [hg_nlt, hg_le, i_20]; have := hg_lt.mp (hg_nle.mp c_72); rw [i_19] at this; omega)]) ?_
        refine lv_istore (lv' := [(5, .int (f_up S w p)), (4, .int (nI (p % 5))), (3, .int (nI (p / 5))), (0, .ref (o 0)), (1, .int (nI w)), (2, .int (nI p))]) hx hb dX6_flowOf_94 hl (by decide) rfl (fun ls hl => ?_)
        refine lv_aload_n hx hb dX6_flowOf_96 rfl (lv_at hl 3 rfl) ?_
        refine va_get (C := RX6) (T := TX6) (N := 27) (v := .ref (o 1)) hx hb hts hi6 hown hK hP 0 rfl rfl 1 (by decide) (hts (.fieldLink RX6 7 "HotGroundModel" "kind" "[I") (by decide +kernel)) (fun _ h9 => h9) rfl dX6_flowOf_97 ?_
        refine lv_iload_n hx hb dX6_flowOf_100 rfl (lv_at hl 4 rfl) ?_
        refine h_iald (f := hg_i S 0) hx hb hK hP 1 0 rfl rfl w (rfl) (by omega) (by decide) dX6_flowOf_101 ?_
        refine lv_iconst (v := nI 2) hx hb dX6_flowOf_102 (by decide) ?_
        refine lv_icmp_ne (tgt := 120) hx hb dX6_flowOf_103 (by decide) (fun c_103 => ?_) (fun c_103 => ?_)
        · skip
          refine lv_iload hx hb dX6_flowOf_120 (lv_at hl 0 rfl) ?_
          exact W.iret (v := f_up S w p) hx hb hr (fun t ht hW => ⟨_, rfl, by unfold f_flow; rw [if_pos (by rcases hkd w hw with h | h | h <;> first | exact absurd h c_103 | (rw [h]; decide))], ht⟩) (fun _ h9 => nomatch h9) dX6_flowOf_122
        · skip
          refine lv_iload hx hb dX6_flowOf_106 (lv_at hl 0 rfl) ?_
          refine lv_sipush (v := nI 1000) hx hb dX6_flowOf_108 (by decide) ?_
          refine lv_icmp_le (tgt := 120) hx hb dX6_flowOf_111 (by decide) (fun c_111 => ?_) (fun c_111 => ?_)
          · skip
            refine lv_iload hx hb dX6_flowOf_120 (lv_at hl 0 rfl) ?_
            exact W.iret (v := f_up S w p) hx hb hr (fun t ht hW => ⟨_, rfl, by unfold f_flow f_tested; rw [if_neg (fun h => by rw [c_103] at h; exact absurd h (by decide))]; rw [if_neg (hg_nlt.mpr c_111)], ht⟩) (fun _ h9 => nomatch h9) dX6_flowOf_122
          · skip
            refine lv_sipush (v := nI 1000) hx hb dX6_flowOf_114 (by decide) ?_
            refine lv_goto (tgt := 122) hx hb dX6_flowOf_117 (by decide) ?_
            exact W.iret (v := nI 1000) hx hb hr (fun t ht hW => ⟨_, rfl, by unfold f_flow f_tested; rw [if_neg (fun h => by rw [c_103] at h; exact absurd h (by decide))]; rw [if_pos (hg_nle.mp c_111)], ht⟩) (fun _ h9 => nomatch h9) dX6_flowOf_122
set_option maxHeartbeats 4000000 in
set_option maxRecDepth 100000 in
/-- SUPPLY -/
theorem m_X6_supply (l : Launch) (D : va_G) (o : Nat → Nat) (cI cJ cZ : ClassId) (S : hg_S) (h0 : hg_n S 0 ≤ 8) (hkd : ok_kd S) (p : Nat) (hp : p ≤ 20) : Met l yX6_supply wsX6_supply ({ frames := 1, cells := 0, slots := 0, locals := 25 }) (va_Pc [.ref (o 0), .int (nI p)] (hg_R D (mW o cI cJ cZ S) (hg_ty cI cJ cZ))) (vp_Si (fun r => r = f_supply S p)) 0 0 (fun _ => False) := by
  refine h_start (cc := cX6_supply) (maxL := 4) (ret := (some .int)) (by decide) rfl (Nat.le_of_ble_eq_true rfl) ?_
  intro pg ev s mi args below meth cd ls hx hb hr hts hown hlocks hml hnm hpic hl
  obtain ⟨hP, hK⟩ := hpic
  have hi6 : ∀ w ∈ u_ws RX6 TX6 27, w ∈ wsX6_supply := by decide +kernel
  have hl : lv_has ls 4 [(0, .ref (o 0)), (1, .int (nI p))] := hl
  refine lv_iconst (v := nI 0) hx hb dX6_supply_0 (by decide) ?_
  refine h_topi (y := hg_sum (f_sup1 S p) 0) (hg_sum_0) ?_
  refine lv_istore_n (lv' := [(2, .int (hg_sum (f_sup1 S p) 0)), (0, .ref (o 0)), (1, .int (nI p))]) hx hb dX6_supply_1 rfl hl (by decide) rfl (fun ls hl => ?_)
  refine lv_iconst (v := nI 0) hx hb dX6_supply_2 (by decide) ?_
  refine lv_istore_n (lv' := [(3, .int (nI 0)), (2, .int (hg_sum (f_sup1 S p) 0)), (0, .ref (o 0)), (1, .int (nI p))]) hx hb dX6_supply_3 rfl hl (by decide) rfl (fun ls hl => ?_)
  refine h_for (nL := 4) (hg_n S 0) (fun i => [(3, .int (nI i)), (2, .int (hg_sum (f_sup1 S p) i)), (0, .ref (o 0)), (1, .int (nI p))]) ?_ ?_ (lv_sub hl [0, 1, 2, 3] rfl)
  · intro i ls hi hl ih
    have hl : lv_has ls 4 [(3, .int (nI i)), (2, .int (hg_sum (f_sup1 S p) i)), (0, .ref (o 0)), (1, .int (nI p))] := hl
    refine lv_iload_n hx hb dX6_supply_4 rfl (lv_at hl 0 rfl) ?_
    refine lv_aload_n hx hb dX6_supply_5 rfl (lv_at hl 2 rfl) ?_
    refine va_get (C := RX6) (T := TX6) (N := 27) (v := .int (nI (hg_n S 0))) hx hb hts hi6 hown hK hP 0 rfl rfl 0 (by decide) (hts (.fieldLink RX6 72 "HotGroundModel" "wells" "I") (by decide +kernel)) (fun _ h9 => h9) rfl dX6_supply_6 ?_
    refine lv_icmp_ge (tgt := 44) hx hb dX6_supply_9 (by decide) (fun c_9 => absurd c_9 (nI_ge hi (by omega))) (fun c_9 => ?_)
    refine lv_iload_n hx hb dX6_supply_12 rfl (lv_at hl 1 rfl) ?_
    refine lv_aload_n hx hb dX6_supply_13 rfl (lv_at hl 2 rfl) ?_
    refine va_get (C := RX6) (T := TX6) (N := 27) (v := .ref (o 4)) hx hb hts hi6 hown hK hP 0 rfl rfl 4 (by decide) (hts (.fieldLink RX6 19 "HotGroundModel" "isOpen" "[Z") (by decide +kernel)) (fun _ h9 => h9) rfl dX6_supply_14 ?_
    refine lv_iload_n hx hb dX6_supply_17 rfl (lv_at hl 0 rfl) ?_
    refine h_zald (f := hg_i S 3) hx hb hK hP 4 2 rfl rfl i (rfl) (by omega) (by decide) dX6_supply_18 ?_
    refine lv_if_eq (tgt := 35) hx hb dX6_supply_19 (by decide) (fun c_19 => ?_) (fun c_19 => ?_)
    · skip
      refine lv_iconst (v := nI 0) hx hb dX6_supply_35 (by decide) ?_
      refine lv_iadd hx hb dX6_supply_36 ?_
      refine h_topi (y := hg_sum (f_sup1 S p) (i + 1)) (by show _ + nI 0 = _ + f_sup1 S p i; unfold f_sup1; rw [if_pos c_19, nI_0]) ?_
      refine lv_istore_n (lv' := [(2, .int (hg_sum (f_sup1 S p) (i + 1))), (3, .int (nI i)), (0, .ref (o 0)), (1, .int (nI p))]) hx hb dX6_supply_37 rfl hl (by decide) rfl (fun ls hl => ?_)
      refine lv_iinc (v := nI (i + 1)) (lv' := [(3, .int (nI (i + 1))), (2, .int (hg_sum (f_sup1 S p) (i + 1))), (0, .ref (o 0)), (1, .int (nI p))]) hx hb dX6_supply_38 hl (k := 1) rfl (nI_1 _) (by decide) rfl (fun ls hl => ?_)
      refine lv_goto (tgt := 4) hx hb dX6_supply_41 (by decide) ?_
      exact ih ls (lv_sub hl [0, 1, 2, 3] rfl)
    · skip
      refine lv_aload_n hx hb dX6_supply_22 rfl (lv_at hl 2 rfl) ?_
      refine lv_iload_n hx hb dX6_supply_23 rfl (lv_at hl 0 rfl) ?_
      refine lv_iload_n hx hb dX6_supply_24 rfl (lv_at hl 3 rfl) ?_
      refine vp_callSi (va_Run.run (va_runV (As := [.int (nI i), .int (nI p)]) (rest := [.int (hg_sum (f_sup1 S p) i)]) ⟨hx, hb, hml, hown, hts⟩ (m_X6_flowOf l D o cI cJ cZ S hkd i p (by omega) (by omega)) (cwV 2 hts gX6_supply_X6_flowOf rfl rfl rfl (by decide +kernel) ⟨Nat.le_of_ble_eq_true rfl, Nat.le_of_ble_eq_true rfl⟩) (h_preR hK hP 0 rfl rfl rfl) rfl rfl hl.1 rfl (lv_room (Nat.le_of_ble_eq_true rfl)) dX6_supply_25 ⟨Nat.le_of_ble_eq_true rfl, Nat.le_of_ble_eq_true rfl⟩)) (fun r_1 hr_1 => ?_)
      subst hr_1
      refine lv_iload_n hx hb dX6_supply_28 rfl (lv_at hl 3 rfl) ?_
      refine vp_callSi (va_Run.run (va_runS (As := [.int (f_flow S i p), .int (nI p)]) (rest := [.int (hg_sum (f_sup1 S p) i)]) ⟨hx, hb, hml, hown, hts⟩ (m_X6_steamOf l (f_flow S i p) p (by omega)) (va_cwS 2 hts gX6_supply_X6_steamOf rfl rfl rfl (by decide +kernel) ⟨Nat.le_of_ble_eq_true rfl, Nat.le_of_ble_eq_true rfl⟩) (h_preS0) rfl rfl hl.1 rfl (lv_room (Nat.le_of_ble_eq_true rfl)) dX6_supply_29 ⟨Nat.le_of_ble_eq_true rfl, Nat.le_of_ble_eq_true rfl⟩)) (fun r_2 hr_2 => ?_)
      subst hr_2
      refine lv_goto (tgt := 36) hx hb dX6_supply_32 (by decide) ?_
      refine lv_iadd hx hb dX6_supply_36 ?_
      refine h_topi (y := hg_sum (f_sup1 S p) (i + 1)) (by show _ + _ = _ + f_sup1 S p i; unfold f_sup1; rw [if_neg c_19]) ?_
      refine lv_istore_n (lv' := [(2, .int (hg_sum (f_sup1 S p) (i + 1))), (3, .int (nI i)), (0, .ref (o 0)), (1, .int (nI p))]) hx hb dX6_supply_37 rfl hl (by decide) rfl (fun ls hl => ?_)
      refine lv_iinc (v := nI (i + 1)) (lv' := [(3, .int (nI (i + 1))), (2, .int (hg_sum (f_sup1 S p) (i + 1))), (0, .ref (o 0)), (1, .int (nI p))]) hx hb dX6_supply_38 hl (k := 1) rfl (nI_1 _) (by decide) rfl (fun ls hl => ?_)
      refine lv_goto (tgt := 4) hx hb dX6_supply_41 (by decide) ?_
      exact ih ls (lv_sub hl [0, 1, 2, 3] rfl)
  · intro ls hl
    have hl : lv_has ls 4 [(3, .int (nI (hg_n S 0))), (2, .int (hg_sum (f_sup1 S p) (hg_n S 0))), (0, .ref (o 0)), (1, .int (nI p))] := hl
    refine lv_iload_n hx hb dX6_supply_4 rfl (lv_at hl 0 rfl) ?_
    refine lv_aload_n hx hb dX6_supply_5 rfl (lv_at hl 2 rfl) ?_
    refine va_get (C := RX6) (T := TX6) (N := 27) (v := .int (nI (hg_n S 0))) hx hb hts hi6 hown hK hP 0 rfl rfl 0 (by decide) (hts (.fieldLink RX6 72 "HotGroundModel" "wells" "I") (by decide +kernel)) (fun _ h9 => h9) rfl dX6_supply_6 ?_
    refine lv_icmp_ge (tgt := 44) hx hb dX6_supply_9 (by decide) (fun c_9 => ?_) (fun c_9 => absurd (nI_le (Nat.le_refl _) (by omega)) c_9)
    refine lv_iload_n hx hb dX6_supply_44 rfl (lv_at hl 1 rfl) ?_
    exact W.iret (v := hg_sum (f_sup1 S p) (hg_n S 0)) hx hb hr (fun t ht hW => ⟨_, rfl, rfl, ht⟩) (fun _ h9 => nomatch h9) dX6_supply_45
set_option maxHeartbeats 4000000 in
set_option maxRecDepth 100000 in
/-- DRAW -/
theorem m_X6_draw (l : Launch) (D : va_G) (o : Nat → Nat) (cI cJ cZ : ClassId) (S : hg_S) (h1 : hg_n S 1 ≤ 4) (p : Nat) (hp : p ≤ 20) : Met l yX6_draw wsX6_draw ({ frames := 0, cells := 0, slots := 0, locals := 0 }) (va_Pc [.ref (o 0), .int (nI p)] (hg_R D (mW o cI cJ cZ S) (hg_ty cI cJ cZ))) (vp_Si (fun r => r = f_draw S p)) 0 0 (fun _ => False) := by
  refine h_start (cc := cX6_draw) (maxL := 5) (ret := (some .int)) (by decide) rfl (Nat.le_of_ble_eq_true rfl) ?_
  intro pg ev s mi args below meth cd ls hx hb hr hts hown hlocks hml hnm hpic hl
  obtain ⟨hP, hK⟩ := hpic
  have hi6 : ∀ w ∈ u_ws RX6 TX6 27, w ∈ wsX6_draw := by decide +kernel
  have hl : lv_has ls 5 [(0, .ref (o 0)), (1, .int (nI p))] := hl
  refine lv_iconst (v := nI 0) hx hb dX6_draw_0 (by decide) ?_
  refine h_topi (y := hg_sum (f_draw1 S p) 0) (hg_sum_0) ?_
  refine lv_istore_n (lv' := [(2, .int (hg_sum (f_draw1 S p) 0)), (0, .ref (o 0)), (1, .int (nI p))]) hx hb dX6_draw_1 rfl hl (by decide) rfl (fun ls hl => ?_)
  refine lv_iconst (v := nI 0) hx hb dX6_draw_2 (by decide) ?_
  refine lv_istore_n (lv' := [(3, .int (nI 0)), (2, .int (hg_sum (f_draw1 S p) 0)), (0, .ref (o 0)), (1, .int (nI p))]) hx hb dX6_draw_3 rfl hl (by decide) rfl (fun ls hl => ?_)
  refine h_for (nL := 5) (hg_n S 1) (fun i => [(3, .int (nI i)), (2, .int (hg_sum (f_draw1 S p) i)), (0, .ref (o 0)), (1, .int (nI p))]) ?_ ?_ (lv_sub hl [0, 1, 2, 3] rfl)
  · intro i ls hi hl ih
    have hl : lv_has ls 5 [(3, .int (nI i)), (2, .int (hg_sum (f_draw1 S p) i)), (0, .ref (o 0)), (1, .int (nI p))] := hl
    refine lv_iload_n hx hb dX6_draw_4 rfl (lv_at hl 0 rfl) ?_
    refine lv_aload_n hx hb dX6_draw_5 rfl (lv_at hl 2 rfl) ?_
    refine va_get (C := RX6) (T := TX6) (N := 27) (v := .int (nI (hg_n S 1))) hx hb hts hi6 hown hK hP 0 rfl rfl 7 (by decide) (hts (.fieldLink RX6 96 "HotGroundModel" "turbines" "I") (by decide +kernel)) (fun _ h9 => h9) rfl dX6_draw_6 ?_
    refine lv_icmp_ge (tgt := 74) hx hb dX6_draw_9 (by decide) (fun c_9 => absurd c_9 (nI_ge hi (by omega))) (fun c_9 => ?_)
    refine lv_aload_n hx hb dX6_draw_12 rfl (lv_at hl 2 rfl) ?_
    refine va_get (C := RX6) (T := TX6) (N := 27) (v := .ref (o 9)) hx hb hts hi6 hown hK hP 0 rfl rfl 11 (by decide) (hts (.fieldLink RX6 35 "HotGroundModel" "isOn" "[Z") (by decide +kernel)) (fun _ h9 => h9) rfl dX6_draw_13 ?_
    refine lv_iload_n hx hb dX6_draw_16 rfl (lv_at hl 0 rfl) ?_
    refine h_zald (f := hg_i S 8) hx hb hK hP 9 2 rfl rfl i (rfl) (by omega) (by decide) dX6_draw_17 ?_
    refine lv_if_eq (tgt := 68) hx hb dX6_draw_18 (by decide) (fun c_18 => ?_) (fun c_18 => ?_)
    · skip
      rw [show hg_sum (f_draw1 S p) i = hg_sum (f_draw1 S p) (i + 1) from hg_sum_keep (g := f_draw1 S p) (n := i) (by unfold f_draw1; rw [if_pos c_18])] at hl
      have hl : lv_has ls 5 [(3, .int (nI i)), (2, .int (hg_sum (f_draw1 S p) (i + 1))), (0, .ref (o 0)), (1, .int (nI p))] := hl
      refine lv_iinc (v := nI (i + 1)) (lv' := [(3, .int (nI (i + 1))), (2, .int (hg_sum (f_draw1 S p) (i + 1))), (0, .ref (o 0)), (1, .int (nI p))]) hx hb dX6_draw_68 hl (k := 0) rfl (nI_1 _) (by decide) rfl (fun ls hl => ?_)
      refine lv_goto (tgt := 4) hx hb dX6_draw_71 (by decide) ?_
      exact ih ls (lv_sub hl [0, 1, 2, 3] rfl)
    · skip
      refine lv_iload_n hx hb dX6_draw_21 rfl (lv_at hl 3 rfl) ?_
      refine lv_aload_n hx hb dX6_draw_22 rfl (lv_at hl 2 rfl) ?_
      refine va_get (C := RX6) (T := TX6) (N := 27) (v := .ref (o 6)) hx hb hts hi6 hown hK hP 0 rfl rfl 8 (by decide) (hts (.fieldLink RX6 26 "HotGroundModel" "least" "[I") (by decide +kernel)) (fun _ h9 => h9) rfl dX6_draw_23 ?_
      refine lv_iload_n hx hb dX6_draw_26 rfl (lv_at hl 0 rfl) ?_
      refine h_iald (f := hg_i S 5) hx hb hK hP 6 0 rfl rfl i (rfl) (by omega) (by decide) dX6_draw_27 ?_
      refine lv_icmp_lt (tgt := 68) hx hb dX6_draw_28 (by decide) (fun c_28 => ?_) (fun c_28 => ?_)
      · skip
        rw [show hg_sum (f_draw1 S p) i = hg_sum (f_draw1 S p) (i + 1) from hg_sum_keep (g := f_draw1 S p) (n := i) (by unfold f_draw1; rw [if_neg c_18, if_pos c_28])] at hl
        have hl : lv_has ls 5 [(3, .int (nI i)), (2, .int (hg_sum (f_draw1 S p) (i + 1))), (0, .ref (o 0)), (1, .int (nI p))] := hl
        refine lv_iinc (v := nI (i + 1)) (lv' := [(3, .int (nI (i + 1))), (2, .int (hg_sum (f_draw1 S p) (i + 1))), (0, .ref (o 0)), (1, .int (nI p))]) hx hb dX6_draw_68 hl (k := 0) rfl (nI_1 _) (by decide) rfl (fun ls hl => ?_)
        refine lv_goto (tgt := 4) hx hb dX6_draw_71 (by decide) ?_
        exact ih ls (lv_sub hl [0, 1, 2, 3] rfl)
      · skip
        refine lv_aload_n hx hb dX6_draw_31 rfl (lv_at hl 2 rfl) ?_
        refine va_get (C := RX6) (T := TX6) (N := 27) (v := .ref (o 7)) hx hb hts hi6 hown hK hP 0 rfl rfl 9 (by decide) (hts (.fieldLink RX6 29 "HotGroundModel" "rate" "[I") (by decide +kernel)) (fun _ h9 => h9) rfl dX6_draw_32 ?_
        refine lv_iload_n hx hb dX6_draw_35 rfl (lv_at hl 0 rfl) ?_
        refine h_iald (f := hg_i S 6) hx hb hK hP 7 0 rfl rfl i (rfl) (by omega) (by decide) dX6_draw_36 ?_
        refine lv_iload_n hx hb dX6_draw_37 rfl (lv_at hl 3 rfl) ?_
        refine lv_iconst (v := nI 1) hx hb dX6_draw_38 (by decide) ?_
        refine lv_iadd hx hb dX6_draw_39 ?_
        refine h_topi (y := nI (p + 1)) (nI_add _ _) ?_
        refine lv_imul hx hb dX6_draw_40 ?_
        refine lv_istore (lv' := [(4, .int ((hg_i S 6 i) * (nI (p + 1)))), (3, .int (nI i)), (2, .int (hg_sum (f_draw1 S p) i)), (0, .ref (o 0)), (1, .int (nI p))]) hx hb dX6_draw_41 hl (by decide) rfl (fun ls hl => ?_)
        refine lv_iload_n hx hb dX6_draw_43 rfl (lv_at hl 2 rfl) ?_
        refine lv_iload hx hb dX6_draw_44 (lv_at hl 0 rfl) ?_
        refine lv_aload_n hx hb dX6_draw_46 rfl (lv_at hl 3 rfl) ?_
        refine va_get (C := RX6) (T := TX6) (N := 27) (v := .ref (o 8)) hx hb hts hi6 hown hK hP 0 rfl rfl 10 (by decide) (hts (.fieldLink RX6 32 "HotGroundModel" "most" "[I") (by decide +kernel)) (fun _ h9 => h9) rfl dX6_draw_47 ?_
        refine lv_iload_n hx hb dX6_draw_50 rfl (lv_at hl 1 rfl) ?_
        refine h_iald (f := hg_i S 7) hx hb hK hP 8 0 rfl rfl i (rfl) (by omega) (by decide) dX6_draw_51 ?_
        refine lv_icmp_le (tgt := 64) hx hb dX6_draw_52 (by decide) (fun c_52 => ?_) (fun c_52 => ?_)
        · skip
          refine lv_iload hx hb dX6_draw_64 (lv_at hl 0 rfl) ?_
          refine lv_iadd hx hb dX6_draw_66 ?_
          refine h_topi (y := hg_sum (f_draw1 S p) (i + 1)) (by show _ + _ = _ + f_draw1 S p i; unfold f_draw1 f_dr; rw [if_neg c_18, if_neg c_28, if_neg (hg_nlt.mpr c_52)]) ?_
          refine lv_istore_n (lv' := [(2, .int (hg_sum (f_draw1 S p) (i + 1))), (4, .int ((hg_i S 6 i) * (nI (p + 1)))), (3, .int (nI i)), (0, .ref (o 0)), (1, .int (nI p))]) hx hb dX6_draw_67 rfl hl (by decide) rfl (fun ls hl => ?_)
          refine lv_iinc (v := nI (i + 1)) (lv' := [(3, .int (nI (i + 1))), (2, .int (hg_sum (f_draw1 S p) (i + 1))), (4, .int ((hg_i S 6 i) * (nI (p + 1)))), (0, .ref (o 0)), (1, .int (nI p))]) hx hb dX6_draw_68 hl (k := 2) rfl (nI_1 _) (by decide) rfl (fun ls hl => ?_)
          refine lv_goto (tgt := 4) hx hb dX6_draw_71 (by decide) ?_
          exact ih ls (lv_sub hl [0, 1, 3, 4] rfl)
        · skip
          refine lv_aload_n hx hb dX6_draw_55 rfl (lv_at hl 3 rfl) ?_
          refine va_get (C := RX6) (T := TX6) (N := 27) (v := .ref (o 8)) hx hb hts hi6 hown hK hP 0 rfl rfl 10 (by decide) (hts (.fieldLink RX6 32 "HotGroundModel" "most" "[I") (by decide +kernel)) (fun _ h9 => h9) rfl dX6_draw_56 ?_
          refine lv_iload_n hx hb dX6_draw_59 rfl (lv_at hl 1 rfl) ?_
          refine h_iald (f := hg_i S 7) hx hb hK hP 8 0 rfl rfl i (rfl) (by omega) (by decide) dX6_draw_60 ?_
          refine lv_goto (tgt := 66) hx hb dX6_draw_61 (by decide) ?_
          refine lv_iadd hx hb dX6_draw_66 ?_
          refine h_topi (y := hg_sum (f_draw1 S p) (i + 1)) (by show _ + _ = _ + f_draw1 S p i; unfold f_draw1 f_dr; rw [if_neg c_18, if_neg c_28, if_pos (hg_nle.mp c_52)]) ?_
          refine lv_istore_n (lv' := [(2, .int (hg_sum (f_draw1 S p) (i + 1))), (4, .int ((hg_i S 6 i) * (nI (p + 1)))), (3, .int (nI i)), (0, .ref (o 0)), (1, .int (nI p))]) hx hb dX6_draw_67 rfl hl (by decide) rfl (fun ls hl => ?_)
          refine lv_iinc (v := nI (i + 1)) (lv' := [(3, .int (nI (i + 1))), (2, .int (hg_sum (f_draw1 S p) (i + 1))), (4, .int ((hg_i S 6 i) * (nI (p + 1)))), (0, .ref (o 0)), (1, .int (nI p))]) hx hb dX6_draw_68 hl (k := 2) rfl (nI_1 _) (by decide) rfl (fun ls hl => ?_)
          refine lv_goto (tgt := 4) hx hb dX6_draw_71 (by decide) ?_
          exact ih ls (lv_sub hl [0, 1, 3, 4] rfl)
  · intro ls hl
    have hl : lv_has ls 5 [(3, .int (nI (hg_n S 1))), (2, .int (hg_sum (f_draw1 S p) (hg_n S 1))), (0, .ref (o 0)), (1, .int (nI p))] := hl
    refine lv_iload_n hx hb dX6_draw_4 rfl (lv_at hl 0 rfl) ?_
    refine lv_aload_n hx hb dX6_draw_5 rfl (lv_at hl 2 rfl) ?_
    refine va_get (C := RX6) (T := TX6) (N := 27) (v := .int (nI (hg_n S 1))) hx hb hts hi6 hown hK hP 0 rfl rfl 7 (by decide) (hts (.fieldLink RX6 96 "HotGroundModel" "turbines" "I") (by decide +kernel)) (fun _ h9 => h9) rfl dX6_draw_6 ?_
    refine lv_icmp_ge (tgt := 74) hx hb dX6_draw_9 (by decide) (fun c_9 => ?_) (fun c_9 => absurd (nI_le (Nat.le_refl _) (by omega)) c_9)
    refine lv_iload_n hx hb dX6_draw_74 rfl (lv_at hl 1 rfl) ?_
    exact W.iret (v := hg_sum (f_draw1 S p) (hg_n S 1)) hx hb hr (fun t ht hW => ⟨_, rfl, rfl, ht⟩) (fun _ h9 => nomatch h9) dX6_draw_75
set_option maxHeartbeats 4000000 in
set_option maxRecDepth 100000 in
/-- at -/
theorem m_X6_at (l : Launch) (D : va_G) (o : Nat → Nat) (cI cJ cZ : ClassId) (S : hg_S) (h0 : hg_n S 0 ≤ 8) (h1 : hg_n S 1 ≤ 4) (hkd : ok_kd S) (q a : Int32) : Met l yX6_at wsX6_at ({ frames := 2, cells := 0, slots := 0, locals := 48 }) (va_Pc [.ref (o 0), .int q, .int a] (hg_R D (mW o cI cJ cZ S) (hg_ty cI cJ cZ))) (vp_Si (fun r => r = a_at S q a)) 0 0 (fun _ => False) := by
  refine h_start (cc := cX6_at) (maxL := 5) (ret := (some .int)) (by decide) rfl (Nat.le_of_ble_eq_true rfl) ?_
  intro pg ev s mi args below meth cd ls hx hb hr hts hown hlocks hml hnm hpic hl
  obtain ⟨hP, hK⟩ := hpic
  have hi6 : ∀ w ∈ u_ws RX6 TX6 27, w ∈ wsX6_at := by decide +kernel
  have hl : lv_has ls 5 [(0, .ref (o 0)), (1, .int q), (2, .int a)] := hl
  refine lv_iload_n hx hb dX6_at_0 rfl (lv_at hl 1 rfl) ?_
  refine lv_iconst (v := nI 0) hx hb dX6_at_1 (by decide) ?_
  refine lv_iconst (v := nI 2) hx hb dX6_at_2 (by decide) ?_
  refine vp_callSi (va_Run.run (va_runS (As := [.int q, .int (nI 0), .int (nI 2)]) (rest := []) ⟨hx, hb, hml, hown, hts⟩ (m_X6_in l q (nI 0) (nI 2)) (va_cwS 3 hts gX6_at_X6_in rfl rfl rfl (by decide +kernel) ⟨Nat.le_of_ble_eq_true rfl, Nat.le_of_ble_eq_true rfl⟩) (h_preS0) rfl rfl hl.1 rfl (lv_room (Nat.le_of_ble_eq_true rfl)) dX6_at_3 ⟨Nat.le_of_ble_eq_true rfl, Nat.le_of_ble_eq_true rfl⟩)) (fun r_1 hr_1 => ?_)
  subst hr_1
  refine lv_if_eq (tgt := 19) hx hb dX6_at_6 (by decide) (fun c_6 => ?_) (fun c_6 => ?_)
  · skip
    have v_6 : ¬ ((nI 0) ≤ q ∧ q ≤ (nI 2)) := hg_in_f c_6
    refine lv_iconst (v := -1) hx hb dX6_at_19 (by decide) ?_
    exact W.iret (v := (-1)) hx hb hr (fun t ht hW => ⟨_, rfl, by show (-1) = a_at S q a; unfold a_at; rw [if_neg (fun q => v_6 q.1)], ht⟩) (fun _ h9 => nomatch h9) dX6_at_20
  · skip
    have v_6 : ((nI 0) ≤ q ∧ q ≤ (nI 2)) := hg_in_t c_6
    refine lv_iload_n hx hb dX6_at_9 rfl (lv_at hl 2 rfl) ?_
    refine lv_iconst (v := nI 0) hx hb dX6_at_10 (by decide) ?_
    refine lv_bipush (v := nI 20) hx hb dX6_at_11 (by decide) ?_
    refine vp_callSi (va_Run.run (va_runS (As := [.int a, .int (nI 0), .int (nI 20)]) (rest := []) ⟨hx, hb, hml, hown, hts⟩ (m_X6_in l a (nI 0) (nI 20)) (va_cwS 3 hts gX6_at_X6_in rfl rfl rfl (by decide +kernel) ⟨Nat.le_of_ble_eq_true rfl, Nat.le_of_ble_eq_true rfl⟩) (h_preS0) rfl rfl hl.1 rfl (lv_room (Nat.le_of_ble_eq_true rfl)) dX6_at_13 ⟨Nat.le_of_ble_eq_true rfl, Nat.le_of_ble_eq_true rfl⟩)) (fun r_2 hr_2 => ?_)
    subst hr_2
    refine lv_if_ne (tgt := 21) hx hb dX6_at_16 (by decide) (fun c_16 => ?_) (fun c_16 => ?_)
    · skip
      have v_16 : ((nI 0) ≤ a ∧ a ≤ (nI 20)) := hg_in_t c_16
      obtain ⟨kq, kql, kqh, rfl⟩ := hg_rng (by decide) (by decide) v_6
      obtain ⟨ka, kal, kah, rfl⟩ := hg_rng (by decide) (by decide) v_16
      rcases Nat.eq_or_lt_of_le (show 0 ≤ kq by omega) with rfl | kq0
      · skip
        refine lv_iload_n hx hb dX6_at_21 rfl (lv_at hl 1 rfl) ?_
        refine lv_iconst (v := nI 2) hx hb dX6_at_22 (by decide) ?_
        refine lv_icmp_ge (tgt := 44) hx hb dX6_at_23 (by decide) (fun c_23 => absurd c_23 (by decide)) (fun c_23 => ?_)
        refine lv_iload_n hx hb dX6_at_26 rfl (lv_at hl 1 rfl) ?_
        refine lv_if_ne (tgt := 38) hx hb dX6_at_27 (by decide) (fun c_27 => absurd (by decide) c_27) (fun c_27 => ?_)
        refine lv_aload_n hx hb dX6_at_30 rfl (lv_at hl 0 rfl) ?_
        refine lv_iload_n hx hb dX6_at_31 rfl (lv_at hl 2 rfl) ?_
        refine vp_callSi (va_Run.run (va_runV (As := [.int (nI ka)]) (rest := []) ⟨hx, hb, hml, hown, hts⟩ (m_X6_supply l D o cI cJ cZ S h0 hkd ka (by omega)) (cwV 1 hts gX6_at_X6_supply rfl rfl rfl (by decide +kernel) ⟨Nat.le_of_ble_eq_true rfl, Nat.le_of_ble_eq_true rfl⟩) (h_preR hK hP 0 rfl rfl rfl) rfl rfl hl.1 rfl (lv_room (Nat.le_of_ble_eq_true rfl)) dX6_at_32 ⟨Nat.le_of_ble_eq_true rfl, Nat.le_of_ble_eq_true rfl⟩)) (fun r_3 hr_3 => ?_)
        subst hr_3
        refine lv_goto (tgt := 43) hx hb dX6_at_35 (by decide) ?_
        exact W.iret (v := f_supply S ka) hx hb hr (fun t ht hW => ⟨_, rfl, by show f_supply S ka = a_at S (nI 0) (nI ka); unfold a_at; rw [if_pos (⟨v_6, v_16⟩)]; (try rw [nI_clamp (show ka < 2 ^ 31 by omega)]); rw [if_pos rfl], ht⟩) (fun _ h9 => nomatch h9) dX6_at_43
      · skip
        rcases Nat.eq_or_lt_of_le (show 1 ≤ kq by omega) with rfl | kq1
        · skip
          refine lv_iload_n hx hb dX6_at_21 rfl (lv_at hl 1 rfl) ?_
          refine lv_iconst (v := nI 2) hx hb dX6_at_22 (by decide) ?_
          refine lv_icmp_ge (tgt := 44) hx hb dX6_at_23 (by decide) (fun c_23 => absurd c_23 (by decide)) (fun c_23 => ?_)
          refine lv_iload_n hx hb dX6_at_26 rfl (lv_at hl 1 rfl) ?_
          refine lv_if_ne (tgt := 38) hx hb dX6_at_27 (by decide) (fun c_27 => ?_) (fun c_27 => absurd c_27 (by decide))
          refine lv_aload_n hx hb dX6_at_38 rfl (lv_at hl 0 rfl) ?_
          refine lv_iload_n hx hb dX6_at_39 rfl (lv_at hl 2 rfl) ?_
          refine vp_callSi (va_Run.run (va_runV (As := [.int (nI ka)]) (rest := []) ⟨hx, hb, hml, hown, hts⟩ (m_X6_draw l D o cI cJ cZ S h1 ka (by omega)) (cwV 1 hts gX6_at_X6_draw rfl rfl rfl (by decide +kernel) ⟨Nat.le_of_ble_eq_true rfl, Nat.le_of_ble_eq_true rfl⟩) (h_preR hK hP 0 rfl rfl rfl) rfl rfl hl.1 rfl (lv_room (Nat.le_of_ble_eq_true rfl)) dX6_at_40 ⟨Nat.le_of_ble_eq_true rfl, Nat.le_of_ble_eq_true rfl⟩)) (fun r_4 hr_4 => ?_)
          subst hr_4
          exact W.iret (v := f_draw S ka) hx hb hr (fun t ht hW => ⟨_, rfl, by show f_draw S ka = a_at S (nI 1) (nI ka); unfold a_at; rw [if_pos (⟨v_6, v_16⟩)]; (try rw [nI_clamp (show ka < 2 ^ 31 by omega)]); rw [if_neg (by decide)]; rw [if_pos rfl], ht⟩) (fun _ h9 => nomatch h9) dX6_at_43
        · skip
          obtain rfl : kq = 2 := by omega
          refine lv_iload_n hx hb dX6_at_21 rfl (lv_at hl 1 rfl) ?_
          refine lv_iconst (v := nI 2) hx hb dX6_at_22 (by decide) ?_
          refine lv_icmp_ge (tgt := 44) hx hb dX6_at_23 (by decide) (fun c_23 => ?_) (fun c_23 => absurd (by decide) c_23)
          refine lv_iconst (v := nI 0) hx hb dX6_at_44 (by decide) ?_
          refine h_topi (y := hg_sum (f_flw1 S ka) 0) (hg_sum_0) ?_
          refine lv_istore_n (lv' := [(3, .int (hg_sum (f_flw1 S ka) 0)), (0, .ref (o 0)), (1, .int (nI 2)), (2, .int (nI ka))]) hx hb dX6_at_45 rfl hl (by decide) rfl (fun ls hl => ?_)
          refine lv_iconst (v := nI 0) hx hb dX6_at_46 (by decide) ?_
          refine lv_istore (lv' := [(4, .int (nI 0)), (3, .int (hg_sum (f_flw1 S ka) 0)), (0, .ref (o 0)), (1, .int (nI 2)), (2, .int (nI ka))]) hx hb dX6_at_47 hl (by decide) rfl (fun ls hl => ?_)
          refine h_for (nL := 5) (hg_n S 0) (fun i => [(4, .int (nI i)), (3, .int (hg_sum (f_flw1 S ka) i)), (0, .ref (o 0)), (1, .int (nI 2)), (2, .int (nI ka))]) ?_ ?_ (lv_sub hl [0, 1, 2, 3, 4] rfl)
          · intro i ls hi hl ih
            have hl : lv_has ls 5 [(4, .int (nI i)), (3, .int (hg_sum (f_flw1 S ka) i)), (0, .ref (o 0)), (1, .int (nI 2)), (2, .int (nI ka))] := hl
            refine lv_iload hx hb dX6_at_49 (lv_at hl 0 rfl) ?_
            refine lv_aload_n hx hb dX6_at_51 rfl (lv_at hl 2 rfl) ?_
            refine va_get (C := RX6) (T := TX6) (N := 27) (v := .int (nI (hg_n S 0))) hx hb hts hi6 hown hK hP 0 rfl rfl 0 (by decide) (hts (.fieldLink RX6 72 "HotGroundModel" "wells" "I") (by decide +kernel)) (fun _ h9 => h9) rfl dX6_at_52 ?_
            refine lv_icmp_ge (tgt := 88) hx hb dX6_at_55 (by decide) (fun c_55 => absurd c_55 (nI_ge hi (by omega))) (fun c_55 => ?_)
            refine lv_iload_n hx hb dX6_at_58 rfl (lv_at hl 1 rfl) ?_
            refine lv_aload_n hx hb dX6_at_59 rfl (lv_at hl 2 rfl) ?_
            refine va_get (C := RX6) (T := TX6) (N := 27) (v := .ref (o 4)) hx hb hts hi6 hown hK hP 0 rfl rfl 4 (by decide) (hts (.fieldLink RX6 19 "HotGroundModel" "isOpen" "[Z") (by decide +kernel)) (fun _ h9 => h9) rfl dX6_at_60 ?_
            refine lv_iload hx hb dX6_at_63 (lv_at hl 0 rfl) ?_
            refine h_zald (f := hg_i S 3) hx hb hK hP 4 2 rfl rfl i (rfl) (by omega) (by decide) dX6_at_65 ?_
            refine lv_if_eq (tgt := 79) hx hb dX6_at_66 (by decide) (fun c_66 => ?_) (fun c_66 => ?_)
            · skip
              refine lv_iconst (v := nI 0) hx hb dX6_at_79 (by decide) ?_
              refine lv_iadd hx hb dX6_at_80 ?_
              refine h_topi (y := hg_sum (f_flw1 S ka) (i + 1)) (by show _ + nI 0 = _ + f_flw1 S ka i; unfold f_flw1; rw [if_pos c_66, nI_0]) ?_
              refine lv_istore_n (lv' := [(3, .int (hg_sum (f_flw1 S ka) (i + 1))), (4, .int (nI i)), (0, .ref (o 0)), (1, .int (nI 2)), (2, .int (nI ka))]) hx hb dX6_at_81 rfl hl (by decide) rfl (fun ls hl => ?_)
              refine lv_iinc (v := nI (i + 1)) (lv' := [(4, .int (nI (i + 1))), (3, .int (hg_sum (f_flw1 S ka) (i + 1))), (0, .ref (o 0)), (1, .int (nI 2)), (2, .int (nI ka))]) hx hb dX6_at_82 hl (k := 1) rfl (nI_1 _) (by decide) rfl (fun ls hl => ?_)
              refine lv_goto (tgt := 49) hx hb dX6_at_85 (by decide) ?_
              exact ih ls (lv_sub hl [0, 1, 2, 3, 4] rfl)
            · skip
              refine lv_aload_n hx hb dX6_at_69 rfl (lv_at hl 2 rfl) ?_
              refine lv_iload hx hb dX6_at_70 (lv_at hl 0 rfl) ?_
              refine lv_iload_n hx hb dX6_at_72 rfl (lv_at hl 4 rfl) ?_
              refine vp_callSi (va_Run.run (va_runV (As := [.int (nI i), .int (nI ka)]) (rest := [.int (hg_sum (f_flw1 S ka) i)]) ⟨hx, hb, hml, hown, hts⟩ (m_X6_flowOf l D o cI cJ cZ S hkd i ka (by omega) (by omega)) (cwV 2 hts gX6_at_X6_flowOf rfl rfl rfl (by decide +kernel) ⟨Nat.le_of_ble_eq_true rfl, Nat.le_of_ble_eq_true rfl⟩) (h_preR hK hP 0 rfl rfl rfl) rfl rfl hl.1 rfl (lv_room (Nat.le_of_ble_eq_true rfl)) dX6_at_73 ⟨Nat.le_of_ble_eq_true rfl, Nat.le_of_ble_eq_true rfl⟩)) (fun r_5 hr_5 => ?_)
              subst hr_5
              refine lv_goto (tgt := 80) hx hb dX6_at_76 (by decide) ?_
              refine lv_iadd hx hb dX6_at_80 ?_
              refine h_topi (y := hg_sum (f_flw1 S ka) (i + 1)) (by show _ + _ = _ + f_flw1 S ka i; unfold f_flw1; rw [if_neg c_66]) ?_
              refine lv_istore_n (lv' := [(3, .int (hg_sum (f_flw1 S ka) (i + 1))), (4, .int (nI i)), (0, .ref (o 0)), (1, .int (nI 2)), (2, .int (nI ka))]) hx hb dX6_at_81 rfl hl (by decide) rfl (fun ls hl => ?_)
              refine lv_iinc (v := nI (i + 1)) (lv' := [(4, .int (nI (i + 1))), (3, .int (hg_sum (f_flw1 S ka) (i + 1))), (0, .ref (o 0)), (1, .int (nI 2)), (2, .int (nI ka))]) hx hb dX6_at_82 hl (k := 1) rfl (nI_1 _) (by decide) rfl (fun ls hl => ?_)
              refine lv_goto (tgt := 49) hx hb dX6_at_85 (by decide) ?_
              exact ih ls (lv_sub hl [0, 1, 2, 3, 4] rfl)
          · intro ls hl
            have hl : lv_has ls 5 [(4, .int (nI (hg_n S 0))), (3, .int (hg_sum (f_flw1 S ka) (hg_n S 0))), (0, .ref (o 0)), (1, .int (nI 2)), (2, .int (nI ka))] := hl
            refine lv_iload hx hb dX6_at_49 (lv_at hl 0 rfl) ?_
            refine lv_aload_n hx hb dX6_at_51 rfl (lv_at hl 2 rfl) ?_
            refine va_get (C := RX6) (T := TX6) (N := 27) (v := .int (nI (hg_n S 0))) hx hb hts hi6 hown hK hP 0 rfl rfl 0 (by decide) (hts (.fieldLink RX6 72 "HotGroundModel" "wells" "I") (by decide +kernel)) (fun _ h9 => h9) rfl dX6_at_52 ?_
            refine lv_icmp_ge (tgt := 88) hx hb dX6_at_55 (by decide) (fun c_55 => ?_) (fun c_55 => absurd (nI_le (Nat.le_refl _) (by omega)) c_55)
            refine lv_iload_n hx hb dX6_at_88 rfl (lv_at hl 1 rfl) ?_
            refine lv_aload_n hx hb dX6_at_89 rfl (lv_at hl 2 rfl) ?_
            refine lv_iload_n hx hb dX6_at_90 rfl (lv_at hl 4 rfl) ?_
            refine vp_callSi (va_Run.run (va_runV (As := [.int (nI ka)]) (rest := [.int (hg_sum (f_flw1 S ka) (hg_n S 0))]) ⟨hx, hb, hml, hown, hts⟩ (m_X6_supply l D o cI cJ cZ S h0 hkd ka (by omega)) (cwV 1 hts gX6_at_X6_supply rfl rfl rfl (by decide +kernel) ⟨Nat.le_of_ble_eq_true rfl, Nat.le_of_ble_eq_true rfl⟩) (h_preR hK hP 0 rfl rfl rfl) rfl rfl hl.1 rfl (lv_room (Nat.le_of_ble_eq_true rfl)) dX6_at_91 ⟨Nat.le_of_ble_eq_true rfl, Nat.le_of_ble_eq_true rfl⟩)) (fun r_6 hr_6 => ?_)
            subst hr_6
            refine lv_isub hx hb dX6_at_94 ?_
            exact W.iret (v := (hg_sum (f_flw1 S ka) (hg_n S 0)) - (f_supply S ka)) hx hb hr (fun t ht hW => ⟨_, rfl, by show (hg_sum (f_flw1 S ka) (hg_n S 0)) - (f_supply S ka) = a_at S (nI 2) (nI ka); unfold a_at; rw [if_pos (⟨v_6, v_16⟩)]; (try rw [nI_clamp (show ka < 2 ^ 31 by omega)]); rw [if_neg (by decide)]; rw [if_neg (by decide)]; exact f_water_m S ka _, ht⟩) (fun _ h9 => nomatch h9) dX6_at_95
    · skip
      have v_16 : ¬ ((nI 0) ≤ a ∧ a ≤ (nI 20)) := hg_in_f c_16
      refine lv_iconst (v := -1) hx hb dX6_at_19 (by decide) ?_
      exact W.iret (v := (-1)) hx hb hr (fun t ht hW => ⟨_, rfl, by show (-1) = a_at S q a; unfold a_at; rw [if_neg (fun q => v_16 q.2)], ht⟩) (fun _ h9 => nomatch h9) dX6_at_20
set_option maxHeartbeats 4000000 in
set_option maxRecDepth 100000 in
/-- the point -/
theorem m_X6_point (l : Launch) (D : va_G) (o : Nat → Nat) (cI cJ cZ : ClassId) (S : hg_S) (h0 : hg_n S 0 ≤ 8) (h1 : hg_n S 1 ≤ 4) (hkd : ok_kd S)  : Met l yX6_point wsX6_point ({ frames := 2, cells := 0, slots := 0, locals := 48 }) (va_Pc [.ref (o 0)] (hg_R D (mW o cI cJ cZ S) (hg_ty cI cJ cZ))) (vp_Si (fun r => r = f_point S)) 0 0 (fun _ => False) := by
  refine h_start (cc := cX6_point) (maxL := 2) (ret := (some .int)) (by decide) rfl (Nat.le_of_ble_eq_true rfl) ?_
  intro pg ev s mi args below meth cd ls hx hb hr hts hown hlocks hml hnm hpic hl
  obtain ⟨hP, hK⟩ := hpic
  have hl : lv_has ls 2 [(0, .ref (o 0))] := hl
  refine lv_bipush (v := nI 20) hx hb dX6_point_0 (by decide) ?_
  refine h_topi (y := nI 20 - nI 0) (by decide) ?_
  refine lv_istore_n (lv' := [(1, .int (nI 20 - nI 0)), (0, .ref (o 0))]) hx hb dX6_point_2 rfl hl (by decide) rfl (fun ls hl => ?_)
  refine h_forI (nL := 2) 21 (fun i => [(1, .int (nI 20 - nI i)), (0, .ref (o 0))]) (fun i => f_point S = f_meet S (21 - i)) ?_ ?_ rfl (lv_sub hl [0, 1] rfl)
  · intro i ls hi hI hl ih
    have hl : lv_has ls 2 [(1, .int (nI 20 - nI i)), (0, .ref (o 0))] := hl
    rw [show nI 20 - nI i = nI (20 - i) from pk_sub (by omega)] at hl
    have hl : lv_has ls 2 [(1, .int (nI (20 - i))), (0, .ref (o 0))] := hl
    have hm : f_meet S (21 - i) = if f_draw S (20 - i) ≤ f_supply S (20 - i) then nI (20 - i) else f_meet S (20 - i) := by rw [show 21 - i = (20 - i) + 1 from by omega]; rfl
    refine lv_iload_n hx hb dX6_point_3 rfl (lv_at hl 0 rfl) ?_
    refine lv_if_lt (tgt := 26) hx hb dX6_point_4 (by decide) (fun c_4 => absurd c_4 (nI_pos (by omega))) (fun c_4 => ?_)
    refine lv_aload_n hx hb dX6_point_7 rfl (lv_at hl 1 rfl) ?_
    refine lv_iload_n hx hb dX6_point_8 rfl (lv_at hl 0 rfl) ?_
    refine vp_callSi (va_Run.run (va_runV (As := [.int (nI (20 - i))]) (rest := []) ⟨hx, hb, hml, hown, hts⟩ (m_X6_supply l D o cI cJ cZ S h0 hkd (20 - i) (by omega)) (cwV 1 hts gX6_point_X6_supply rfl rfl rfl (by decide +kernel) ⟨Nat.le_of_ble_eq_true rfl, Nat.le_of_ble_eq_true rfl⟩) (h_preR hK hP 0 rfl rfl rfl) rfl rfl hl.1 rfl (lv_room (Nat.le_of_ble_eq_true rfl)) dX6_point_9 ⟨Nat.le_of_ble_eq_true rfl, Nat.le_of_ble_eq_true rfl⟩)) (fun r_1 hr_1 => ?_)
    subst hr_1
    refine lv_aload_n hx hb dX6_point_12 rfl (lv_at hl 1 rfl) ?_
    refine lv_iload_n hx hb dX6_point_13 rfl (lv_at hl 0 rfl) ?_
    refine vp_callSi (va_Run.run (va_runV (As := [.int (nI (20 - i))]) (rest := [.int (f_supply S (20 - i))]) ⟨hx, hb, hml, hown, hts⟩ (m_X6_draw l D o cI cJ cZ S h1 (20 - i) (by omega)) (cwV 1 hts gX6_point_X6_draw rfl rfl rfl (by decide +kernel) ⟨Nat.le_of_ble_eq_true rfl, Nat.le_of_ble_eq_true rfl⟩) (h_preR hK hP 0 rfl rfl rfl) rfl rfl hl.1 rfl (lv_room (Nat.le_of_ble_eq_true rfl)) dX6_point_14 ⟨Nat.le_of_ble_eq_true rfl, Nat.le_of_ble_eq_true rfl⟩)) (fun r_2 hr_2 => ?_)
    subst hr_2
    refine lv_icmp_ge (tgt := 26) hx hb dX6_point_17 (by decide) (fun c_17 => ?_) (fun c_17 => ?_)
    · skip
      refine lv_iload_n hx hb dX6_point_26 rfl (lv_at hl 0 rfl) ?_
      refine lv_if_ge (tgt := 35) hx hb dX6_point_27 (by decide) (fun c_27 => ?_) (fun c_27 => absurd (nI_pos' (by omega)) c_27)
      refine lv_iload_n hx hb dX6_point_35 rfl (lv_at hl 0 rfl) ?_
      exact W.iret (v := nI (20 - i)) hx hb hr (fun t ht hW => ⟨_, rfl, by rw [hI, hm, if_pos c_17], ht⟩) (fun _ h9 => nomatch h9) dX6_point_36
    · skip
      refine lv_iinc (v := nI 20 - nI (i + 1)) (lv' := [(1, .int (nI 20 - nI (i + 1))), (0, .ref (o 0))]) hx hb dX6_point_20 hl (k := 0) rfl (hg_dec20 hi) (by decide) rfl (fun ls hl => ?_)
      refine lv_goto (tgt := 3) hx hb dX6_point_23 (by decide) ?_
      exact ih ls (by rw [hI, hm, if_neg c_17]; congr 1; omega) (lv_sub hl [0, 1] rfl)
  · intro ls hI hl
    have hl : lv_has ls 2 [(1, .int (nI 20 - nI 21)), (0, .ref (o 0))] := hl
    refine lv_iload_n hx hb dX6_point_3 rfl (lv_at hl 0 rfl) ?_
    refine lv_if_lt (tgt := 26) hx hb dX6_point_4 (by decide) (fun c_4 => ?_) (fun c_4 => absurd (by decide) c_4)
    refine lv_iload_n hx hb dX6_point_26 rfl (lv_at hl 0 rfl) ?_
    refine lv_if_ge (tgt := 35) hx hb dX6_point_27 (by decide) (fun c_27 => absurd c_27 (by decide)) (fun c_27 => ?_)
    refine lv_bipush (v := -9) hx hb dX6_point_30 (by decide) ?_
    refine lv_goto (tgt := 36) hx hb dX6_point_32 (by decide) ?_
    exact W.iret (v := (-9)) hx hb hr (fun t ht hW => ⟨_, rfl, by rw [hI]; rfl, ht⟩) (fun _ h9 => nomatch h9) dX6_point_36
set_option maxHeartbeats 4000000 in
set_option maxRecDepth 100000 in
/-- well -/
theorem m_X6_well (l : Launch) (D : va_G) (o : Nat → Nat) (cI cJ cZ : ClassId) (S : hg_S) (sz : Nat) (h0 : hg_n S 0 ≤ 8) (h2 : hg_n S 0 < 8 → hg_i S 2 (hg_n S 0) = nI 0) (h3 : hg_n S 0 < 8 → hg_i S 3 (hg_n S 0) = nI 0) (k b a1 b1 c1 d1 e1 : Int32) : Met l yX6_well wsX6_well ({ frames := 1, cells := 0, slots := 0, locals := 22 }) (va_Pc [.ref (o 0), .int k, .int b, .int a1, .int b1, .int c1, .int d1, .int e1] (hg_Wr D (mW o cI cJ cZ S) (hg_ty cI cJ cZ) sz)) (va_Qi (fun (r : Int32) (_ : Unit) => r = (r_well S k b a1 b1 c1 d1 e1).1) (fun _ t => hg_At D (mW o cI cJ cZ ((r_well S k b a1 b1 c1 d1 e1).2)) (va_A (mW o cI cJ cZ S) sz) t) (va_A (mW o cI cJ cZ S) sz)) 0 0 (va_A (mW o cI cJ cZ S) sz) := by
  refine h_start (cc := cX6_well) (maxL := 9) (ret := (some .int)) (by decide) rfl (Nat.le_of_ble_eq_true rfl) ?_
  intro pg ev s mi args below meth cd ls hx hb hr hts hown hlocks hml hnm hpic hl
  obtain ⟨hsz, hP, hK, hD0⟩ := hpic
  subst hsz
  have hD := hD0.self (sz := s.heap.size)
  generalize hAe : va_A (mW o cI cJ cZ S) s.heap.size = A at hD ⊢
  have hA : ∀ q : Nat, s.heap.size ≤ q → A q := fun q h => by rw [← hAe]; exact Or.inr h
  have hS : va_S A s.heap s.heap [] := va_S.rf
  have hi6 : ∀ w ∈ u_ws RX6 TX6 27, w ∈ wsX6_well := by decide +kernel
  have hl : lv_has ls 9 [(0, .ref (o 0)), (1, .int k), (2, .int b), (3, .int a1), (4, .int b1), (5, .int c1), (6, .int d1), (7, .int e1)] := hl
  refine lv_iload_n hx hb dX6_well_0 rfl (lv_at hl 3 rfl) ?_
  refine lv_sipush (v := nI 200) hx hb dX6_well_1 (by decide) ?_
  refine lv_icmp_gt (tgt := 43) hx hb dX6_well_4 (by decide) (fun c_4 => ?_) (fun c_4 => ?_)
  · skip
    have v_4 : ¬ a1 ≤ nI 200 := hg_nle.mpr c_4
    refine lv_iconst (v := nI 0) hx hb dX6_well_43 (by decide) ?_
    refine lv_istore (lv' := [(8, .int (nI 0)), (0, .ref (o 0)), (1, .int k), (2, .int b), (3, .int a1), (4, .int b1), (5, .int c1), (6, .int d1), (7, .int e1)]) hx hb dX6_well_44 hl (by decide) rfl (fun ls hl => ?_)
    refine lv_iload_n hx hb dX6_well_46 rfl (lv_at hl 2 rfl) ?_
    refine lv_iconst (v := nI 0) hx hb dX6_well_47 (by decide) ?_
    refine lv_iconst (v := nI 2) hx hb dX6_well_48 (by decide) ?_
    refine vp_callSi (va_Run.run (va_runS (As := [.int k, .int (nI 0), .int (nI 2)]) (rest := []) ⟨hx, hb, hml, hown, hts⟩ (m_X6_in l k (nI 0) (nI 2)) (va_cwS 3 hts gX6_well_X6_in rfl rfl rfl (by decide +kernel) ⟨Nat.le_of_ble_eq_true rfl, Nat.le_of_ble_eq_true rfl⟩) (h_preS0) rfl rfl hl.1 rfl (lv_room (Nat.le_of_ble_eq_true rfl)) dX6_well_49 ⟨Nat.le_of_ble_eq_true rfl, Nat.le_of_ble_eq_true rfl⟩)) (fun r_1 hr_1 => ?_)
    subst hr_1
    refine lv_if_eq (tgt := 69) hx hb dX6_well_52 (by decide) (fun c_52 => ?_) (fun c_52 => ?_)
    · skip
      have v_52 : ¬ ((nI 0) ≤ k ∧ k ≤ (nI 2)) := hg_in_f c_52
      refine lv_iconst (v := -1) hx hb dX6_well_69 (by decide) ?_
      have hq : r_well S k b a1 b1 c1 d1 e1 = ((-1), S) := by unfold r_well; rw [if_neg (fun q => v_52 q.1)]
      rw [show (S : hg_S) = (r_well S k b a1 b1 c1 d1 e1).2 from by rw [hq]] at hP hD
      exact W.iret (v := (-1)) hx hb hr (fun t ht hW => ⟨⟨_, (), rfl, by rw [hq], ⟨by rw [ht]; exact hP, hD⟩⟩, hS.F ht⟩) hS.2.2 dX6_well_70
    · skip
      have v_52 : ((nI 0) ≤ k ∧ k ≤ (nI 2)) := hg_in_t c_52
      refine lv_iload_n hx hb dX6_well_55 rfl (lv_at hl 3 rfl) ?_
      refine lv_iconst (v := nI 0) hx hb dX6_well_56 (by decide) ?_
      refine lv_iconst (v := nI 3) hx hb dX6_well_57 (by decide) ?_
      refine vp_callSi (va_Run.run (va_runS (As := [.int b, .int (nI 0), .int (nI 3)]) (rest := []) ⟨hx, hb, hml, hown, hts⟩ (m_X6_in l b (nI 0) (nI 3)) (va_cwS 3 hts gX6_well_X6_in rfl rfl rfl (by decide +kernel) ⟨Nat.le_of_ble_eq_true rfl, Nat.le_of_ble_eq_true rfl⟩) (h_preS0) rfl rfl hl.1 rfl (lv_room (Nat.le_of_ble_eq_true rfl)) dX6_well_58 ⟨Nat.le_of_ble_eq_true rfl, Nat.le_of_ble_eq_true rfl⟩)) (fun r_2 hr_2 => ?_)
      subst hr_2
      refine lv_if_eq (tgt := 69) hx hb dX6_well_61 (by decide) (fun c_61 => ?_) (fun c_61 => ?_)
      · skip
        have v_61 : ¬ ((nI 0) ≤ b ∧ b ≤ (nI 3)) := hg_in_f c_61
        refine lv_iconst (v := -1) hx hb dX6_well_69 (by decide) ?_
        have hq : r_well S k b a1 b1 c1 d1 e1 = ((-1), S) := by unfold r_well; rw [if_neg (fun q => v_61 q.2.1)]
        rw [show (S : hg_S) = (r_well S k b a1 b1 c1 d1 e1).2 from by rw [hq]] at hP hD
        exact W.iret (v := (-1)) hx hb hr (fun t ht hW => ⟨⟨_, (), rfl, by rw [hq], ⟨by rw [ht]; exact hP, hD⟩⟩, hS.F ht⟩) hS.2.2 dX6_well_70
      · skip
        have v_61 : ((nI 0) ≤ b ∧ b ≤ (nI 3)) := hg_in_t c_61
        refine lv_iload hx hb dX6_well_64 (lv_at hl 0 rfl) ?_
        refine lv_if_ne (tgt := 71) hx hb dX6_well_66 (by decide) (fun c_66 => absurd (by decide) c_66) (fun c_66 => ?_)
        refine lv_iconst (v := -1) hx hb dX6_well_69 (by decide) ?_
        have hq : r_well S k b a1 b1 c1 d1 e1 = ((-1), S) := by unfold r_well; rw [if_neg (fun q => v_4 q.2.2.1.2)]
        rw [show (S : hg_S) = (r_well S k b a1 b1 c1 d1 e1).2 from by rw [hq]] at hP hD
        exact W.iret (v := (-1)) hx hb hr (fun t ht hW => ⟨⟨_, (), rfl, by rw [hq], ⟨by rw [ht]; exact hP, hD⟩⟩, hS.F ht⟩) hS.2.2 dX6_well_70
  · skip
    refine lv_iload_n hx hb dX6_well_7 rfl (lv_at hl 3 rfl) ?_
    refine lv_iload hx hb dX6_well_8 (lv_at hl 4 rfl) ?_
    refine lv_icmp_lt (tgt := 43) hx hb dX6_well_10 (by decide) (fun c_10 => ?_) (fun c_10 => ?_)
    · skip
      have v_10 : ¬ b1 ≤ a1 := hg_nle.mpr c_10
      refine lv_iconst (v := nI 0) hx hb dX6_well_43 (by decide) ?_
      refine lv_istore (lv' := [(8, .int (nI 0)), (0, .ref (o 0)), (1, .int k), (2, .int b), (3, .int a1), (4, .int b1), (5, .int c1), (6, .int d1), (7, .int e1)]) hx hb dX6_well_44 hl (by decide) rfl (fun ls hl => ?_)
      refine lv_iload_n hx hb dX6_well_46 rfl (lv_at hl 2 rfl) ?_
      refine lv_iconst (v := nI 0) hx hb dX6_well_47 (by decide) ?_
      refine lv_iconst (v := nI 2) hx hb dX6_well_48 (by decide) ?_
      refine vp_callSi (va_Run.run (va_runS (As := [.int k, .int (nI 0), .int (nI 2)]) (rest := []) ⟨hx, hb, hml, hown, hts⟩ (m_X6_in l k (nI 0) (nI 2)) (va_cwS 3 hts gX6_well_X6_in rfl rfl rfl (by decide +kernel) ⟨Nat.le_of_ble_eq_true rfl, Nat.le_of_ble_eq_true rfl⟩) (h_preS0) rfl rfl hl.1 rfl (lv_room (Nat.le_of_ble_eq_true rfl)) dX6_well_49 ⟨Nat.le_of_ble_eq_true rfl, Nat.le_of_ble_eq_true rfl⟩)) (fun r_3 hr_3 => ?_)
      subst hr_3
      refine lv_if_eq (tgt := 69) hx hb dX6_well_52 (by decide) (fun c_52 => ?_) (fun c_52 => ?_)
      · skip
        have v_52 : ¬ ((nI 0) ≤ k ∧ k ≤ (nI 2)) := hg_in_f c_52
        refine lv_iconst (v := -1) hx hb dX6_well_69 (by decide) ?_
        have hq : r_well S k b a1 b1 c1 d1 e1 = ((-1), S) := by unfold r_well; rw [if_neg (fun q => v_52 q.1)]
        rw [show (S : hg_S) = (r_well S k b a1 b1 c1 d1 e1).2 from by rw [hq]] at hP hD
        exact W.iret (v := (-1)) hx hb hr (fun t ht hW => ⟨⟨_, (), rfl, by rw [hq], ⟨by rw [ht]; exact hP, hD⟩⟩, hS.F ht⟩) hS.2.2 dX6_well_70
      · skip
        have v_52 : ((nI 0) ≤ k ∧ k ≤ (nI 2)) := hg_in_t c_52
        refine lv_iload_n hx hb dX6_well_55 rfl (lv_at hl 3 rfl) ?_
        refine lv_iconst (v := nI 0) hx hb dX6_well_56 (by decide) ?_
        refine lv_iconst (v := nI 3) hx hb dX6_well_57 (by decide) ?_
        refine vp_callSi (va_Run.run (va_runS (As := [.int b, .int (nI 0), .int (nI 3)]) (rest := []) ⟨hx, hb, hml, hown, hts⟩ (m_X6_in l b (nI 0) (nI 3)) (va_cwS 3 hts gX6_well_X6_in rfl rfl rfl (by decide +kernel) ⟨Nat.le_of_ble_eq_true rfl, Nat.le_of_ble_eq_true rfl⟩) (h_preS0) rfl rfl hl.1 rfl (lv_room (Nat.le_of_ble_eq_true rfl)) dX6_well_58 ⟨Nat.le_of_ble_eq_true rfl, Nat.le_of_ble_eq_true rfl⟩)) (fun r_4 hr_4 => ?_)
        subst hr_4
        refine lv_if_eq (tgt := 69) hx hb dX6_well_61 (by decide) (fun c_61 => ?_) (fun c_61 => ?_)
        · skip
          have v_61 : ¬ ((nI 0) ≤ b ∧ b ≤ (nI 3)) := hg_in_f c_61
          refine lv_iconst (v := -1) hx hb dX6_well_69 (by decide) ?_
          have hq : r_well S k b a1 b1 c1 d1 e1 = ((-1), S) := by unfold r_well; rw [if_neg (fun q => v_61 q.2.1)]
          rw [show (S : hg_S) = (r_well S k b a1 b1 c1 d1 e1).2 from by rw [hq]] at hP hD
          exact W.iret (v := (-1)) hx hb hr (fun t ht hW => ⟨⟨_, (), rfl, by rw [hq], ⟨by rw [ht]; exact hP, hD⟩⟩, hS.F ht⟩) hS.2.2 dX6_well_70
        · skip
          have v_61 : ((nI 0) ≤ b ∧ b ≤ (nI 3)) := hg_in_t c_61
          refine lv_iload hx hb dX6_well_64 (lv_at hl 0 rfl) ?_
          refine lv_if_ne (tgt := 71) hx hb dX6_well_66 (by decide) (fun c_66 => absurd (by decide) c_66) (fun c_66 => ?_)
          refine lv_iconst (v := -1) hx hb dX6_well_69 (by decide) ?_
          have hq : r_well S k b a1 b1 c1 d1 e1 = ((-1), S) := by unfold r_well; rw [if_neg (fun q => v_10 q.2.2.2.1.2)]
          rw [show (S : hg_S) = (r_well S k b a1 b1 c1 d1 e1).2 from by rw [hq]] at hP hD
          exact W.iret (v := (-1)) hx hb hr (fun t ht hW => ⟨⟨_, (), rfl, by rw [hq], ⟨by rw [ht]; exact hP, hD⟩⟩, hS.F ht⟩) hS.2.2 dX6_well_70
    · skip
      refine lv_iload hx hb dX6_well_13 (lv_at hl 4 rfl) ?_
      refine lv_iload hx hb dX6_well_15 (lv_at hl 5 rfl) ?_
      refine lv_icmp_lt (tgt := 43) hx hb dX6_well_17 (by decide) (fun c_17 => ?_) (fun c_17 => ?_)
      · skip
        have v_17 : ¬ c1 ≤ b1 := hg_nle.mpr c_17
        refine lv_iconst (v := nI 0) hx hb dX6_well_43 (by decide) ?_
        refine lv_istore (lv' := [(8, .int (nI 0)), (0, .ref (o 0)), (1, .int k), (2, .int b), (3, .int a1), (4, .int b1), (5, .int c1), (6, .int d1), (7, .int e1)]) hx hb dX6_well_44 hl (by decide) rfl (fun ls hl => ?_)
        refine lv_iload_n hx hb dX6_well_46 rfl (lv_at hl 2 rfl) ?_
        refine lv_iconst (v := nI 0) hx hb dX6_well_47 (by decide) ?_
        refine lv_iconst (v := nI 2) hx hb dX6_well_48 (by decide) ?_
        refine vp_callSi (va_Run.run (va_runS (As := [.int k, .int (nI 0), .int (nI 2)]) (rest := []) ⟨hx, hb, hml, hown, hts⟩ (m_X6_in l k (nI 0) (nI 2)) (va_cwS 3 hts gX6_well_X6_in rfl rfl rfl (by decide +kernel) ⟨Nat.le_of_ble_eq_true rfl, Nat.le_of_ble_eq_true rfl⟩) (h_preS0) rfl rfl hl.1 rfl (lv_room (Nat.le_of_ble_eq_true rfl)) dX6_well_49 ⟨Nat.le_of_ble_eq_true rfl, Nat.le_of_ble_eq_true rfl⟩)) (fun r_5 hr_5 => ?_)
        subst hr_5
        refine lv_if_eq (tgt := 69) hx hb dX6_well_52 (by decide) (fun c_52 => ?_) (fun c_52 => ?_)
        · skip
          have v_52 : ¬ ((nI 0) ≤ k ∧ k ≤ (nI 2)) := hg_in_f c_52
          refine lv_iconst (v := -1) hx hb dX6_well_69 (by decide) ?_
          have hq : r_well S k b a1 b1 c1 d1 e1 = ((-1), S) := by unfold r_well; rw [if_neg (fun q => v_52 q.1)]
          rw [show (S : hg_S) = (r_well S k b a1 b1 c1 d1 e1).2 from by rw [hq]] at hP hD
          exact W.iret (v := (-1)) hx hb hr (fun t ht hW => ⟨⟨_, (), rfl, by rw [hq], ⟨by rw [ht]; exact hP, hD⟩⟩, hS.F ht⟩) hS.2.2 dX6_well_70
        · skip
          have v_52 : ((nI 0) ≤ k ∧ k ≤ (nI 2)) := hg_in_t c_52
          refine lv_iload_n hx hb dX6_well_55 rfl (lv_at hl 3 rfl) ?_
          refine lv_iconst (v := nI 0) hx hb dX6_well_56 (by decide) ?_
          refine lv_iconst (v := nI 3) hx hb dX6_well_57 (by decide) ?_
          refine vp_callSi (va_Run.run (va_runS (As := [.int b, .int (nI 0), .int (nI 3)]) (rest := []) ⟨hx, hb, hml, hown, hts⟩ (m_X6_in l b (nI 0) (nI 3)) (va_cwS 3 hts gX6_well_X6_in rfl rfl rfl (by decide +kernel) ⟨Nat.le_of_ble_eq_true rfl, Nat.le_of_ble_eq_true rfl⟩) (h_preS0) rfl rfl hl.1 rfl (lv_room (Nat.le_of_ble_eq_true rfl)) dX6_well_58 ⟨Nat.le_of_ble_eq_true rfl, Nat.le_of_ble_eq_true rfl⟩)) (fun r_6 hr_6 => ?_)
          subst hr_6
          refine lv_if_eq (tgt := 69) hx hb dX6_well_61 (by decide) (fun c_61 => ?_) (fun c_61 => ?_)
          · skip
            have v_61 : ¬ ((nI 0) ≤ b ∧ b ≤ (nI 3)) := hg_in_f c_61
            refine lv_iconst (v := -1) hx hb dX6_well_69 (by decide) ?_
            have hq : r_well S k b a1 b1 c1 d1 e1 = ((-1), S) := by unfold r_well; rw [if_neg (fun q => v_61 q.2.1)]
            rw [show (S : hg_S) = (r_well S k b a1 b1 c1 d1 e1).2 from by rw [hq]] at hP hD
            exact W.iret (v := (-1)) hx hb hr (fun t ht hW => ⟨⟨_, (), rfl, by rw [hq], ⟨by rw [ht]; exact hP, hD⟩⟩, hS.F ht⟩) hS.2.2 dX6_well_70
          · skip
            have v_61 : ((nI 0) ≤ b ∧ b ≤ (nI 3)) := hg_in_t c_61
            refine lv_iload hx hb dX6_well_64 (lv_at hl 0 rfl) ?_
            refine lv_if_ne (tgt := 71) hx hb dX6_well_66 (by decide) (fun c_66 => absurd (by decide) c_66) (fun c_66 => ?_)
            refine lv_iconst (v := -1) hx hb dX6_well_69 (by decide) ?_
            have hq : r_well S k b a1 b1 c1 d1 e1 = ((-1), S) := by unfold r_well; rw [if_neg (fun q => v_17 q.2.2.2.2.1.2)]
            rw [show (S : hg_S) = (r_well S k b a1 b1 c1 d1 e1).2 from by rw [hq]] at hP hD
            exact W.iret (v := (-1)) hx hb hr (fun t ht hW => ⟨⟨_, (), rfl, by rw [hq], ⟨by rw [ht]; exact hP, hD⟩⟩, hS.F ht⟩) hS.2.2 dX6_well_70
      · skip
        refine lv_iload hx hb dX6_well_20 (lv_at hl 5 rfl) ?_
        refine lv_iload hx hb dX6_well_22 (lv_at hl 6 rfl) ?_
        refine lv_icmp_lt (tgt := 43) hx hb dX6_well_24 (by decide) (fun c_24 => ?_) (fun c_24 => ?_)
        · skip
          have v_24 : ¬ d1 ≤ c1 := hg_nle.mpr c_24
          refine lv_iconst (v := nI 0) hx hb dX6_well_43 (by decide) ?_
          refine lv_istore (lv' := [(8, .int (nI 0)), (0, .ref (o 0)), (1, .int k), (2, .int b), (3, .int a1), (4, .int b1), (5, .int c1), (6, .int d1), (7, .int e1)]) hx hb dX6_well_44 hl (by decide) rfl (fun ls hl => ?_)
          refine lv_iload_n hx hb dX6_well_46 rfl (lv_at hl 2 rfl) ?_
          refine lv_iconst (v := nI 0) hx hb dX6_well_47 (by decide) ?_
          refine lv_iconst (v := nI 2) hx hb dX6_well_48 (by decide) ?_
          refine vp_callSi (va_Run.run (va_runS (As := [.int k, .int (nI 0), .int (nI 2)]) (rest := []) ⟨hx, hb, hml, hown, hts⟩ (m_X6_in l k (nI 0) (nI 2)) (va_cwS 3 hts gX6_well_X6_in rfl rfl rfl (by decide +kernel) ⟨Nat.le_of_ble_eq_true rfl, Nat.le_of_ble_eq_true rfl⟩) (h_preS0) rfl rfl hl.1 rfl (lv_room (Nat.le_of_ble_eq_true rfl)) dX6_well_49 ⟨Nat.le_of_ble_eq_true rfl, Nat.le_of_ble_eq_true rfl⟩)) (fun r_7 hr_7 => ?_)
          subst hr_7
          refine lv_if_eq (tgt := 69) hx hb dX6_well_52 (by decide) (fun c_52 => ?_) (fun c_52 => ?_)
          · skip
            have v_52 : ¬ ((nI 0) ≤ k ∧ k ≤ (nI 2)) := hg_in_f c_52
            refine lv_iconst (v := -1) hx hb dX6_well_69 (by decide) ?_
            have hq : r_well S k b a1 b1 c1 d1 e1 = ((-1), S) := by unfold r_well; rw [if_neg (fun q => v_52 q.1)]
            rw [show (S : hg_S) = (r_well S k b a1 b1 c1 d1 e1).2 from by rw [hq]] at hP hD
            exact W.iret (v := (-1)) hx hb hr (fun t ht hW => ⟨⟨_, (), rfl, by rw [hq], ⟨by rw [ht]; exact hP, hD⟩⟩, hS.F ht⟩) hS.2.2 dX6_well_70
          · skip
            have v_52 : ((nI 0) ≤ k ∧ k ≤ (nI 2)) := hg_in_t c_52
            refine lv_iload_n hx hb dX6_well_55 rfl (lv_at hl 3 rfl) ?_
            refine lv_iconst (v := nI 0) hx hb dX6_well_56 (by decide) ?_
            refine lv_iconst (v := nI 3) hx hb dX6_well_57 (by decide) ?_
            refine vp_callSi (va_Run.run (va_runS (As := [.int b, .int (nI 0), .int (nI 3)]) (rest := []) ⟨hx, hb, hml, hown, hts⟩ (m_X6_in l b (nI 0) (nI 3)) (va_cwS 3 hts gX6_well_X6_in rfl rfl rfl (by decide +kernel) ⟨Nat.le_of_ble_eq_true rfl, Nat.le_of_ble_eq_true rfl⟩) (h_preS0) rfl rfl hl.1 rfl (lv_room (Nat.le_of_ble_eq_true rfl)) dX6_well_58 ⟨Nat.le_of_ble_eq_true rfl, Nat.le_of_ble_eq_true rfl⟩)) (fun r_8 hr_8 => ?_)
            subst hr_8
            refine lv_if_eq (tgt := 69) hx hb dX6_well_61 (by decide) (fun c_61 => ?_) (fun c_61 => ?_)
            · skip
              have v_61 : ¬ ((nI 0) ≤ b ∧ b ≤ (nI 3)) := hg_in_f c_61
              refine lv_iconst (v := -1) hx hb dX6_well_69 (by decide) ?_
              have hq : r_well S k b a1 b1 c1 d1 e1 = ((-1), S) := by unfold r_well; rw [if_neg (fun q => v_61 q.2.1)]
              rw [show (S : hg_S) = (r_well S k b a1 b1 c1 d1 e1).2 from by rw [hq]] at hP hD
              exact W.iret (v := (-1)) hx hb hr (fun t ht hW => ⟨⟨_, (), rfl, by rw [hq], ⟨by rw [ht]; exact hP, hD⟩⟩, hS.F ht⟩) hS.2.2 dX6_well_70
            · skip
              have v_61 : ((nI 0) ≤ b ∧ b ≤ (nI 3)) := hg_in_t c_61
              refine lv_iload hx hb dX6_well_64 (lv_at hl 0 rfl) ?_
              refine lv_if_ne (tgt := 71) hx hb dX6_well_66 (by decide) (fun c_66 => absurd (by decide) c_66) (fun c_66 => ?_)
              refine lv_iconst (v := -1) hx hb dX6_well_69 (by decide) ?_
              have hq : r_well S k b a1 b1 c1 d1 e1 = ((-1), S) := by unfold r_well; rw [if_neg (fun q => v_24 q.2.2.2.2.2.1.2)]
              rw [show (S : hg_S) = (r_well S k b a1 b1 c1 d1 e1).2 from by rw [hq]] at hP hD
              exact W.iret (v := (-1)) hx hb hr (fun t ht hW => ⟨⟨_, (), rfl, by rw [hq], ⟨by rw [ht]; exact hP, hD⟩⟩, hS.F ht⟩) hS.2.2 dX6_well_70
        · skip
          refine lv_iload hx hb dX6_well_27 (lv_at hl 6 rfl) ?_
          refine lv_iload hx hb dX6_well_29 (lv_at hl 7 rfl) ?_
          refine lv_icmp_lt (tgt := 43) hx hb dX6_well_31 (by decide) (fun c_31 => ?_) (fun c_31 => ?_)
          · skip
            have v_31 : ¬ e1 ≤ d1 := hg_nle.mpr c_31
            refine lv_iconst (v := nI 0) hx hb dX6_well_43 (by decide) ?_
            refine lv_istore (lv' := [(8, .int (nI 0)), (0, .ref (o 0)), (1, .int k), (2, .int b), (3, .int a1), (4, .int b1), (5, .int c1), (6, .int d1), (7, .int e1)]) hx hb dX6_well_44 hl (by decide) rfl (fun ls hl => ?_)
            refine lv_iload_n hx hb dX6_well_46 rfl (lv_at hl 2 rfl) ?_
            refine lv_iconst (v := nI 0) hx hb dX6_well_47 (by decide) ?_
            refine lv_iconst (v := nI 2) hx hb dX6_well_48 (by decide) ?_
            refine vp_callSi (va_Run.run (va_runS (As := [.int k, .int (nI 0), .int (nI 2)]) (rest := []) ⟨hx, hb, hml, hown, hts⟩ (m_X6_in l k (nI 0) (nI 2)) (va_cwS 3 hts gX6_well_X6_in rfl rfl rfl (by decide +kernel) ⟨Nat.le_of_ble_eq_true rfl, Nat.le_of_ble_eq_true rfl⟩) (h_preS0) rfl rfl hl.1 rfl (lv_room (Nat.le_of_ble_eq_true rfl)) dX6_well_49 ⟨Nat.le_of_ble_eq_true rfl, Nat.le_of_ble_eq_true rfl⟩)) (fun r_9 hr_9 => ?_)
            subst hr_9
            refine lv_if_eq (tgt := 69) hx hb dX6_well_52 (by decide) (fun c_52 => ?_) (fun c_52 => ?_)
            · skip
              have v_52 : ¬ ((nI 0) ≤ k ∧ k ≤ (nI 2)) := hg_in_f c_52
              refine lv_iconst (v := -1) hx hb dX6_well_69 (by decide) ?_
              have hq : r_well S k b a1 b1 c1 d1 e1 = ((-1), S) := by unfold r_well; rw [if_neg (fun q => v_52 q.1)]
              rw [show (S : hg_S) = (r_well S k b a1 b1 c1 d1 e1).2 from by rw [hq]] at hP hD
              exact W.iret (v := (-1)) hx hb hr (fun t ht hW => ⟨⟨_, (), rfl, by rw [hq], ⟨by rw [ht]; exact hP, hD⟩⟩, hS.F ht⟩) hS.2.2 dX6_well_70
            · skip
              have v_52 : ((nI 0) ≤ k ∧ k ≤ (nI 2)) := hg_in_t c_52
              refine lv_iload_n hx hb dX6_well_55 rfl (lv_at hl 3 rfl) ?_
              refine lv_iconst (v := nI 0) hx hb dX6_well_56 (by decide) ?_
              refine lv_iconst (v := nI 3) hx hb dX6_well_57 (by decide) ?_
              refine vp_callSi (va_Run.run (va_runS (As := [.int b, .int (nI 0), .int (nI 3)]) (rest := []) ⟨hx, hb, hml, hown, hts⟩ (m_X6_in l b (nI 0) (nI 3)) (va_cwS 3 hts gX6_well_X6_in rfl rfl rfl (by decide +kernel) ⟨Nat.le_of_ble_eq_true rfl, Nat.le_of_ble_eq_true rfl⟩) (h_preS0) rfl rfl hl.1 rfl (lv_room (Nat.le_of_ble_eq_true rfl)) dX6_well_58 ⟨Nat.le_of_ble_eq_true rfl, Nat.le_of_ble_eq_true rfl⟩)) (fun r_10 hr_10 => ?_)
              subst hr_10
              refine lv_if_eq (tgt := 69) hx hb dX6_well_61 (by decide) (fun c_61 => ?_) (fun c_61 => ?_)
              · skip
                have v_61 : ¬ ((nI 0) ≤ b ∧ b ≤ (nI 3)) := hg_in_f c_61
                refine lv_iconst (v := -1) hx hb dX6_well_69 (by decide) ?_
                have hq : r_well S k b a1 b1 c1 d1 e1 = ((-1), S) := by unfold r_well; rw [if_neg (fun q => v_61 q.2.1)]
                rw [show (S : hg_S) = (r_well S k b a1 b1 c1 d1 e1).2 from by rw [hq]] at hP hD
                exact W.iret (v := (-1)) hx hb hr (fun t ht hW => ⟨⟨_, (), rfl, by rw [hq], ⟨by rw [ht]; exact hP, hD⟩⟩, hS.F ht⟩) hS.2.2 dX6_well_70
              · skip
                have v_61 : ((nI 0) ≤ b ∧ b ≤ (nI 3)) := hg_in_t c_61
                refine lv_iload hx hb dX6_well_64 (lv_at hl 0 rfl) ?_
                refine lv_if_ne (tgt := 71) hx hb dX6_well_66 (by decide) (fun c_66 => absurd (by decide) c_66) (fun c_66 => ?_)
                refine lv_iconst (v := -1) hx hb dX6_well_69 (by decide) ?_
                have hq : r_well S k b a1 b1 c1 d1 e1 = ((-1), S) := by unfold r_well; rw [if_neg (fun q => v_31 q.2.2.2.2.2.2.2)]
                rw [show (S : hg_S) = (r_well S k b a1 b1 c1 d1 e1).2 from by rw [hq]] at hP hD
                exact W.iret (v := (-1)) hx hb hr (fun t ht hW => ⟨⟨_, (), rfl, by rw [hq], ⟨by rw [ht]; exact hP, hD⟩⟩, hS.F ht⟩) hS.2.2 dX6_well_70
          · skip
            refine lv_iload hx hb dX6_well_34 (lv_at hl 7 rfl) ?_
            refine lv_if_lt (tgt := 43) hx hb dX6_well_36 (by decide) (fun c_36 => ?_) (fun c_36 => ?_)
            · skip
              have v_36 : ¬ nI 0 ≤ e1 := fun h => hg_nle.mpr c_36 (nI_0 ▸ h)
              refine lv_iconst (v := nI 0) hx hb dX6_well_43 (by decide) ?_
              refine lv_istore (lv' := [(8, .int (nI 0)), (0, .ref (o 0)), (1, .int k), (2, .int b), (3, .int a1), (4, .int b1), (5, .int c1), (6, .int d1), (7, .int e1)]) hx hb dX6_well_44 hl (by decide) rfl (fun ls hl => ?_)
              refine lv_iload_n hx hb dX6_well_46 rfl (lv_at hl 2 rfl) ?_
              refine lv_iconst (v := nI 0) hx hb dX6_well_47 (by decide) ?_
              refine lv_iconst (v := nI 2) hx hb dX6_well_48 (by decide) ?_
              refine vp_callSi (va_Run.run (va_runS (As := [.int k, .int (nI 0), .int (nI 2)]) (rest := []) ⟨hx, hb, hml, hown, hts⟩ (m_X6_in l k (nI 0) (nI 2)) (va_cwS 3 hts gX6_well_X6_in rfl rfl rfl (by decide +kernel) ⟨Nat.le_of_ble_eq_true rfl, Nat.le_of_ble_eq_true rfl⟩) (h_preS0) rfl rfl hl.1 rfl (lv_room (Nat.le_of_ble_eq_true rfl)) dX6_well_49 ⟨Nat.le_of_ble_eq_true rfl, Nat.le_of_ble_eq_true rfl⟩)) (fun r_11 hr_11 => ?_)
              subst hr_11
              refine lv_if_eq (tgt := 69) hx hb dX6_well_52 (by decide) (fun c_52 => ?_) (fun c_52 => ?_)
              · skip
                have v_52 : ¬ ((nI 0) ≤ k ∧ k ≤ (nI 2)) := hg_in_f c_52
                refine lv_iconst (v := -1) hx hb dX6_well_69 (by decide) ?_
                have hq : r_well S k b a1 b1 c1 d1 e1 = ((-1), S) := by unfold r_well; rw [if_neg (fun q => v_52 q.1)]
                rw [show (S : hg_S) = (r_well S k b a1 b1 c1 d1 e1).2 from by rw [hq]] at hP hD
                exact W.iret (v := (-1)) hx hb hr (fun t ht hW => ⟨⟨_, (), rfl, by rw [hq], ⟨by rw [ht]; exact hP, hD⟩⟩, hS.F ht⟩) hS.2.2 dX6_well_70
              · skip
                have v_52 : ((nI 0) ≤ k ∧ k ≤ (nI 2)) := hg_in_t c_52
                refine lv_iload_n hx hb dX6_well_55 rfl (lv_at hl 3 rfl) ?_
                refine lv_iconst (v := nI 0) hx hb dX6_well_56 (by decide) ?_
                refine lv_iconst (v := nI 3) hx hb dX6_well_57 (by decide) ?_
                refine vp_callSi (va_Run.run (va_runS (As := [.int b, .int (nI 0), .int (nI 3)]) (rest := []) ⟨hx, hb, hml, hown, hts⟩ (m_X6_in l b (nI 0) (nI 3)) (va_cwS 3 hts gX6_well_X6_in rfl rfl rfl (by decide +kernel) ⟨Nat.le_of_ble_eq_true rfl, Nat.le_of_ble_eq_true rfl⟩) (h_preS0) rfl rfl hl.1 rfl (lv_room (Nat.le_of_ble_eq_true rfl)) dX6_well_58 ⟨Nat.le_of_ble_eq_true rfl, Nat.le_of_ble_eq_true rfl⟩)) (fun r_12 hr_12 => ?_)
                subst hr_12
                refine lv_if_eq (tgt := 69) hx hb dX6_well_61 (by decide) (fun c_61 => ?_) (fun c_61 => ?_)
                · skip
                  have v_61 : ¬ ((nI 0) ≤ b ∧ b ≤ (nI 3)) := hg_in_f c_61
                  refine lv_iconst (v := -1) hx hb dX6_well_69 (by decide) ?_
                  have hq : r_well S k b a1 b1 c1 d1 e1 = ((-1), S) := by unfold r_well; rw [if_neg (fun q => v_61 q.2.1)]
                  rw [show (S : hg_S) = (r_well S k b a1 b1 c1 d1 e1).2 from by rw [hq]] at hP hD
                  exact W.iret (v := (-1)) hx hb hr (fun t ht hW => ⟨⟨_, (), rfl, by rw [hq], ⟨by rw [ht]; exact hP, hD⟩⟩, hS.F ht⟩) hS.2.2 dX6_well_70
                · skip
                  have v_61 : ((nI 0) ≤ b ∧ b ≤ (nI 3)) := hg_in_t c_61
                  refine lv_iload hx hb dX6_well_64 (lv_at hl 0 rfl) ?_
                  refine lv_if_ne (tgt := 71) hx hb dX6_well_66 (by decide) (fun c_66 => absurd (by decide) c_66) (fun c_66 => ?_)
                  refine lv_iconst (v := -1) hx hb dX6_well_69 (by decide) ?_
                  have hq : r_well S k b a1 b1 c1 d1 e1 = ((-1), S) := by unfold r_well; rw [if_neg (fun q => v_36 q.2.2.2.2.2.2.1)]
                  rw [show (S : hg_S) = (r_well S k b a1 b1 c1 d1 e1).2 from by rw [hq]] at hP hD
                  exact W.iret (v := (-1)) hx hb hr (fun t ht hW => ⟨⟨_, (), rfl, by rw [hq], ⟨by rw [ht]; exact hP, hD⟩⟩, hS.F ht⟩) hS.2.2 dX6_well_70
            · skip
              have hch : ok_in a1 0 200 ∧ (nI 0 ≤ b1 ∧ b1 ≤ a1) ∧ (nI 0 ≤ c1 ∧ c1 ≤ b1) ∧ (nI 0 ≤ d1 ∧ d1 ≤ c1) ∧ (nI 0 ≤ e1 ∧ e1 ≤ d1) := by simp only [ok_in, hg_le, hg_lt, i_0, i_z, i_200] at c_4 c_10 c_17 c_24 c_31 c_36 ⊢; omega
              refine lv_iconst (v := nI 1) hx hb dX6_well_39 (by decide) ?_
              refine lv_goto (tgt := 44) hx hb dX6_well_40 (by decide) ?_
              refine lv_istore (lv' := [(8, .int (nI 1)), (0, .ref (o 0)), (1, .int k), (2, .int b), (3, .int a1), (4, .int b1), (5, .int c1), (6, .int d1), (7, .int e1)]) hx hb dX6_well_44 hl (by decide) rfl (fun ls hl => ?_)
              refine lv_iload_n hx hb dX6_well_46 rfl (lv_at hl 2 rfl) ?_
              refine lv_iconst (v := nI 0) hx hb dX6_well_47 (by decide) ?_
              refine lv_iconst (v := nI 2) hx hb dX6_well_48 (by decide) ?_
              refine vp_callSi (va_Run.run (va_runS (As := [.int k, .int (nI 0), .int (nI 2)]) (rest := []) ⟨hx, hb, hml, hown, hts⟩ (m_X6_in l k (nI 0) (nI 2)) (va_cwS 3 hts gX6_well_X6_in rfl rfl rfl (by decide +kernel) ⟨Nat.le_of_ble_eq_true rfl, Nat.le_of_ble_eq_true rfl⟩) (h_preS0) rfl rfl hl.1 rfl (lv_room (Nat.le_of_ble_eq_true rfl)) dX6_well_49 ⟨Nat.le_of_ble_eq_true rfl, Nat.le_of_ble_eq_true rfl⟩)) (fun r_13 hr_13 => ?_)
              subst hr_13
              refine lv_if_eq (tgt := 69) hx hb dX6_well_52 (by decide) (fun c_52 => ?_) (fun c_52 => ?_)
              · skip
                have v_52 : ¬ ((nI 0) ≤ k ∧ k ≤ (nI 2)) := hg_in_f c_52
                refine lv_iconst (v := -1) hx hb dX6_well_69 (by decide) ?_
                have hq : r_well S k b a1 b1 c1 d1 e1 = ((-1), S) := by unfold r_well; rw [if_neg (fun q => v_52 q.1)]
                rw [show (S : hg_S) = (r_well S k b a1 b1 c1 d1 e1).2 from by rw [hq]] at hP hD
                exact W.iret (v := (-1)) hx hb hr (fun t ht hW => ⟨⟨_, (), rfl, by rw [hq], ⟨by rw [ht]; exact hP, hD⟩⟩, hS.F ht⟩) hS.2.2 dX6_well_70
              · skip
                have v_52 : ((nI 0) ≤ k ∧ k ≤ (nI 2)) := hg_in_t c_52
                refine lv_iload_n hx hb dX6_well_55 rfl (lv_at hl 3 rfl) ?_
                refine lv_iconst (v := nI 0) hx hb dX6_well_56 (by decide) ?_
                refine lv_iconst (v := nI 3) hx hb dX6_well_57 (by decide) ?_
                refine vp_callSi (va_Run.run (va_runS (As := [.int b, .int (nI 0), .int (nI 3)]) (rest := []) ⟨hx, hb, hml, hown, hts⟩ (m_X6_in l b (nI 0) (nI 3)) (va_cwS 3 hts gX6_well_X6_in rfl rfl rfl (by decide +kernel) ⟨Nat.le_of_ble_eq_true rfl, Nat.le_of_ble_eq_true rfl⟩) (h_preS0) rfl rfl hl.1 rfl (lv_room (Nat.le_of_ble_eq_true rfl)) dX6_well_58 ⟨Nat.le_of_ble_eq_true rfl, Nat.le_of_ble_eq_true rfl⟩)) (fun r_14 hr_14 => ?_)
                subst hr_14
                refine lv_if_eq (tgt := 69) hx hb dX6_well_61 (by decide) (fun c_61 => ?_) (fun c_61 => ?_)
                · skip
                  have v_61 : ¬ ((nI 0) ≤ b ∧ b ≤ (nI 3)) := hg_in_f c_61
                  refine lv_iconst (v := -1) hx hb dX6_well_69 (by decide) ?_
                  have hq : r_well S k b a1 b1 c1 d1 e1 = ((-1), S) := by unfold r_well; rw [if_neg (fun q => v_61 q.2.1)]
                  rw [show (S : hg_S) = (r_well S k b a1 b1 c1 d1 e1).2 from by rw [hq]] at hP hD
                  exact W.iret (v := (-1)) hx hb hr (fun t ht hW => ⟨⟨_, (), rfl, by rw [hq], ⟨by rw [ht]; exact hP, hD⟩⟩, hS.F ht⟩) hS.2.2 dX6_well_70
                · skip
                  have v_61 : ((nI 0) ≤ b ∧ b ≤ (nI 3)) := hg_in_t c_61
                  refine lv_iload hx hb dX6_well_64 (lv_at hl 0 rfl) ?_
                  refine lv_if_ne (tgt := 71) hx hb dX6_well_66 (by decide) (fun c_66 => ?_) (fun c_66 => absurd c_66 (by decide))
                  refine lv_aload_n hx hb dX6_well_71 rfl (lv_at hl 1 rfl) ?_
                  refine va_get (C := RX6) (T := TX6) (N := 27) (v := .int (nI (hg_n S 0))) hx hb hts hi6 hown hK hP 0 rfl rfl 0 (by decide) (hts (.fieldLink RX6 72 "HotGroundModel" "wells" "I") (by decide +kernel)) (fun _ h9 => h9) rfl dX6_well_72 ?_
                  refine lv_bipush (v := nI 8) hx hb dX6_well_75 (by decide) ?_
                  refine lv_icmp_ne (tgt := 83) hx hb dX6_well_77 (by decide) (fun c_77 => ?_) (fun c_77 => ?_)
                  · skip
                    have hc : hg_n S 0 < 8 := by have : ¬ hg_n S 0 = 8 := fun h => c_77 ((nI_eq (by omega) (by omega)).mpr h); omega
                    refine lv_aload_n hx hb dX6_well_83 rfl (lv_at hl 1 rfl) ?_
                    refine va_get (C := RX6) (T := TX6) (N := 27) (v := .ref (o 1)) hx hb hts hi6 hown hK hP 0 rfl rfl 1 (by decide) (hts (.fieldLink RX6 7 "HotGroundModel" "kind" "[I") (by decide +kernel)) (fun _ h9 => h9) rfl dX6_well_84 ?_
                    refine lv_aload_n hx hb dX6_well_87 rfl (lv_at hl 1 rfl) ?_
                    refine va_get (C := RX6) (T := TX6) (N := 27) (v := .int (nI (hg_n S 0))) hx hb hts hi6 hown hK hP 0 rfl rfl 0 (by decide) (hts (.fieldLink RX6 72 "HotGroundModel" "wells" "I") (by decide +kernel)) (fun _ h9 => h9) rfl dX6_well_88 ?_
                    refine lv_iload_n hx hb dX6_well_91 rfl (lv_at hl 2 rfl) ?_
                    refine h_iast (f := hg_i S 0) (ws' := mW o cI cJ cZ (hg_si S 0 (upd (hg_i S 0) (hg_n S 0) k))) hx hb hK hP hD hS 1 0 rfl rfl (hg_n S 0) (rfl) (by omega) (by decide) rfl dX6_well_92 (fun H locs hP hD hS => ?_)
                    refine lv_aload_n hx hb dX6_well_93 rfl (lv_at hl 1 rfl) ?_
                    refine va_get (C := RX6) (T := TX6) (N := 27) (v := .ref (o 2)) hx hb hts hi6 hown hK hP 0 rfl rfl 2 (by decide) (hts (.fieldLink RX6 13 "HotGroundModel" "inBox" "[I") (by decide +kernel)) (fun _ h9 => h9) rfl dX6_well_94 ?_
                    refine lv_aload_n hx hb dX6_well_97 rfl (lv_at hl 1 rfl) ?_
                    refine va_get (C := RX6) (T := TX6) (N := 27) (v := .int (nI (hg_n S 0))) hx hb hts hi6 hown hK hP 0 rfl rfl 0 (by decide) (hts (.fieldLink RX6 72 "HotGroundModel" "wells" "I") (by decide +kernel)) (fun _ h9 => h9) rfl dX6_well_98 ?_
                    refine lv_iload_n hx hb dX6_well_101 rfl (lv_at hl 3 rfl) ?_
                    refine h_iast (f := hg_i S 1) (ws' := mW o cI cJ cZ (hg_si (hg_si S 0 (upd (hg_i S 0) (hg_n S 0) k)) 1 (upd (hg_i S 1) (hg_n S 0) b))) hx hb hK hP hD hS 2 0 rfl rfl (hg_n S 0) (rfl) (by omega) (by decide) rfl dX6_well_102 (fun H locs hP hD hS => ?_)
                    refine lv_aload_n hx hb dX6_well_103 rfl (lv_at hl 1 rfl) ?_
                    refine va_get (C := RX6) (T := TX6) (N := 27) (v := .ref (o 3)) hx hb hts hi6 hown hK hP 0 rfl rfl 3 (by decide) (hts (.fieldLink RX6 16 "HotGroundModel" "age" "[I") (by decide +kernel)) (fun _ h9 => h9) rfl dX6_well_104 ?_
                    refine lv_aload_n hx hb dX6_well_107 rfl (lv_at hl 1 rfl) ?_
                    refine va_get (C := RX6) (T := TX6) (N := 27) (v := .int (nI (hg_n S 0))) hx hb hts hi6 hown hK hP 0 rfl rfl 0 (by decide) (hts (.fieldLink RX6 72 "HotGroundModel" "wells" "I") (by decide +kernel)) (fun _ h9 => h9) rfl dX6_well_108 ?_
                    refine lv_iconst (v := nI 0) hx hb dX6_well_111 (by decide) ?_
                    refine h_iast (f := hg_i S 2) (ws' := mW o cI cJ cZ (hg_si (hg_si (hg_si S 0 (upd (hg_i S 0) (hg_n S 0) k)) 1 (upd (hg_i S 1) (hg_n S 0) b)) 2 (upd (hg_i S 2) (hg_n S 0) (nI 0)))) hx hb hK hP hD hS 3 0 rfl rfl (hg_n S 0) (rfl) (by omega) (by decide) rfl dX6_well_112 (fun H locs hP hD hS => ?_)
                    refine lv_aload_n hx hb dX6_well_113 rfl (lv_at hl 1 rfl) ?_
                    refine va_get (C := RX6) (T := TX6) (N := 27) (v := .ref (o 4)) hx hb hts hi6 hown hK hP 0 rfl rfl 4 (by decide) (hts (.fieldLink RX6 19 "HotGroundModel" "isOpen" "[Z") (by decide +kernel)) (fun _ h9 => h9) rfl dX6_well_114 ?_
                    refine lv_aload_n hx hb dX6_well_117 rfl (lv_at hl 1 rfl) ?_
                    refine va_get (C := RX6) (T := TX6) (N := 27) (v := .int (nI (hg_n S 0))) hx hb hts hi6 hown hK hP 0 rfl rfl 0 (by decide) (hts (.fieldLink RX6 72 "HotGroundModel" "wells" "I") (by decide +kernel)) (fun _ h9 => h9) rfl dX6_well_118 ?_
                    refine lv_iconst (v := nI 0) hx hb dX6_well_121 (by decide) ?_
                    refine h_zast (f := hg_i S 3) (ws' := mW o cI cJ cZ (hg_si (hg_si (hg_si (hg_si S 0 (upd (hg_i S 0) (hg_n S 0) k)) 1 (upd (hg_i S 1) (hg_n S 0) b)) 2 (upd (hg_i S 2) (hg_n S 0) (nI 0))) 3 (upd (hg_i S 3) (hg_n S 0) (nI 0)))) hx hb hK hP hD hS 4 2 rfl rfl (hg_n S 0) (rfl) (by omega) (by decide) (by decide) rfl dX6_well_122 (fun H locs hP hD hS => ?_)
                    refine lv_aload_n hx hb dX6_well_123 rfl (lv_at hl 1 rfl) ?_
                    refine va_get (C := RX6) (T := TX6) (N := 27) (v := .ref (o 5)) hx hb hts hi6 hown hK hP 0 rfl rfl 5 (by decide) (hts (.fieldLink RX6 23 "HotGroundModel" "corner" "[I") (by decide +kernel)) (fun _ h9 => h9) rfl dX6_well_124 ?_
                    refine lv_iconst (v := nI 5) hx hb dX6_well_127 (by decide) ?_
                    refine lv_aload_n hx hb dX6_well_128 rfl (lv_at hl 1 rfl) ?_
                    refine va_get (C := RX6) (T := TX6) (N := 27) (v := .int (nI (hg_n S 0))) hx hb hts hi6 hown hK hP 0 rfl rfl 0 (by decide) (hts (.fieldLink RX6 72 "HotGroundModel" "wells" "I") (by decide +kernel)) (fun _ h9 => h9) rfl dX6_well_129 ?_
                    refine lv_imul hx hb dX6_well_132 ?_
                    refine h_topi (y := nI (5 * (hg_n S 0))) (pk_mul _ _) ?_
                    refine lv_iload_n hx hb dX6_well_133 rfl (lv_at hl 4 rfl) ?_
                    refine h_iast (f := hg_i S 4) (ws' := mW o cI cJ cZ (hg_si (hg_si (hg_si (hg_si (hg_si S 0 (upd (hg_i S 0) (hg_n S 0) k)) 1 (upd (hg_i S 1) (hg_n S 0) b)) 2 (upd (hg_i S 2) (hg_n S 0) (nI 0))) 3 (upd (hg_i S 3) (hg_n S 0) (nI 0))) 4 (upd (hg_i S 4) (5 * (hg_n S 0)) a1))) hx hb hK hP hD hS 5 0 rfl rfl (5 * (hg_n S 0)) (rfl) (by omega) (by decide) rfl dX6_well_134 (fun H locs hP hD hS => ?_)
                    refine lv_aload_n hx hb dX6_well_135 rfl (lv_at hl 1 rfl) ?_
                    refine va_get (C := RX6) (T := TX6) (N := 27) (v := .ref (o 5)) hx hb hts hi6 hown hK hP 0 rfl rfl 5 (by decide) (hts (.fieldLink RX6 23 "HotGroundModel" "corner" "[I") (by decide +kernel)) (fun _ h9 => h9) rfl dX6_well_136 ?_
                    refine lv_iconst (v := nI 5) hx hb dX6_well_139 (by decide) ?_
                    refine lv_aload_n hx hb dX6_well_140 rfl (lv_at hl 1 rfl) ?_
                    refine va_get (C := RX6) (T := TX6) (N := 27) (v := .int (nI (hg_n S 0))) hx hb hts hi6 hown hK hP 0 rfl rfl 0 (by decide) (hts (.fieldLink RX6 72 "HotGroundModel" "wells" "I") (by decide +kernel)) (fun _ h9 => h9) rfl dX6_well_141 ?_
                    refine lv_imul hx hb dX6_well_144 ?_
                    refine h_topi (y := nI (5 * (hg_n S 0))) (pk_mul _ _) ?_
                    refine lv_iconst (v := nI 1) hx hb dX6_well_145 (by decide) ?_
                    refine lv_iadd hx hb dX6_well_146 ?_
                    refine h_topi (y := nI ((5 * (hg_n S 0)) + 1)) (nI_add _ _) ?_
                    refine lv_iload hx hb dX6_well_147 (lv_at hl 5 rfl) ?_
                    refine h_iast (f := upd (hg_i S 4) (5 * (hg_n S 0)) a1) (ws' := mW o cI cJ cZ (hg_si (hg_si (hg_si (hg_si (hg_si S 0 (upd (hg_i S 0) (hg_n S 0) k)) 1 (upd (hg_i S 1) (hg_n S 0) b)) 2 (upd (hg_i S 2) (hg_n S 0) (nI 0))) 3 (upd (hg_i S 3) (hg_n S 0) (nI 0))) 4 (upd (upd (hg_i S 4) (5 * (hg_n S 0)) a1) ((5 * (hg_n S 0)) + 1) b1))) hx hb hK hP hD hS 5 0 rfl rfl ((5 * (hg_n S 0)) + 1) (rfl) (by omega) (by decide) rfl dX6_well_149 (fun H locs hP hD hS => ?_)
                    refine lv_aload_n hx hb dX6_well_150 rfl (lv_at hl 1 rfl) ?_
                    refine va_get (C := RX6) (T := TX6) (N := 27) (v := .ref (o 5)) hx hb hts hi6 hown hK hP 0 rfl rfl 5 (by decide) (hts (.fieldLink RX6 23 "HotGroundModel" "corner" "[I") (by decide +kernel)) (fun _ h9 => h9) rfl dX6_well_151 ?_
                    refine lv_iconst (v := nI 5) hx hb dX6_well_154 (by decide) ?_
                    refine lv_aload_n hx hb dX6_well_155 rfl (lv_at hl 1 rfl) ?_
                    refine va_get (C := RX6) (T := TX6) (N := 27) (v := .int (nI (hg_n S 0))) hx hb hts hi6 hown hK hP 0 rfl rfl 0 (by decide) (hts (.fieldLink RX6 72 "HotGroundModel" "wells" "I") (by decide +kernel)) (fun _ h9 => h9) rfl dX6_well_156 ?_
                    refine lv_imul hx hb dX6_well_159 ?_
                    refine h_topi (y := nI (5 * (hg_n S 0))) (pk_mul _ _) ?_
                    refine lv_iconst (v := nI 2) hx hb dX6_well_160 (by decide) ?_
                    refine lv_iadd hx hb dX6_well_161 ?_
                    refine h_topi (y := nI ((5 * (hg_n S 0)) + 2)) (nI_add _ _) ?_
                    refine lv_iload hx hb dX6_well_162 (lv_at hl 6 rfl) ?_
                    refine h_iast (f := upd (upd (hg_i S 4) (5 * (hg_n S 0)) a1) ((5 * (hg_n S 0)) + 1) b1) (ws' := mW o cI cJ cZ (hg_si (hg_si (hg_si (hg_si (hg_si S 0 (upd (hg_i S 0) (hg_n S 0) k)) 1 (upd (hg_i S 1) (hg_n S 0) b)) 2 (upd (hg_i S 2) (hg_n S 0) (nI 0))) 3 (upd (hg_i S 3) (hg_n S 0) (nI 0))) 4 (upd (upd (upd (hg_i S 4) (5 * (hg_n S 0)) a1) ((5 * (hg_n S 0)) + 1) b1) ((5 * (hg_n S 0)) + 2) c1))) hx hb hK hP hD hS 5 0 rfl rfl ((5 * (hg_n S 0)) + 2) (rfl) (by omega) (by decide) rfl dX6_well_164 (fun H locs hP hD hS => ?_)
                    refine lv_aload_n hx hb dX6_well_165 rfl (lv_at hl 1 rfl) ?_
                    refine va_get (C := RX6) (T := TX6) (N := 27) (v := .ref (o 5)) hx hb hts hi6 hown hK hP 0 rfl rfl 5 (by decide) (hts (.fieldLink RX6 23 "HotGroundModel" "corner" "[I") (by decide +kernel)) (fun _ h9 => h9) rfl dX6_well_166 ?_
                    refine lv_iconst (v := nI 5) hx hb dX6_well_169 (by decide) ?_
                    refine lv_aload_n hx hb dX6_well_170 rfl (lv_at hl 1 rfl) ?_
                    refine va_get (C := RX6) (T := TX6) (N := 27) (v := .int (nI (hg_n S 0))) hx hb hts hi6 hown hK hP 0 rfl rfl 0 (by decide) (hts (.fieldLink RX6 72 "HotGroundModel" "wells" "I") (by decide +kernel)) (fun _ h9 => h9) rfl dX6_well_171 ?_
                    refine lv_imul hx hb dX6_well_174 ?_
                    refine h_topi (y := nI (5 * (hg_n S 0))) (pk_mul _ _) ?_
                    refine lv_iconst (v := nI 3) hx hb dX6_well_175 (by decide) ?_
                    refine lv_iadd hx hb dX6_well_176 ?_
                    refine h_topi (y := nI ((5 * (hg_n S 0)) + 3)) (nI_add _ _) ?_
                    refine lv_iload hx hb dX6_well_177 (lv_at hl 7 rfl) ?_
                    refine h_iast (f := upd (upd (upd (hg_i S 4) (5 * (hg_n S 0)) a1) ((5 * (hg_n S 0)) + 1) b1) ((5 * (hg_n S 0)) + 2) c1) (ws' := mW o cI cJ cZ (hg_si (hg_si (hg_si (hg_si (hg_si S 0 (upd (hg_i S 0) (hg_n S 0) k)) 1 (upd (hg_i S 1) (hg_n S 0) b)) 2 (upd (hg_i S 2) (hg_n S 0) (nI 0))) 3 (upd (hg_i S 3) (hg_n S 0) (nI 0))) 4 (upd (upd (upd (upd (hg_i S 4) (5 * (hg_n S 0)) a1) ((5 * (hg_n S 0)) + 1) b1) ((5 * (hg_n S 0)) + 2) c1) ((5 * (hg_n S 0)) + 3) d1))) hx hb hK hP hD hS 5 0 rfl rfl ((5 * (hg_n S 0)) + 3) (rfl) (by omega) (by decide) rfl dX6_well_179 (fun H locs hP hD hS => ?_)
                    refine lv_aload_n hx hb dX6_well_180 rfl (lv_at hl 1 rfl) ?_
                    refine va_get (C := RX6) (T := TX6) (N := 27) (v := .ref (o 5)) hx hb hts hi6 hown hK hP 0 rfl rfl 5 (by decide) (hts (.fieldLink RX6 23 "HotGroundModel" "corner" "[I") (by decide +kernel)) (fun _ h9 => h9) rfl dX6_well_181 ?_
                    refine lv_iconst (v := nI 5) hx hb dX6_well_184 (by decide) ?_
                    refine lv_aload_n hx hb dX6_well_185 rfl (lv_at hl 1 rfl) ?_
                    refine va_get (C := RX6) (T := TX6) (N := 27) (v := .int (nI (hg_n S 0))) hx hb hts hi6 hown hK hP 0 rfl rfl 0 (by decide) (hts (.fieldLink RX6 72 "HotGroundModel" "wells" "I") (by decide +kernel)) (fun _ h9 => h9) rfl dX6_well_186 ?_
                    refine lv_imul hx hb dX6_well_189 ?_
                    refine h_topi (y := nI (5 * (hg_n S 0))) (pk_mul _ _) ?_
                    refine lv_iconst (v := nI 4) hx hb dX6_well_190 (by decide) ?_
                    refine lv_iadd hx hb dX6_well_191 ?_
                    refine h_topi (y := nI ((5 * (hg_n S 0)) + 4)) (nI_add _ _) ?_
                    refine lv_iload hx hb dX6_well_192 (lv_at hl 8 rfl) ?_
                    refine h_iast (f := upd (upd (upd (upd (hg_i S 4) (5 * (hg_n S 0)) a1) ((5 * (hg_n S 0)) + 1) b1) ((5 * (hg_n S 0)) + 2) c1) ((5 * (hg_n S 0)) + 3) d1) (ws' := mW o cI cJ cZ (hg_si (hg_si (hg_si (hg_si (hg_si S 0 (upd (hg_i S 0) (hg_n S 0) k)) 1 (upd (hg_i S 1) (hg_n S 0) b)) 2 (upd (hg_i S 2) (hg_n S 0) (nI 0))) 3 (upd (hg_i S 3) (hg_n S 0) (nI 0))) 4 (upd (upd (upd (upd (upd (hg_i S 4) (5 * (hg_n S 0)) a1) ((5 * (hg_n S 0)) + 1) b1) ((5 * (hg_n S 0)) + 2) c1) ((5 * (hg_n S 0)) + 3) d1) ((5 * (hg_n S 0)) + 4) e1))) hx hb hK hP hD hS 5 0 rfl rfl ((5 * (hg_n S 0)) + 4) (rfl) (by omega) (by decide) rfl dX6_well_194 (fun H locs hP hD hS => ?_)
                    refine lv_aload_n hx hb dX6_well_195 rfl (lv_at hl 1 rfl) ?_
                    refine lv_dup hx hb dX6_well_196 rfl ?_
                    refine va_get (C := RX6) (T := TX6) (N := 27) (v := .int (nI (hg_n S 0))) hx hb hts hi6 hown hK hP 0 rfl rfl 0 (by decide) (hts (.fieldLink RX6 72 "HotGroundModel" "wells" "I") (by decide +kernel)) (fun _ h9 => h9) rfl dX6_well_197 ?_
                    refine lv_iconst (v := nI 1) hx hb dX6_well_200 (by decide) ?_
                    refine lv_iadd hx hb dX6_well_201 ?_
                    refine h_topi (y := nI ((hg_n S 0) + 1)) (nI_add _ _) ?_
                    refine h_put (C := RX6) (T := TX6) (N := 27) (v := .int (nI ((hg_n S 0) + 1))) (ty := .int) (ws' := mW o cI cJ cZ (hg_sn (hg_si (hg_si (hg_si (hg_si (hg_si S 0 (upd (hg_i S 0) (hg_n S 0) k)) 1 (upd (hg_i S 1) (hg_n S 0) b)) 2 (upd (hg_i S 2) (hg_n S 0) (nI 0))) 3 (upd (hg_i S 3) (hg_n S 0) (nI 0))) 4 (upd (upd (upd (upd (upd (hg_i S 4) (5 * (hg_n S 0)) a1) ((5 * (hg_n S 0)) + 1) b1) ((5 * (hg_n S 0)) + 2) c1) ((5 * (hg_n S 0)) + 3) d1) ((5 * (hg_n S 0)) + 4) e1)) 0 ((hg_n S 0) + 1))) hx hb hts hi6 tyX6 tyX6_ok nmX6 hown hK hP hD hS 0 rfl rfl 0 (by decide) (hts (.fieldLink RX6 72 "HotGroundModel" "wells" "I") (by decide +kernel)) (fun _ h9 => h9) rfl (by decide +kernel) rfl rfl (Nat.le_of_ble_eq_true rfl) rfl dX6_well_202 (fun H locs hP hD hS => ?_)
                    refine lv_aload_n hx hb dX6_well_205 rfl (lv_at hl 1 rfl) ?_
                    refine va_get (C := RX6) (T := TX6) (N := 27) (v := .int (nI ((hg_n S 0) + 1))) hx hb hts hi6 hown hK hP 0 rfl rfl 0 (by decide) (hts (.fieldLink RX6 72 "HotGroundModel" "wells" "I") (by decide +kernel)) (fun _ h9 => h9) rfl dX6_well_206 ?_
                    refine lv_iconst (v := nI 1) hx hb dX6_well_209 (by decide) ?_
                    refine lv_isub hx hb dX6_well_210 ?_
                    refine h_topi (y := nI (((hg_n S 0) + 1) - 1)) (pk_sub (by omega)) ?_
                    have hsw := s_well_m (k := k) (b := b) (a1 := a1) (b1 := b1) (c1 := c1) (d1 := d1) (e1 := e1) (h2 hc) (h3 hc)
                    rw [show (hg_sn (hg_si (hg_si (hg_si (hg_si (hg_si S 0 (upd (hg_i S 0) (hg_n S 0) k)) 1 (upd (hg_i S 1) (hg_n S 0) b)) 2 (upd (hg_i S 2) (hg_n S 0) (nI 0))) 3 (upd (hg_i S 3) (hg_n S 0) (nI 0))) 4 (upd (upd (upd (upd (upd (hg_i S 4) (5 * (hg_n S 0)) a1) ((5 * (hg_n S 0)) + 1) b1) ((5 * (hg_n S 0)) + 2) c1) ((5 * (hg_n S 0)) + 3) d1) ((5 * (hg_n S 0)) + 4) e1)) 0 ((hg_n S 0) + 1) : hg_S) = s_well S k b a1 b1 c1 d1 e1 from hsw] at hP hD
                    have hq : r_well S k b a1 b1 c1 d1 e1 = (nI (((hg_n S 0) + 1) - 1), s_well S k b a1 b1 c1 d1 e1) := by unfold r_well; rw [if_pos ⟨v_52, v_61, hch⟩, if_pos hc]; rfl
                    rw [show (s_well S k b a1 b1 c1 d1 e1 : hg_S) = (r_well S k b a1 b1 c1 d1 e1).2 from by rw [hq]] at hP hD
                    exact W.iret (v := nI (((hg_n S 0) + 1) - 1)) hx hb hr (fun t ht hW => ⟨⟨_, (), rfl, by rw [hq], ⟨by rw [ht]; exact hP, hD⟩⟩, hS.F ht⟩) hS.2.2 dX6_well_211
                  · skip
                    have hc : ¬ hg_n S 0 < 8 := by have := (nI_eq (by omega) (by omega)).mp c_77; omega
                    refine lv_bipush (v := -3) hx hb dX6_well_80 (by decide) ?_
                    have hq : r_well S k b a1 b1 c1 d1 e1 = ((-3), S) := by unfold r_well; rw [if_pos ⟨v_52, v_61, hch⟩, if_neg hc]
                    rw [show (S : hg_S) = (r_well S k b a1 b1 c1 d1 e1).2 from by rw [hq]] at hP hD
                    exact W.iret (v := (-3)) hx hb hr (fun t ht hW => ⟨⟨_, (), rfl, by rw [hq], ⟨by rw [ht]; exact hP, hD⟩⟩, hS.F ht⟩) hS.2.2 dX6_well_82
set_option maxHeartbeats 4000000 in
set_option maxRecDepth 100000 in
/-- open -/
theorem m_X6_open (l : Launch) (D : va_G) (o : Nat → Nat) (cI cJ cZ : ClassId) (S : hg_S) (sz : Nat) (h0 : hg_n S 0 ≤ 8) (w x : Int32) (hx01 : vp_nar .boolean x = x)  : Met l yX6_open wsX6_open ({ frames := 2, cells := 0, slots := 0, locals := 43 }) (va_Pc [.ref (o 0), .int w, .int x] (hg_Wr D (mW o cI cJ cZ S) (hg_ty cI cJ cZ) sz)) (va_Qi (fun (r : Int32) (_ : Unit) => r = (r_open S w x).1) (fun _ t => hg_At D (mW o cI cJ cZ ((r_open S w x).2)) (va_A (mW o cI cJ cZ S) sz) t) (va_A (mW o cI cJ cZ S) sz)) 0 0 (va_A (mW o cI cJ cZ S) sz) := by
  refine h_start (cc := cX6_open) (maxL := 4) (ret := (some .int)) (by decide) rfl (Nat.le_of_ble_eq_true rfl) ?_
  intro pg ev s mi args below meth cd ls hx hb hr hts hown hlocks hml hnm hpic hl
  obtain ⟨hsz, hP, hK, hD0⟩ := hpic
  subst hsz
  have hD := hD0.self (sz := s.heap.size)
  generalize hAe : va_A (mW o cI cJ cZ S) s.heap.size = A at hD ⊢
  have hA : ∀ q : Nat, s.heap.size ≤ q → A q := fun q h => by rw [← hAe]; exact Or.inr h
  have hS : va_S A s.heap s.heap [] := va_S.rf
  have hi6 : ∀ w ∈ u_ws RX6 TX6 27, w ∈ wsX6_open := by decide +kernel
  have hl : lv_has ls 4 [(0, .ref (o 0)), (1, .int w), (2, .int x)] := hl
  refine lv_aload_n hx hb dX6_open_0 rfl (lv_at hl 0 rfl) ?_
  refine lv_iload_n hx hb dX6_open_1 rfl (lv_at hl 1 rfl) ?_
  refine vp_callSi (va_Run.run (va_runV (As := [.int w]) (rest := []) ⟨hx, hb, hml, hown, hts⟩ (m_X6_isWell l D o cI cJ cZ S w) (cwV 1 hts gX6_open_X6_isWell rfl rfl rfl (by decide +kernel) ⟨Nat.le_of_ble_eq_true rfl, Nat.le_of_ble_eq_true rfl⟩) (h_preR hK hP 0 rfl rfl rfl) rfl rfl hl.1 rfl (lv_room (Nat.le_of_ble_eq_true rfl)) dX6_open_2 ⟨Nat.le_of_ble_eq_true rfl, Nat.le_of_ble_eq_true rfl⟩)) (fun r_1 hr_1 => ?_)
  subst hr_1
  refine lv_if_ne (tgt := 10) hx hb dX6_open_5 (by decide) (fun c_5 => ?_) (fun c_5 => ?_)
  · skip
    have v_5 : ((nI 0) ≤ w ∧ w ≤ (nI (hg_n S 0) - nI 1)) := hg_in_t c_5
    obtain ⟨kw, kwh, rfl⟩ := hg_wel (by omega) v_5
    refine lv_aload_n hx hb dX6_open_10 rfl (lv_at hl 0 rfl) ?_
    refine va_get (C := RX6) (T := TX6) (N := 27) (v := .ref (o 4)) hx hb hts hi6 hown hK hP 0 rfl rfl 4 (by decide) (hts (.fieldLink RX6 19 "HotGroundModel" "isOpen" "[Z") (by decide +kernel)) (fun _ h9 => h9) rfl dX6_open_11 ?_
    refine lv_iload_n hx hb dX6_open_14 rfl (lv_at hl 1 rfl) ?_
    refine h_zald (f := hg_i S 3) hx hb hK hP 4 2 rfl rfl kw (rfl) (by omega) (by decide) dX6_open_15 ?_
    refine lv_if_eq (tgt := 23) hx hb dX6_open_16 (by decide) (fun c_16 => ?_) (fun c_16 => ?_)
    · skip
      refine lv_iconst (v := nI 0) hx hb dX6_open_23 (by decide) ?_
      refine lv_istore_n (lv' := [(3, .int (nI 0)), (0, .ref (o 0)), (1, .int (nI kw)), (2, .int x)]) hx hb dX6_open_24 rfl hl (by decide) rfl (fun ls hl => ?_)
      refine lv_aload_n hx hb dX6_open_25 rfl (lv_at hl 1 rfl) ?_
      refine va_get (C := RX6) (T := TX6) (N := 27) (v := .ref (o 4)) hx hb hts hi6 hown hK hP 0 rfl rfl 4 (by decide) (hts (.fieldLink RX6 19 "HotGroundModel" "isOpen" "[Z") (by decide +kernel)) (fun _ h9 => h9) rfl dX6_open_26 ?_
      refine lv_iload_n hx hb dX6_open_29 rfl (lv_at hl 2 rfl) ?_
      refine lv_iload_n hx hb dX6_open_30 rfl (lv_at hl 3 rfl) ?_
      refine h_zast (f := hg_i S 3) (ws' := mW o cI cJ cZ (hg_si S 3 (upd (hg_i S 3) kw x))) hx hb hK hP hD hS 4 2 rfl rfl kw (rfl) (by omega) (by decide) (hx01) rfl dX6_open_31 (fun H locs hP hD hS => ?_)
      refine lv_iload_n hx hb dX6_open_32 rfl (lv_at hl 0 rfl) ?_
      have hq : r_open S (nI kw) x = (nI 0, hg_si S 3 (upd (hg_i S 3) kw x)) := by unfold r_open; rw [if_pos v_5]; (try rw [nI_clamp (show kw < 2 ^ 31 by omega)]); unfold f_01; rw [if_pos c_16]
      rw [show (hg_si S 3 (upd (hg_i S 3) kw x) : hg_S) = (r_open S (nI kw) x).2 from by rw [hq]] at hP hD
      exact W.iret (v := nI 0) hx hb hr (fun t ht hW => ⟨⟨_, (), rfl, by rw [hq], ⟨by rw [ht]; exact hP, hD⟩⟩, hS.F ht⟩) hS.2.2 dX6_open_33
    · skip
      refine lv_iconst (v := nI 1) hx hb dX6_open_19 (by decide) ?_
      refine lv_goto (tgt := 24) hx hb dX6_open_20 (by decide) ?_
      refine lv_istore_n (lv' := [(3, .int (nI 1)), (0, .ref (o 0)), (1, .int (nI kw)), (2, .int x)]) hx hb dX6_open_24 rfl hl (by decide) rfl (fun ls hl => ?_)
      refine lv_aload_n hx hb dX6_open_25 rfl (lv_at hl 1 rfl) ?_
      refine va_get (C := RX6) (T := TX6) (N := 27) (v := .ref (o 4)) hx hb hts hi6 hown hK hP 0 rfl rfl 4 (by decide) (hts (.fieldLink RX6 19 "HotGroundModel" "isOpen" "[Z") (by decide +kernel)) (fun _ h9 => h9) rfl dX6_open_26 ?_
      refine lv_iload_n hx hb dX6_open_29 rfl (lv_at hl 2 rfl) ?_
      refine lv_iload_n hx hb dX6_open_30 rfl (lv_at hl 3 rfl) ?_
      refine h_zast (f := hg_i S 3) (ws' := mW o cI cJ cZ (hg_si S 3 (upd (hg_i S 3) kw x))) hx hb hK hP hD hS 4 2 rfl rfl kw (rfl) (by omega) (by decide) (hx01) rfl dX6_open_31 (fun H locs hP hD hS => ?_)
      refine lv_iload_n hx hb dX6_open_32 rfl (lv_at hl 0 rfl) ?_
      have hq : r_open S (nI kw) x = (nI 1, hg_si S 3 (upd (hg_i S 3) kw x)) := by unfold r_open; rw [if_pos v_5]; (try rw [nI_clamp (show kw < 2 ^ 31 by omega)]); unfold f_01; rw [if_neg c_16]
      rw [show (hg_si S 3 (upd (hg_i S 3) kw x) : hg_S) = (r_open S (nI kw) x).2 from by rw [hq]] at hP hD
      exact W.iret (v := nI 1) hx hb hr (fun t ht hW => ⟨⟨_, (), rfl, by rw [hq], ⟨by rw [ht]; exact hP, hD⟩⟩, hS.F ht⟩) hS.2.2 dX6_open_33
  · skip
    have v_5 : ¬ ((nI 0) ≤ w ∧ w ≤ (nI (hg_n S 0) - nI 1)) := hg_in_f c_5
    refine lv_iconst (v := -1) hx hb dX6_open_8 (by decide) ?_
    have hq : r_open S w x = ((-1), S) := by unfold r_open; rw [if_neg (fun q => v_5 q)]
    rw [show (S : hg_S) = (r_open S w x).2 from by rw [hq]] at hP hD
    exact W.iret (v := (-1)) hx hb hr (fun t ht hW => ⟨⟨_, (), rfl, by rw [hq], ⟨by rw [ht]; exact hP, hD⟩⟩, hS.F ht⟩) hS.2.2 dX6_open_9
set_option maxHeartbeats 4000000 in
set_option maxRecDepth 100000 in
/-- clean -/
theorem m_X6_clean (l : Launch) (D : va_G) (o : Nat → Nat) (cI cJ cZ : ClassId) (S : hg_S) (sz : Nat) (h0 : hg_n S 0 ≤ 8) (w : Int32) : Met l yX6_clean wsX6_clean ({ frames := 2, cells := 0, slots := 0, locals := 43 }) (va_Pc [.ref (o 0), .int w] (hg_Wr D (mW o cI cJ cZ S) (hg_ty cI cJ cZ) sz)) (va_Qi (fun (r : Int32) (_ : Unit) => r = (r_clean S w).1) (fun _ t => hg_At D (mW o cI cJ cZ ((r_clean S w).2)) (va_A (mW o cI cJ cZ S) sz) t) (va_A (mW o cI cJ cZ S) sz)) 0 0 (va_A (mW o cI cJ cZ S) sz) := by
  refine h_start (cc := cX6_clean) (maxL := 3) (ret := (some .int)) (by decide) rfl (Nat.le_of_ble_eq_true rfl) ?_
  intro pg ev s mi args below meth cd ls hx hb hr hts hown hlocks hml hnm hpic hl
  obtain ⟨hsz, hP, hK, hD0⟩ := hpic
  subst hsz
  have hD := hD0.self (sz := s.heap.size)
  generalize hAe : va_A (mW o cI cJ cZ S) s.heap.size = A at hD ⊢
  have hA : ∀ q : Nat, s.heap.size ≤ q → A q := fun q h => by rw [← hAe]; exact Or.inr h
  have hS : va_S A s.heap s.heap [] := va_S.rf
  have hi6 : ∀ w ∈ u_ws RX6 TX6 27, w ∈ wsX6_clean := by decide +kernel
  have hl : lv_has ls 3 [(0, .ref (o 0)), (1, .int w)] := hl
  refine lv_aload_n hx hb dX6_clean_0 rfl (lv_at hl 0 rfl) ?_
  refine lv_iload_n hx hb dX6_clean_1 rfl (lv_at hl 1 rfl) ?_
  refine vp_callSi (va_Run.run (va_runV (As := [.int w]) (rest := []) ⟨hx, hb, hml, hown, hts⟩ (m_X6_isWell l D o cI cJ cZ S w) (cwV 1 hts gX6_clean_X6_isWell rfl rfl rfl (by decide +kernel) ⟨Nat.le_of_ble_eq_true rfl, Nat.le_of_ble_eq_true rfl⟩) (h_preR hK hP 0 rfl rfl rfl) rfl rfl hl.1 rfl (lv_room (Nat.le_of_ble_eq_true rfl)) dX6_clean_2 ⟨Nat.le_of_ble_eq_true rfl, Nat.le_of_ble_eq_true rfl⟩)) (fun r_1 hr_1 => ?_)
  subst hr_1
  refine lv_if_ne (tgt := 10) hx hb dX6_clean_5 (by decide) (fun c_5 => ?_) (fun c_5 => ?_)
  · skip
    have v_5 : ((nI 0) ≤ w ∧ w ≤ (nI (hg_n S 0) - nI 1)) := hg_in_t c_5
    obtain ⟨kw, kwh, rfl⟩ := hg_wel (by omega) v_5
    refine lv_aload_n hx hb dX6_clean_10 rfl (lv_at hl 0 rfl) ?_
    refine va_get (C := RX6) (T := TX6) (N := 27) (v := .ref (o 3)) hx hb hts hi6 hown hK hP 0 rfl rfl 3 (by decide) (hts (.fieldLink RX6 16 "HotGroundModel" "age" "[I") (by decide +kernel)) (fun _ h9 => h9) rfl dX6_clean_11 ?_
    refine lv_iload_n hx hb dX6_clean_14 rfl (lv_at hl 1 rfl) ?_
    refine h_iald (f := hg_i S 2) hx hb hK hP 3 0 rfl rfl kw (rfl) (by omega) (by decide) dX6_clean_15 ?_
    refine lv_istore_n (lv' := [(2, .int (hg_i S 2 kw)), (0, .ref (o 0)), (1, .int (nI kw))]) hx hb dX6_clean_16 rfl hl (by decide) rfl (fun ls hl => ?_)
    refine lv_aload_n hx hb dX6_clean_17 rfl (lv_at hl 1 rfl) ?_
    refine va_get (C := RX6) (T := TX6) (N := 27) (v := .ref (o 3)) hx hb hts hi6 hown hK hP 0 rfl rfl 3 (by decide) (hts (.fieldLink RX6 16 "HotGroundModel" "age" "[I") (by decide +kernel)) (fun _ h9 => h9) rfl dX6_clean_18 ?_
    refine lv_iload_n hx hb dX6_clean_21 rfl (lv_at hl 2 rfl) ?_
    refine lv_iconst (v := nI 0) hx hb dX6_clean_22 (by decide) ?_
    refine h_iast (f := hg_i S 2) (ws' := mW o cI cJ cZ (hg_si S 2 (upd (hg_i S 2) kw (nI 0)))) hx hb hK hP hD hS 3 0 rfl rfl kw (rfl) (by omega) (by decide) rfl dX6_clean_23 (fun H locs hP hD hS => ?_)
    refine lv_iload_n hx hb dX6_clean_24 rfl (lv_at hl 0 rfl) ?_
    have hq : r_clean S (nI kw) = (hg_i S 2 kw, hg_si S 2 (upd (hg_i S 2) kw (nI 0))) := by unfold r_clean; rw [if_pos v_5]; (try rw [nI_clamp (show kw < 2 ^ 31 by omega)])
    rw [show (hg_si S 2 (upd (hg_i S 2) kw (nI 0)) : hg_S) = (r_clean S (nI kw)).2 from by rw [hq]] at hP hD
    exact W.iret (v := hg_i S 2 kw) hx hb hr (fun t ht hW => ⟨⟨_, (), rfl, by rw [hq], ⟨by rw [ht]; exact hP, hD⟩⟩, hS.F ht⟩) hS.2.2 dX6_clean_25
  · skip
    have v_5 : ¬ ((nI 0) ≤ w ∧ w ≤ (nI (hg_n S 0) - nI 1)) := hg_in_f c_5
    refine lv_iconst (v := -1) hx hb dX6_clean_8 (by decide) ?_
    have hq : r_clean S w = ((-1), S) := by unfold r_clean; rw [if_neg (fun q => v_5 q)]
    rw [show (S : hg_S) = (r_clean S w).2 from by rw [hq]] at hP hD
    exact W.iret (v := (-1)) hx hb hr (fun t ht hW => ⟨⟨_, (), rfl, by rw [hq], ⟨by rw [ht]; exact hP, hD⟩⟩, hS.F ht⟩) hS.2.2 dX6_clean_9
set_option maxHeartbeats 4000000 in
set_option maxRecDepth 100000 in
/-- flow -/
theorem m_X6_flow (l : Launch) (D : va_G) (o : Nat → Nat) (cI cJ cZ : ClassId) (S : hg_S) (sz : Nat) (h0 : hg_n S 0 ≤ 8) (hkd : ok_kd S) (w q : Int32) : Met l yX6_flow wsX6_flow ({ frames := 2, cells := 0, slots := 0, locals := 43 }) (va_Pc [.ref (o 0), .int w, .int q] (hg_Wr D (mW o cI cJ cZ S) (hg_ty cI cJ cZ) sz)) (va_Qi (fun (r : Int32) (_ : Unit) => r = (r_flow S w q).1) (fun _ t => hg_At D (mW o cI cJ cZ ((r_flow S w q).2)) (va_A (mW o cI cJ cZ S) sz) t) (va_A (mW o cI cJ cZ S) sz)) 0 0 (va_A (mW o cI cJ cZ S) sz) := by
  refine h_start (cc := cX6_flow) (maxL := 3) (ret := (some .int)) (by decide) rfl (Nat.le_of_ble_eq_true rfl) ?_
  intro pg ev s mi args below meth cd ls hx hb hr hts hown hlocks hml hnm hpic hl
  obtain ⟨hsz, hP, hK, hD0⟩ := hpic
  subst hsz
  have hD := hD0.self (sz := s.heap.size)
  generalize hAe : va_A (mW o cI cJ cZ S) s.heap.size = A at hD ⊢
  have hA : ∀ q : Nat, s.heap.size ≤ q → A q := fun q h => by rw [← hAe]; exact Or.inr h
  have hS : va_S A s.heap s.heap [] := va_S.rf
  have hi6 : ∀ w ∈ u_ws RX6 TX6 27, w ∈ wsX6_flow := by decide +kernel
  have hl : lv_has ls 3 [(0, .ref (o 0)), (1, .int w), (2, .int q)] := hl
  refine lv_aload_n hx hb dX6_flow_0 rfl (lv_at hl 0 rfl) ?_
  refine lv_iload_n hx hb dX6_flow_1 rfl (lv_at hl 1 rfl) ?_
  refine vp_callSi (va_Run.run (va_runV (As := [.int w]) (rest := []) ⟨hx, hb, hml, hown, hts⟩ (m_X6_isWell l D o cI cJ cZ S w) (cwV 1 hts gX6_flow_X6_isWell rfl rfl rfl (by decide +kernel) ⟨Nat.le_of_ble_eq_true rfl, Nat.le_of_ble_eq_true rfl⟩) (h_preR hK hP 0 rfl rfl rfl) rfl rfl hl.1 rfl (lv_room (Nat.le_of_ble_eq_true rfl)) dX6_flow_2 ⟨Nat.le_of_ble_eq_true rfl, Nat.le_of_ble_eq_true rfl⟩)) (fun r_1 hr_1 => ?_)
  subst hr_1
  refine lv_if_eq (tgt := 18) hx hb dX6_flow_5 (by decide) (fun c_5 => ?_) (fun c_5 => ?_)
  · skip
    have v_5 : ¬ ((nI 0) ≤ w ∧ w ≤ (nI (hg_n S 0) - nI 1)) := hg_in_f c_5
    refine lv_iconst (v := -1) hx hb dX6_flow_18 (by decide) ?_
    have hq : r_flow S w q = ((-1), S) := by unfold r_flow; rw [if_neg (fun q => v_5 q.1)]
    rw [show (S : hg_S) = (r_flow S w q).2 from by rw [hq]] at hP hD
    exact W.iret (v := (-1)) hx hb hr (fun t ht hW => ⟨⟨_, (), rfl, by rw [hq], ⟨by rw [ht]; exact hP, hD⟩⟩, hS.F ht⟩) hS.2.2 dX6_flow_19
  · skip
    have v_5 : ((nI 0) ≤ w ∧ w ≤ (nI (hg_n S 0) - nI 1)) := hg_in_t c_5
    refine lv_iload_n hx hb dX6_flow_8 rfl (lv_at hl 2 rfl) ?_
    refine lv_iconst (v := nI 0) hx hb dX6_flow_9 (by decide) ?_
    refine lv_bipush (v := nI 20) hx hb dX6_flow_10 (by decide) ?_
    refine vp_callSi (va_Run.run (va_runS (As := [.int q, .int (nI 0), .int (nI 20)]) (rest := []) ⟨hx, hb, hml, hown, hts⟩ (m_X6_in l q (nI 0) (nI 20)) (va_cwS 3 hts gX6_flow_X6_in rfl rfl rfl (by decide +kernel) ⟨Nat.le_of_ble_eq_true rfl, Nat.le_of_ble_eq_true rfl⟩) (h_preS0) rfl rfl hl.1 rfl (lv_room (Nat.le_of_ble_eq_true rfl)) dX6_flow_12 ⟨Nat.le_of_ble_eq_true rfl, Nat.le_of_ble_eq_true rfl⟩)) (fun r_2 hr_2 => ?_)
    subst hr_2
    refine lv_if_ne (tgt := 20) hx hb dX6_flow_15 (by decide) (fun c_15 => ?_) (fun c_15 => ?_)
    · skip
      have v_15 : ((nI 0) ≤ q ∧ q ≤ (nI 20)) := hg_in_t c_15
      obtain ⟨kw, kwh, rfl⟩ := hg_wel (by omega) v_5
      obtain ⟨kq, kql, kqh, rfl⟩ := hg_rng (by decide) (by decide) v_15
      refine lv_aload_n hx hb dX6_flow_20 rfl (lv_at hl 0 rfl) ?_
      refine lv_dup hx hb dX6_flow_21 rfl ?_
      refine va_get (C := RX6) (T := TX6) (N := 27) (v := .long (hg_t S)) hx hb hts hi6 hown hK hP 0 rfl rfl 6 (by decide) (hts (.fieldLink RX6 84 "HotGroundModel" "trace" "J") (by decide +kernel)) (fun _ h9 => h9) rfl dX6_flow_22 ?_
      refine lv_aload_n hx hb dX6_flow_25 rfl (lv_at hl 0 rfl) ?_
      refine va_get (C := RX6) (T := TX6) (N := 27) (v := .ref (o 1)) hx hb hts hi6 hown hK hP 0 rfl rfl 1 (by decide) (hts (.fieldLink RX6 7 "HotGroundModel" "kind" "[I") (by decide +kernel)) (fun _ h9 => h9) rfl dX6_flow_26 ?_
      refine lv_iload_n hx hb dX6_flow_29 rfl (lv_at hl 1 rfl) ?_
      refine h_iald (f := hg_i S 0) hx hb hK hP 1 0 rfl rfl kw (rfl) (by omega) (by decide) dX6_flow_30 ?_
      refine lv_if_ne (tgt := 38) hx hb dX6_flow_31 (by decide) (fun c_31 => ?_) (fun c_31 => ?_)
      · skip
        refine lv_aload_n hx hb dX6_flow_38 rfl (lv_at hl 0 rfl) ?_
        refine va_get (C := RX6) (T := TX6) (N := 27) (v := .ref (o 1)) hx hb hts hi6 hown hK hP 0 rfl rfl 1 (by decide) (hts (.fieldLink RX6 7 "HotGroundModel" "kind" "[I") (by decide +kernel)) (fun _ h9 => h9) rfl dX6_flow_39 ?_
        refine lv_iload_n hx hb dX6_flow_42 rfl (lv_at hl 1 rfl) ?_
        refine h_iald (f := hg_i S 0) hx hb hK hP 1 0 rfl rfl kw (rfl) (by omega) (by decide) dX6_flow_43 ?_
        refine lv_iconst (v := nI 1) hx hb dX6_flow_44 (by decide) ?_
        refine lv_icmp_ne (tgt := 54) hx hb dX6_flow_45 (by decide) (fun c_45 => ?_) (fun c_45 => ?_)
        · skip
          refine lv_ldc2 (v := 111) hx hb hown (hts (.constantLong RX6 90 (111)) (by decide +kernel)) dX6_flow_54 ?_
          refine h_topl (y := Int32.toInt64 (f_weight S kw)) (by unfold f_weight; rcases hkd kw (by omega) with h | h | h; exact absurd (h.trans nI_0) c_31; exact absurd h c_45; rw [h]; decide) ?_
          refine lv_ladd hx hb dX6_flow_57 ?_
          refine h_put (C := RX6) (T := TX6) (N := 27) (v := .long ((hg_t S) + (Int32.toInt64 (f_weight S kw)))) (ty := .long) (ws' := mW o cI cJ cZ (hg_st S ((hg_t S) + (Int32.toInt64 (f_weight S kw))))) hx hb hts hi6 tyX6 tyX6_ok nmX6 hown hK hP hD hS 0 rfl rfl 6 (by decide) (hts (.fieldLink RX6 84 "HotGroundModel" "trace" "J") (by decide +kernel)) (fun _ h9 => h9) rfl (by decide +kernel) rfl rfl (Nat.le_of_ble_eq_true rfl) rfl dX6_flow_58 (fun H locs hP hD hS => ?_)
          refine lv_aload_n hx hb dX6_flow_61 rfl (lv_at hl 0 rfl) ?_
          refine lv_iload_n hx hb dX6_flow_62 rfl (lv_at hl 1 rfl) ?_
          refine lv_iload_n hx hb dX6_flow_63 rfl (lv_at hl 2 rfl) ?_
          refine vp_callSi (va_Run.run (va_runV (As := [.int (nI kw), .int (nI kq)]) (rest := []) ⟨hx, hb, hml, hown, hts⟩ (m_X6_flowOf l D o cI cJ cZ (hg_st S ((hg_t S) + (Int32.toInt64 (f_weight S kw)))) hkd kw kq (by omega) (by omega)) (cwV 2 hts gX6_flow_X6_flowOf rfl rfl rfl (by decide +kernel) ⟨Nat.le_of_ble_eq_true rfl, Nat.le_of_ble_eq_true rfl⟩) (h_preR hK hP 0 rfl rfl rfl) rfl rfl hl.1 rfl (lv_room (Nat.le_of_ble_eq_true rfl)) dX6_flow_64 ⟨Nat.le_of_ble_eq_true rfl, Nat.le_of_ble_eq_true rfl⟩)) (fun r_3 hr_3 => ?_)
          subst hr_3
          have hq : r_flow S (nI kw) (nI kq) = (f_flow (hg_st S ((hg_t S) + (Int32.toInt64 (f_weight S kw)))) kw kq, hg_st S ((hg_t S) + (Int32.toInt64 (f_weight S kw)))) := by unfold r_flow; rw [if_pos (⟨v_5, v_15⟩)]; (try rw [nI_clamp (show kw < 2 ^ 31 by omega)]); (try rw [nI_clamp (show kq < 2 ^ 31 by omega)]); rfl
          rw [show (hg_st S ((hg_t S) + (Int32.toInt64 (f_weight S kw))) : hg_S) = (r_flow S (nI kw) (nI kq)).2 from by rw [hq]] at hP hD
          exact W.iret (v := f_flow (hg_st S ((hg_t S) + (Int32.toInt64 (f_weight S kw)))) kw kq) hx hb hr (fun t ht hW => ⟨⟨_, (), rfl, by rw [hq], ⟨by rw [ht]; exact hP, hD⟩⟩, hS.F ht⟩) hS.2.2 dX6_flow_67
        · skip
          refine lv_ldc2 (v := 11) hx hb hown (hts (.constantLong RX6 88 (11)) (by decide +kernel)) dX6_flow_48 ?_
          refine lv_goto (tgt := 57) hx hb dX6_flow_51 (by decide) ?_
          refine h_topl (y := Int32.toInt64 (f_weight S kw)) (by unfold f_weight; rw [if_neg (fun h => by rw [c_45] at h; exact absurd h (by decide)), if_pos (by rw [c_45]; decide)]; decide) ?_
          refine lv_ladd hx hb dX6_flow_57 ?_
          refine h_put (C := RX6) (T := TX6) (N := 27) (v := .long ((hg_t S) + (Int32.toInt64 (f_weight S kw)))) (ty := .long) (ws' := mW o cI cJ cZ (hg_st S ((hg_t S) + (Int32.toInt64 (f_weight S kw))))) hx hb hts hi6 tyX6 tyX6_ok nmX6 hown hK hP hD hS 0 rfl rfl 6 (by decide) (hts (.fieldLink RX6 84 "HotGroundModel" "trace" "J") (by decide +kernel)) (fun _ h9 => h9) rfl (by decide +kernel) rfl rfl (Nat.le_of_ble_eq_true rfl) rfl dX6_flow_58 (fun H locs hP hD hS => ?_)
          refine lv_aload_n hx hb dX6_flow_61 rfl (lv_at hl 0 rfl) ?_
          refine lv_iload_n hx hb dX6_flow_62 rfl (lv_at hl 1 rfl) ?_
          refine lv_iload_n hx hb dX6_flow_63 rfl (lv_at hl 2 rfl) ?_
          refine vp_callSi (va_Run.run (va_runV (As := [.int (nI kw), .int (nI kq)]) (rest := []) ⟨hx, hb, hml, hown, hts⟩ (m_X6_flowOf l D o cI cJ cZ (hg_st S ((hg_t S) + (Int32.toInt64 (f_weight S kw)))) hkd kw kq (by omega) (by omega)) (cwV 2 hts gX6_flow_X6_flowOf rfl rfl rfl (by decide +kernel) ⟨Nat.le_of_ble_eq_true rfl, Nat.le_of_ble_eq_true rfl⟩) (h_preR hK hP 0 rfl rfl rfl) rfl rfl hl.1 rfl (lv_room (Nat.le_of_ble_eq_true rfl)) dX6_flow_64 ⟨Nat.le_of_ble_eq_true rfl, Nat.le_of_ble_eq_true rfl⟩)) (fun r_4 hr_4 => ?_)
          subst hr_4
          have hq : r_flow S (nI kw) (nI kq) = (f_flow (hg_st S ((hg_t S) + (Int32.toInt64 (f_weight S kw)))) kw kq, hg_st S ((hg_t S) + (Int32.toInt64 (f_weight S kw)))) := by unfold r_flow; rw [if_pos (⟨v_5, v_15⟩)]; (try rw [nI_clamp (show kw < 2 ^ 31 by omega)]); (try rw [nI_clamp (show kq < 2 ^ 31 by omega)]); rfl
          rw [show (hg_st S ((hg_t S) + (Int32.toInt64 (f_weight S kw))) : hg_S) = (r_flow S (nI kw) (nI kq)).2 from by rw [hq]] at hP hD
          exact W.iret (v := f_flow (hg_st S ((hg_t S) + (Int32.toInt64 (f_weight S kw)))) kw kq) hx hb hr (fun t ht hW => ⟨⟨_, (), rfl, by rw [hq], ⟨by rw [ht]; exact hP, hD⟩⟩, hS.F ht⟩) hS.2.2 dX6_flow_67
      · skip
        refine lv_lconst (v := 1) hx hb dX6_flow_34 (by decide) ?_
        refine lv_goto (tgt := 57) hx hb dX6_flow_35 (by decide) ?_
        refine h_topl (y := Int32.toInt64 (f_weight S kw)) (by unfold f_weight; rw [if_pos (by rw [hg_lt, i_1, c_31, i_z]; decide)]; decide) ?_
        refine lv_ladd hx hb dX6_flow_57 ?_
        refine h_put (C := RX6) (T := TX6) (N := 27) (v := .long ((hg_t S) + (Int32.toInt64 (f_weight S kw)))) (ty := .long) (ws' := mW o cI cJ cZ (hg_st S ((hg_t S) + (Int32.toInt64 (f_weight S kw))))) hx hb hts hi6 tyX6 tyX6_ok nmX6 hown hK hP hD hS 0 rfl rfl 6 (by decide) (hts (.fieldLink RX6 84 "HotGroundModel" "trace" "J") (by decide +kernel)) (fun _ h9 => h9) rfl (by decide +kernel) rfl rfl (Nat.le_of_ble_eq_true rfl) rfl dX6_flow_58 (fun H locs hP hD hS => ?_)
        refine lv_aload_n hx hb dX6_flow_61 rfl (lv_at hl 0 rfl) ?_
        refine lv_iload_n hx hb dX6_flow_62 rfl (lv_at hl 1 rfl) ?_
        refine lv_iload_n hx hb dX6_flow_63 rfl (lv_at hl 2 rfl) ?_
        refine vp_callSi (va_Run.run (va_runV (As := [.int (nI kw), .int (nI kq)]) (rest := []) ⟨hx, hb, hml, hown, hts⟩ (m_X6_flowOf l D o cI cJ cZ (hg_st S ((hg_t S) + (Int32.toInt64 (f_weight S kw)))) hkd kw kq (by omega) (by omega)) (cwV 2 hts gX6_flow_X6_flowOf rfl rfl rfl (by decide +kernel) ⟨Nat.le_of_ble_eq_true rfl, Nat.le_of_ble_eq_true rfl⟩) (h_preR hK hP 0 rfl rfl rfl) rfl rfl hl.1 rfl (lv_room (Nat.le_of_ble_eq_true rfl)) dX6_flow_64 ⟨Nat.le_of_ble_eq_true rfl, Nat.le_of_ble_eq_true rfl⟩)) (fun r_5 hr_5 => ?_)
        subst hr_5
        have hq : r_flow S (nI kw) (nI kq) = (f_flow (hg_st S ((hg_t S) + (Int32.toInt64 (f_weight S kw)))) kw kq, hg_st S ((hg_t S) + (Int32.toInt64 (f_weight S kw)))) := by unfold r_flow; rw [if_pos (⟨v_5, v_15⟩)]; (try rw [nI_clamp (show kw < 2 ^ 31 by omega)]); (try rw [nI_clamp (show kq < 2 ^ 31 by omega)]); rfl
        rw [show (hg_st S ((hg_t S) + (Int32.toInt64 (f_weight S kw))) : hg_S) = (r_flow S (nI kw) (nI kq)).2 from by rw [hq]] at hP hD
        exact W.iret (v := f_flow (hg_st S ((hg_t S) + (Int32.toInt64 (f_weight S kw)))) kw kq) hx hb hr (fun t ht hW => ⟨⟨_, (), rfl, by rw [hq], ⟨by rw [ht]; exact hP, hD⟩⟩, hS.F ht⟩) hS.2.2 dX6_flow_67
    · skip
      have v_15 : ¬ ((nI 0) ≤ q ∧ q ≤ (nI 20)) := hg_in_f c_15
      refine lv_iconst (v := -1) hx hb dX6_flow_18 (by decide) ?_
      have hq : r_flow S w q = ((-1), S) := by unfold r_flow; rw [if_neg (fun q => v_15 q.2)]
      rw [show (S : hg_S) = (r_flow S w q).2 from by rw [hq]] at hP hD
      exact W.iret (v := (-1)) hx hb hr (fun t ht hW => ⟨⟨_, (), rfl, by rw [hq], ⟨by rw [ht]; exact hP, hD⟩⟩, hS.F ht⟩) hS.2.2 dX6_flow_19
set_option maxHeartbeats 4000000 in
set_option maxRecDepth 100000 in
/-- about -/
theorem m_X6_about (l : Launch) (D : va_G) (o : Nat → Nat) (cI cJ cZ : ClassId) (S : hg_S) (h0 : hg_n S 0 ≤ 8) (w q : Int32) : Met l yX6_about wsX6_about ({ frames := 2, cells := 0, slots := 0, locals := 43 }) (va_Pc [.ref (o 0), .int w, .int q] (hg_R D (mW o cI cJ cZ S) (hg_ty cI cJ cZ))) (vp_Si (fun r => r = a_about S w q)) 0 0 (fun _ => False) := by
  refine h_start (cc := cX6_about) (maxL := 3) (ret := (some .int)) (by decide) rfl (Nat.le_of_ble_eq_true rfl) ?_
  intro pg ev s mi args below meth cd ls hx hb hr hts hown hlocks hml hnm hpic hl
  obtain ⟨hP, hK⟩ := hpic
  have hi6 : ∀ w ∈ u_ws RX6 TX6 27, w ∈ wsX6_about := by decide +kernel
  have hl : lv_has ls 3 [(0, .ref (o 0)), (1, .int w), (2, .int q)] := hl
  refine lv_aload_n hx hb dX6_about_0 rfl (lv_at hl 0 rfl) ?_
  refine lv_iload_n hx hb dX6_about_1 rfl (lv_at hl 1 rfl) ?_
  refine vp_callSi (va_Run.run (va_runV (As := [.int w]) (rest := []) ⟨hx, hb, hml, hown, hts⟩ (m_X6_isWell l D o cI cJ cZ S w) (cwV 1 hts gX6_about_X6_isWell rfl rfl rfl (by decide +kernel) ⟨Nat.le_of_ble_eq_true rfl, Nat.le_of_ble_eq_true rfl⟩) (h_preR hK hP 0 rfl rfl rfl) rfl rfl hl.1 rfl (lv_room (Nat.le_of_ble_eq_true rfl)) dX6_about_2 ⟨Nat.le_of_ble_eq_true rfl, Nat.le_of_ble_eq_true rfl⟩)) (fun r_1 hr_1 => ?_)
  subst hr_1
  refine lv_if_eq (tgt := 18) hx hb dX6_about_5 (by decide) (fun c_5 => ?_) (fun c_5 => ?_)
  · skip
    have v_5 : ¬ ((nI 0) ≤ w ∧ w ≤ (nI (hg_n S 0) - nI 1)) := hg_in_f c_5
    refine lv_iconst (v := -1) hx hb dX6_about_18 (by decide) ?_
    exact W.iret (v := (-1)) hx hb hr (fun t ht hW => ⟨_, rfl, by show (-1) = a_about S w q; unfold a_about; rw [if_neg (fun q => v_5 q.1)], ht⟩) (fun _ h9 => nomatch h9) dX6_about_19
  · skip
    have v_5 : ((nI 0) ≤ w ∧ w ≤ (nI (hg_n S 0) - nI 1)) := hg_in_t c_5
    refine lv_iload_n hx hb dX6_about_8 rfl (lv_at hl 2 rfl) ?_
    refine lv_iconst (v := nI 0) hx hb dX6_about_9 (by decide) ?_
    refine lv_bipush (v := nI 8) hx hb dX6_about_10 (by decide) ?_
    refine vp_callSi (va_Run.run (va_runS (As := [.int q, .int (nI 0), .int (nI 8)]) (rest := []) ⟨hx, hb, hml, hown, hts⟩ (m_X6_in l q (nI 0) (nI 8)) (va_cwS 3 hts gX6_about_X6_in rfl rfl rfl (by decide +kernel) ⟨Nat.le_of_ble_eq_true rfl, Nat.le_of_ble_eq_true rfl⟩) (h_preS0) rfl rfl hl.1 rfl (lv_room (Nat.le_of_ble_eq_true rfl)) dX6_about_12 ⟨Nat.le_of_ble_eq_true rfl, Nat.le_of_ble_eq_true rfl⟩)) (fun r_2 hr_2 => ?_)
    subst hr_2
    refine lv_if_ne (tgt := 20) hx hb dX6_about_15 (by decide) (fun c_15 => ?_) (fun c_15 => ?_)
    · skip
      have v_15 : ((nI 0) ≤ q ∧ q ≤ (nI 8)) := hg_in_t c_15
      refine lv_iload_n hx hb dX6_about_20 rfl (lv_at hl 2 rfl) ?_
      obtain ⟨kw, kwh, rfl⟩ := hg_wel (by omega) v_5
      obtain ⟨kq, kql, kqh, rfl⟩ := hg_rng (by decide) (by decide) v_15
      rcases Nat.eq_or_lt_of_le (show 0 ≤ kq by omega) with rfl | kq0
      · skip
        refine lv_tableIn (off := 31) (tgt := 52) hx hb dX6_about_21 (by decide) (by decide) (by decide) (by decide) ?_
        refine lv_aload_n hx hb dX6_about_52 rfl (lv_at hl 0 rfl) ?_
        refine va_get (C := RX6) (T := TX6) (N := 27) (v := .ref (o 1)) hx hb hts hi6 hown hK hP 0 rfl rfl 1 (by decide) (hts (.fieldLink RX6 7 "HotGroundModel" "kind" "[I") (by decide +kernel)) (fun _ h9 => h9) rfl dX6_about_53 ?_
        refine lv_iload_n hx hb dX6_about_56 rfl (lv_at hl 1 rfl) ?_
        refine h_iald (f := hg_i S 0) hx hb hK hP 1 0 rfl rfl kw (rfl) (by omega) (by decide) dX6_about_57 ?_
        exact W.iret (v := hg_i S 0 kw) hx hb hr (fun t ht hW => ⟨_, rfl, by show hg_i S 0 kw = a_about S (nI kw) (nI 0); unfold a_about; rw [if_pos (⟨v_5, v_15⟩)]; (try rw [nI_clamp (show kw < 2 ^ 31 by omega)]); rw [if_pos rfl], ht⟩) (fun _ h9 => nomatch h9) dX6_about_58
      · skip
        rcases Nat.eq_or_lt_of_le (show 1 ≤ kq by omega) with rfl | kq1
        · skip
          refine lv_tableIn (off := 38) (tgt := 59) hx hb dX6_about_21 (by decide) (by decide) (by decide) (by decide) ?_
          refine lv_aload_n hx hb dX6_about_59 rfl (lv_at hl 0 rfl) ?_
          refine va_get (C := RX6) (T := TX6) (N := 27) (v := .ref (o 2)) hx hb hts hi6 hown hK hP 0 rfl rfl 2 (by decide) (hts (.fieldLink RX6 13 "HotGroundModel" "inBox" "[I") (by decide +kernel)) (fun _ h9 => h9) rfl dX6_about_60 ?_
          refine lv_iload_n hx hb dX6_about_63 rfl (lv_at hl 1 rfl) ?_
          refine h_iald (f := hg_i S 1) hx hb hK hP 2 0 rfl rfl kw (rfl) (by omega) (by decide) dX6_about_64 ?_
          exact W.iret (v := hg_i S 1 kw) hx hb hr (fun t ht hW => ⟨_, rfl, by show hg_i S 1 kw = a_about S (nI kw) (nI 1); unfold a_about; rw [if_pos (⟨v_5, v_15⟩)]; (try rw [nI_clamp (show kw < 2 ^ 31 by omega)]); rw [if_neg (by decide)]; rw [if_pos rfl], ht⟩) (fun _ h9 => nomatch h9) dX6_about_65
        · skip
          rcases Nat.eq_or_lt_of_le (show 2 ≤ kq by omega) with rfl | kq2
          · skip
            refine lv_tableIn (off := 45) (tgt := 66) hx hb dX6_about_21 (by decide) (by decide) (by decide) (by decide) ?_
            refine lv_aload_n hx hb dX6_about_66 rfl (lv_at hl 0 rfl) ?_
            refine va_get (C := RX6) (T := TX6) (N := 27) (v := .ref (o 3)) hx hb hts hi6 hown hK hP 0 rfl rfl 3 (by decide) (hts (.fieldLink RX6 16 "HotGroundModel" "age" "[I") (by decide +kernel)) (fun _ h9 => h9) rfl dX6_about_67 ?_
            refine lv_iload_n hx hb dX6_about_70 rfl (lv_at hl 1 rfl) ?_
            refine h_iald (f := hg_i S 2) hx hb hK hP 3 0 rfl rfl kw (rfl) (by omega) (by decide) dX6_about_71 ?_
            exact W.iret (v := hg_i S 2 kw) hx hb hr (fun t ht hW => ⟨_, rfl, by show hg_i S 2 kw = a_about S (nI kw) (nI 2); unfold a_about; rw [if_pos (⟨v_5, v_15⟩)]; (try rw [nI_clamp (show kw < 2 ^ 31 by omega)]); rw [if_neg (by decide)]; rw [if_neg (by decide)]; rw [if_pos rfl], ht⟩) (fun _ h9 => nomatch h9) dX6_about_72
          · skip
            rcases Nat.eq_or_lt_of_le (show 3 ≤ kq by omega) with rfl | kq3
            · skip
              refine lv_tableIn (off := 52) (tgt := 73) hx hb dX6_about_21 (by decide) (by decide) (by decide) (by decide) ?_
              refine lv_aload_n hx hb dX6_about_73 rfl (lv_at hl 0 rfl) ?_
              refine va_get (C := RX6) (T := TX6) (N := 27) (v := .ref (o 4)) hx hb hts hi6 hown hK hP 0 rfl rfl 4 (by decide) (hts (.fieldLink RX6 19 "HotGroundModel" "isOpen" "[Z") (by decide +kernel)) (fun _ h9 => h9) rfl dX6_about_74 ?_
              refine lv_iload_n hx hb dX6_about_77 rfl (lv_at hl 1 rfl) ?_
              refine h_zald (f := hg_i S 3) hx hb hK hP 4 2 rfl rfl kw (rfl) (by omega) (by decide) dX6_about_78 ?_
              refine lv_if_eq (tgt := 86) hx hb dX6_about_79 (by decide) (fun c_79 => ?_) (fun c_79 => ?_)
              · skip
                refine lv_iconst (v := nI 0) hx hb dX6_about_86 (by decide) ?_
                exact W.iret (v := nI 0) hx hb hr (fun t ht hW => ⟨_, rfl, by show nI 0 = a_about S (nI kw) (nI 3); unfold a_about; rw [if_pos (⟨v_5, v_15⟩)]; (try rw [nI_clamp (show kw < 2 ^ 31 by omega)]); rw [if_neg (by decide)]; rw [if_neg (by decide)]; rw [if_neg (by decide)]; rw [if_pos rfl]; unfold f_01; rw [if_pos c_79], ht⟩) (fun _ h9 => nomatch h9) dX6_about_87
              · skip
                refine lv_iconst (v := nI 1) hx hb dX6_about_82 (by decide) ?_
                refine lv_goto (tgt := 87) hx hb dX6_about_83 (by decide) ?_
                exact W.iret (v := nI 1) hx hb hr (fun t ht hW => ⟨_, rfl, by show nI 1 = a_about S (nI kw) (nI 3); unfold a_about; rw [if_pos (⟨v_5, v_15⟩)]; (try rw [nI_clamp (show kw < 2 ^ 31 by omega)]); rw [if_neg (by decide)]; rw [if_neg (by decide)]; rw [if_neg (by decide)]; rw [if_pos rfl]; unfold f_01; rw [if_neg c_79], ht⟩) (fun _ h9 => nomatch h9) dX6_about_87
            · skip
              refine lv_tableOut (tgt := 88) hx hb dX6_about_21 (Or.inr (by rw [nI_toInt (by omega)]; omega)) (by decide) ?_
              refine lv_aload_n hx hb dX6_about_88 rfl (lv_at hl 0 rfl) ?_
              refine va_get (C := RX6) (T := TX6) (N := 27) (v := .ref (o 5)) hx hb hts hi6 hown hK hP 0 rfl rfl 5 (by decide) (hts (.fieldLink RX6 23 "HotGroundModel" "corner" "[I") (by decide +kernel)) (fun _ h9 => h9) rfl dX6_about_89 ?_
              refine lv_iconst (v := nI 5) hx hb dX6_about_92 (by decide) ?_
              refine lv_iload_n hx hb dX6_about_93 rfl (lv_at hl 1 rfl) ?_
              refine lv_imul hx hb dX6_about_94 ?_
              refine h_topi (y := nI (5 * kw)) (pk_mul _ _) ?_
              refine lv_iload_n hx hb dX6_about_95 rfl (lv_at hl 2 rfl) ?_
              refine lv_iadd hx hb dX6_about_96 ?_
              refine h_topi (y := nI ((5 * kw) + kq)) (nI_add _ _) ?_
              refine lv_iconst (v := nI 4) hx hb dX6_about_97 (by decide) ?_
              refine lv_isub hx hb dX6_about_98 ?_
              refine h_topi (y := nI (((5 * kw) + kq) - 4)) (pk_sub (by omega)) ?_
              refine h_iald (f := hg_i S 4) hx hb hK hP 5 0 rfl rfl (((5 * kw) + kq) - 4) (rfl) (by omega) (by decide) dX6_about_99 ?_
              exact W.iret (v := hg_i S 4 (((5 * kw) + kq) - 4)) hx hb hr (fun t ht hW => ⟨_, rfl, by show hg_i S 4 (((5 * kw) + kq) - 4) = a_about S (nI kw) (nI kq); unfold a_about; rw [if_pos (⟨v_5, v_15⟩)]; (try rw [nI_clamp (show kw < 2 ^ 31 by omega)]); (try rw [nI_clamp (show kq < 2 ^ 31 by omega)]); rw [if_neg (fun h => by have := (nI_eq (by omega) (by decide)).mp h; omega)]; rw [if_neg (fun h => by have := (nI_eq (by omega) (by decide)).mp h; omega)]; rw [if_neg (fun h => by have := (nI_eq (by omega) (by decide)).mp h; omega)]; rw [if_neg (fun h => by have := (nI_eq (by omega) (by decide)).mp h; omega)]; rw [Nat.mul_comm kw 5], ht⟩) (fun _ h9 => nomatch h9) dX6_about_100
    · skip
      have v_15 : ¬ ((nI 0) ≤ q ∧ q ≤ (nI 8)) := hg_in_f c_15
      refine lv_iconst (v := -1) hx hb dX6_about_18 (by decide) ?_
      exact W.iret (v := (-1)) hx hb hr (fun t ht hW => ⟨_, rfl, by show (-1) = a_about S w q; unfold a_about; rw [if_neg (fun q => v_15 q.2)], ht⟩) (fun _ h9 => nomatch h9) dX6_about_19
set_option maxHeartbeats 4000000 in
set_option maxRecDepth 100000 in
/-- turbine -/
theorem m_X6_turbine (l : Launch) (D : va_G) (o : Nat → Nat) (cI cJ cZ : ClassId) (S : hg_S) (sz : Nat) (h1 : hg_n S 1 ≤ 4) (a b d : Int32) : Met l yX6_turbine wsX6_turbine ({ frames := 1, cells := 0, slots := 0, locals := 22 }) (va_Pc [.ref (o 0), .int a, .int b, .int d] (hg_Wr D (mW o cI cJ cZ S) (hg_ty cI cJ cZ) sz)) (va_Qi (fun (r : Int32) (_ : Unit) => r = (r_turb S a b d).1) (fun _ t => hg_At D (mW o cI cJ cZ ((r_turb S a b d).2)) (va_A (mW o cI cJ cZ S) sz) t) (va_A (mW o cI cJ cZ S) sz)) 0 0 (va_A (mW o cI cJ cZ S) sz) := by
  refine h_start (cc := cX6_turbine) (maxL := 4) (ret := (some .int)) (by decide) rfl (Nat.le_of_ble_eq_true rfl) ?_
  intro pg ev s mi args below meth cd ls hx hb hr hts hown hlocks hml hnm hpic hl
  obtain ⟨hsz, hP, hK, hD0⟩ := hpic
  subst hsz
  have hD := hD0.self (sz := s.heap.size)
  generalize hAe : va_A (mW o cI cJ cZ S) s.heap.size = A at hD ⊢
  have hA : ∀ q : Nat, s.heap.size ≤ q → A q := fun q h => by rw [← hAe]; exact Or.inr h
  have hS : va_S A s.heap s.heap [] := va_S.rf
  have hi6 : ∀ w ∈ u_ws RX6 TX6 27, w ∈ wsX6_turbine := by decide +kernel
  have hl : lv_has ls 4 [(0, .ref (o 0)), (1, .int a), (2, .int b), (3, .int d)] := hl
  refine lv_iload_n hx hb dX6_turbine_0 rfl (lv_at hl 1 rfl) ?_
  refine lv_iconst (v := nI 0) hx hb dX6_turbine_1 (by decide) ?_
  refine lv_bipush (v := nI 20) hx hb dX6_turbine_2 (by decide) ?_
  refine vp_callSi (va_Run.run (va_runS (As := [.int a, .int (nI 0), .int (nI 20)]) (rest := []) ⟨hx, hb, hml, hown, hts⟩ (m_X6_in l a (nI 0) (nI 20)) (va_cwS 3 hts gX6_turbine_X6_in rfl rfl rfl (by decide +kernel) ⟨Nat.le_of_ble_eq_true rfl, Nat.le_of_ble_eq_true rfl⟩) (h_preS0) rfl rfl hl.1 rfl (lv_room (Nat.le_of_ble_eq_true rfl)) dX6_turbine_4 ⟨Nat.le_of_ble_eq_true rfl, Nat.le_of_ble_eq_true rfl⟩)) (fun r_1 hr_1 => ?_)
  subst hr_1
  refine lv_if_eq (tgt := 31) hx hb dX6_turbine_7 (by decide) (fun c_7 => ?_) (fun c_7 => ?_)
  · skip
    have v_7 : ¬ ((nI 0) ≤ a ∧ a ≤ (nI 20)) := hg_in_f c_7
    refine lv_iconst (v := -1) hx hb dX6_turbine_31 (by decide) ?_
    have hq : r_turb S a b d = ((-1), S) := by unfold r_turb; rw [if_neg (fun q => v_7 q.1)]
    rw [show (S : hg_S) = (r_turb S a b d).2 from by rw [hq]] at hP hD
    exact W.iret (v := (-1)) hx hb hr (fun t ht hW => ⟨⟨_, (), rfl, by rw [hq], ⟨by rw [ht]; exact hP, hD⟩⟩, hS.F ht⟩) hS.2.2 dX6_turbine_32
  · skip
    have v_7 : ((nI 0) ≤ a ∧ a ≤ (nI 20)) := hg_in_t c_7
    refine lv_iload_n hx hb dX6_turbine_10 rfl (lv_at hl 2 rfl) ?_
    refine lv_iconst (v := nI 1) hx hb dX6_turbine_11 (by decide) ?_
    refine lv_bipush (v := nI 40) hx hb dX6_turbine_12 (by decide) ?_
    refine vp_callSi (va_Run.run (va_runS (As := [.int b, .int (nI 1), .int (nI 40)]) (rest := []) ⟨hx, hb, hml, hown, hts⟩ (m_X6_in l b (nI 1) (nI 40)) (va_cwS 3 hts gX6_turbine_X6_in rfl rfl rfl (by decide +kernel) ⟨Nat.le_of_ble_eq_true rfl, Nat.le_of_ble_eq_true rfl⟩) (h_preS0) rfl rfl hl.1 rfl (lv_room (Nat.le_of_ble_eq_true rfl)) dX6_turbine_14 ⟨Nat.le_of_ble_eq_true rfl, Nat.le_of_ble_eq_true rfl⟩)) (fun r_2 hr_2 => ?_)
    subst hr_2
    refine lv_if_eq (tgt := 31) hx hb dX6_turbine_17 (by decide) (fun c_17 => ?_) (fun c_17 => ?_)
    · skip
      have v_17 : ¬ ((nI 1) ≤ b ∧ b ≤ (nI 40)) := hg_in_f c_17
      refine lv_iconst (v := -1) hx hb dX6_turbine_31 (by decide) ?_
      have hq : r_turb S a b d = ((-1), S) := by unfold r_turb; rw [if_neg (fun q => v_17 q.2.1)]
      rw [show (S : hg_S) = (r_turb S a b d).2 from by rw [hq]] at hP hD
      exact W.iret (v := (-1)) hx hb hr (fun t ht hW => ⟨⟨_, (), rfl, by rw [hq], ⟨by rw [ht]; exact hP, hD⟩⟩, hS.F ht⟩) hS.2.2 dX6_turbine_32
    · skip
      have v_17 : ((nI 1) ≤ b ∧ b ≤ (nI 40)) := hg_in_t c_17
      refine lv_iload_n hx hb dX6_turbine_20 rfl (lv_at hl 3 rfl) ?_
      refine lv_iconst (v := nI 1) hx hb dX6_turbine_21 (by decide) ?_
      refine lv_sipush (v := nI 2000) hx hb dX6_turbine_22 (by decide) ?_
      refine vp_callSi (va_Run.run (va_runS (As := [.int d, .int (nI 1), .int (nI 2000)]) (rest := []) ⟨hx, hb, hml, hown, hts⟩ (m_X6_in l d (nI 1) (nI 2000)) (va_cwS 3 hts gX6_turbine_X6_in rfl rfl rfl (by decide +kernel) ⟨Nat.le_of_ble_eq_true rfl, Nat.le_of_ble_eq_true rfl⟩) (h_preS0) rfl rfl hl.1 rfl (lv_room (Nat.le_of_ble_eq_true rfl)) dX6_turbine_25 ⟨Nat.le_of_ble_eq_true rfl, Nat.le_of_ble_eq_true rfl⟩)) (fun r_3 hr_3 => ?_)
      subst hr_3
      refine lv_if_ne (tgt := 33) hx hb dX6_turbine_28 (by decide) (fun c_28 => ?_) (fun c_28 => ?_)
      · skip
        have v_28 : ((nI 1) ≤ d ∧ d ≤ (nI 2000)) := hg_in_t c_28
        refine lv_aload_n hx hb dX6_turbine_33 rfl (lv_at hl 0 rfl) ?_
        refine va_get (C := RX6) (T := TX6) (N := 27) (v := .int (nI (hg_n S 1))) hx hb hts hi6 hown hK hP 0 rfl rfl 7 (by decide) (hts (.fieldLink RX6 96 "HotGroundModel" "turbines" "I") (by decide +kernel)) (fun _ h9 => h9) rfl dX6_turbine_34 ?_
        refine lv_iconst (v := nI 4) hx hb dX6_turbine_37 (by decide) ?_
        refine lv_icmp_ne (tgt := 44) hx hb dX6_turbine_38 (by decide) (fun c_38 => ?_) (fun c_38 => ?_)
        · skip
          have hc : hg_n S 1 < 4 := by have : ¬ hg_n S 1 = 4 := fun h => c_38 ((nI_eq (by omega) (by omega)).mpr h); omega
          refine lv_aload_n hx hb dX6_turbine_44 rfl (lv_at hl 0 rfl) ?_
          refine va_get (C := RX6) (T := TX6) (N := 27) (v := .ref (o 6)) hx hb hts hi6 hown hK hP 0 rfl rfl 8 (by decide) (hts (.fieldLink RX6 26 "HotGroundModel" "least" "[I") (by decide +kernel)) (fun _ h9 => h9) rfl dX6_turbine_45 ?_
          refine lv_aload_n hx hb dX6_turbine_48 rfl (lv_at hl 0 rfl) ?_
          refine va_get (C := RX6) (T := TX6) (N := 27) (v := .int (nI (hg_n S 1))) hx hb hts hi6 hown hK hP 0 rfl rfl 7 (by decide) (hts (.fieldLink RX6 96 "HotGroundModel" "turbines" "I") (by decide +kernel)) (fun _ h9 => h9) rfl dX6_turbine_49 ?_
          refine lv_iload_n hx hb dX6_turbine_52 rfl (lv_at hl 1 rfl) ?_
          refine h_iast (f := hg_i S 5) (ws' := mW o cI cJ cZ (hg_si S 5 (upd (hg_i S 5) (hg_n S 1) a))) hx hb hK hP hD hS 6 0 rfl rfl (hg_n S 1) (rfl) (by omega) (by decide) rfl dX6_turbine_53 (fun H locs hP hD hS => ?_)
          refine lv_aload_n hx hb dX6_turbine_54 rfl (lv_at hl 0 rfl) ?_
          refine va_get (C := RX6) (T := TX6) (N := 27) (v := .ref (o 7)) hx hb hts hi6 hown hK hP 0 rfl rfl 9 (by decide) (hts (.fieldLink RX6 29 "HotGroundModel" "rate" "[I") (by decide +kernel)) (fun _ h9 => h9) rfl dX6_turbine_55 ?_
          refine lv_aload_n hx hb dX6_turbine_58 rfl (lv_at hl 0 rfl) ?_
          refine va_get (C := RX6) (T := TX6) (N := 27) (v := .int (nI (hg_n S 1))) hx hb hts hi6 hown hK hP 0 rfl rfl 7 (by decide) (hts (.fieldLink RX6 96 "HotGroundModel" "turbines" "I") (by decide +kernel)) (fun _ h9 => h9) rfl dX6_turbine_59 ?_
          refine lv_iload_n hx hb dX6_turbine_62 rfl (lv_at hl 2 rfl) ?_
          refine h_iast (f := hg_i S 6) (ws' := mW o cI cJ cZ (hg_si (hg_si S 5 (upd (hg_i S 5) (hg_n S 1) a)) 6 (upd (hg_i S 6) (hg_n S 1) b))) hx hb hK hP hD hS 7 0 rfl rfl (hg_n S 1) (rfl) (by omega) (by decide) rfl dX6_turbine_63 (fun H locs hP hD hS => ?_)
          refine lv_aload_n hx hb dX6_turbine_64 rfl (lv_at hl 0 rfl) ?_
          refine va_get (C := RX6) (T := TX6) (N := 27) (v := .ref (o 8)) hx hb hts hi6 hown hK hP 0 rfl rfl 10 (by decide) (hts (.fieldLink RX6 32 "HotGroundModel" "most" "[I") (by decide +kernel)) (fun _ h9 => h9) rfl dX6_turbine_65 ?_
          refine lv_aload_n hx hb dX6_turbine_68 rfl (lv_at hl 0 rfl) ?_
          refine va_get (C := RX6) (T := TX6) (N := 27) (v := .int (nI (hg_n S 1))) hx hb hts hi6 hown hK hP 0 rfl rfl 7 (by decide) (hts (.fieldLink RX6 96 "HotGroundModel" "turbines" "I") (by decide +kernel)) (fun _ h9 => h9) rfl dX6_turbine_69 ?_
          refine lv_iload_n hx hb dX6_turbine_72 rfl (lv_at hl 3 rfl) ?_
          refine h_iast (f := hg_i S 7) (ws' := mW o cI cJ cZ (hg_si (hg_si (hg_si S 5 (upd (hg_i S 5) (hg_n S 1) a)) 6 (upd (hg_i S 6) (hg_n S 1) b)) 7 (upd (hg_i S 7) (hg_n S 1) d))) hx hb hK hP hD hS 8 0 rfl rfl (hg_n S 1) (rfl) (by omega) (by decide) rfl dX6_turbine_73 (fun H locs hP hD hS => ?_)
          refine lv_aload_n hx hb dX6_turbine_74 rfl (lv_at hl 0 rfl) ?_
          refine va_get (C := RX6) (T := TX6) (N := 27) (v := .ref (o 9)) hx hb hts hi6 hown hK hP 0 rfl rfl 11 (by decide) (hts (.fieldLink RX6 35 "HotGroundModel" "isOn" "[Z") (by decide +kernel)) (fun _ h9 => h9) rfl dX6_turbine_75 ?_
          refine lv_aload_n hx hb dX6_turbine_78 rfl (lv_at hl 0 rfl) ?_
          refine va_get (C := RX6) (T := TX6) (N := 27) (v := .int (nI (hg_n S 1))) hx hb hts hi6 hown hK hP 0 rfl rfl 7 (by decide) (hts (.fieldLink RX6 96 "HotGroundModel" "turbines" "I") (by decide +kernel)) (fun _ h9 => h9) rfl dX6_turbine_79 ?_
          refine lv_iconst (v := nI 1) hx hb dX6_turbine_82 (by decide) ?_
          refine h_zast (f := hg_i S 8) (ws' := mW o cI cJ cZ (hg_si (hg_si (hg_si (hg_si S 5 (upd (hg_i S 5) (hg_n S 1) a)) 6 (upd (hg_i S 6) (hg_n S 1) b)) 7 (upd (hg_i S 7) (hg_n S 1) d)) 8 (upd (hg_i S 8) (hg_n S 1) (nI 1)))) hx hb hK hP hD hS 9 2 rfl rfl (hg_n S 1) (rfl) (by omega) (by decide) (by decide) rfl dX6_turbine_83 (fun H locs hP hD hS => ?_)
          refine lv_aload_n hx hb dX6_turbine_84 rfl (lv_at hl 0 rfl) ?_
          refine lv_dup hx hb dX6_turbine_85 rfl ?_
          refine va_get (C := RX6) (T := TX6) (N := 27) (v := .int (nI (hg_n S 1))) hx hb hts hi6 hown hK hP 0 rfl rfl 7 (by decide) (hts (.fieldLink RX6 96 "HotGroundModel" "turbines" "I") (by decide +kernel)) (fun _ h9 => h9) rfl dX6_turbine_86 ?_
          refine lv_iconst (v := nI 1) hx hb dX6_turbine_89 (by decide) ?_
          refine lv_iadd hx hb dX6_turbine_90 ?_
          refine h_topi (y := nI ((hg_n S 1) + 1)) (nI_add _ _) ?_
          refine h_put (C := RX6) (T := TX6) (N := 27) (v := .int (nI ((hg_n S 1) + 1))) (ty := .int) (ws' := mW o cI cJ cZ (hg_sn (hg_si (hg_si (hg_si (hg_si S 5 (upd (hg_i S 5) (hg_n S 1) a)) 6 (upd (hg_i S 6) (hg_n S 1) b)) 7 (upd (hg_i S 7) (hg_n S 1) d)) 8 (upd (hg_i S 8) (hg_n S 1) (nI 1))) 1 ((hg_n S 1) + 1))) hx hb hts hi6 tyX6 tyX6_ok nmX6 hown hK hP hD hS 0 rfl rfl 7 (by decide) (hts (.fieldLink RX6 96 "HotGroundModel" "turbines" "I") (by decide +kernel)) (fun _ h9 => h9) rfl (by decide +kernel) rfl rfl (Nat.le_of_ble_eq_true rfl) rfl dX6_turbine_91 (fun H locs hP hD hS => ?_)
          refine lv_aload_n hx hb dX6_turbine_94 rfl (lv_at hl 0 rfl) ?_
          refine va_get (C := RX6) (T := TX6) (N := 27) (v := .int (nI ((hg_n S 1) + 1))) hx hb hts hi6 hown hK hP 0 rfl rfl 7 (by decide) (hts (.fieldLink RX6 96 "HotGroundModel" "turbines" "I") (by decide +kernel)) (fun _ h9 => h9) rfl dX6_turbine_95 ?_
          refine lv_iconst (v := nI 1) hx hb dX6_turbine_98 (by decide) ?_
          refine lv_isub hx hb dX6_turbine_99 ?_
          refine h_topi (y := nI (((hg_n S 1) + 1) - 1)) (pk_sub (by omega)) ?_
          have hq : r_turb S a b d = (nI (((hg_n S 1) + 1) - 1), hg_sn (hg_si (hg_si (hg_si (hg_si S 5 (upd (hg_i S 5) (hg_n S 1) a)) 6 (upd (hg_i S 6) (hg_n S 1) b)) 7 (upd (hg_i S 7) (hg_n S 1) d)) 8 (upd (hg_i S 8) (hg_n S 1) (nI 1))) 1 ((hg_n S 1) + 1)) := by unfold r_turb; rw [if_pos (⟨v_7, v_17, v_28⟩)]; rw [if_pos (by omega)]; rfl
          rw [show (hg_sn (hg_si (hg_si (hg_si (hg_si S 5 (upd (hg_i S 5) (hg_n S 1) a)) 6 (upd (hg_i S 6) (hg_n S 1) b)) 7 (upd (hg_i S 7) (hg_n S 1) d)) 8 (upd (hg_i S 8) (hg_n S 1) (nI 1))) 1 ((hg_n S 1) + 1) : hg_S) = (r_turb S a b d).2 from by rw [hq]] at hP hD
          exact W.iret (v := nI (((hg_n S 1) + 1) - 1)) hx hb hr (fun t ht hW => ⟨⟨_, (), rfl, by rw [hq], ⟨by rw [ht]; exact hP, hD⟩⟩, hS.F ht⟩) hS.2.2 dX6_turbine_100
        · skip
          have hc : ¬ hg_n S 1 < 4 := by have := (nI_eq (by omega) (by omega)).mp c_38; omega
          refine lv_bipush (v := -3) hx hb dX6_turbine_41 (by decide) ?_
          have hq : r_turb S a b d = ((-3), S) := by unfold r_turb; rw [if_pos (⟨v_7, v_17, v_28⟩)]; rw [if_neg (by omega)]
          rw [show (S : hg_S) = (r_turb S a b d).2 from by rw [hq]] at hP hD
          exact W.iret (v := (-3)) hx hb hr (fun t ht hW => ⟨⟨_, (), rfl, by rw [hq], ⟨by rw [ht]; exact hP, hD⟩⟩, hS.F ht⟩) hS.2.2 dX6_turbine_43
      · skip
        have v_28 : ¬ ((nI 1) ≤ d ∧ d ≤ (nI 2000)) := hg_in_f c_28
        refine lv_iconst (v := -1) hx hb dX6_turbine_31 (by decide) ?_
        have hq : r_turb S a b d = ((-1), S) := by unfold r_turb; rw [if_neg (fun q => v_28 q.2.2)]
        rw [show (S : hg_S) = (r_turb S a b d).2 from by rw [hq]] at hP hD
        exact W.iret (v := (-1)) hx hb hr (fun t ht hW => ⟨⟨_, (), rfl, by rw [hq], ⟨by rw [ht]; exact hP, hD⟩⟩, hS.F ht⟩) hS.2.2 dX6_turbine_32
set_option maxHeartbeats 4000000 in
set_option maxRecDepth 100000 in
/-- on -/
theorem m_X6_on (l : Launch) (D : va_G) (o : Nat → Nat) (cI cJ cZ : ClassId) (S : hg_S) (sz : Nat) (h1 : hg_n S 1 ≤ 4) (w x : Int32) (hx01 : vp_nar .boolean x = x)  : Met l yX6_on wsX6_on ({ frames := 1, cells := 0, slots := 0, locals := 22 }) (va_Pc [.ref (o 0), .int w, .int x] (hg_Wr D (mW o cI cJ cZ S) (hg_ty cI cJ cZ) sz)) (va_Qi (fun (r : Int32) (_ : Unit) => r = (r_on S w x).1) (fun _ t => hg_At D (mW o cI cJ cZ ((r_on S w x).2)) (va_A (mW o cI cJ cZ S) sz) t) (va_A (mW o cI cJ cZ S) sz)) 0 0 (va_A (mW o cI cJ cZ S) sz) := by
  refine h_start (cc := cX6_on) (maxL := 4) (ret := (some .int)) (by decide) rfl (Nat.le_of_ble_eq_true rfl) ?_
  intro pg ev s mi args below meth cd ls hx hb hr hts hown hlocks hml hnm hpic hl
  obtain ⟨hsz, hP, hK, hD0⟩ := hpic
  subst hsz
  have hD := hD0.self (sz := s.heap.size)
  generalize hAe : va_A (mW o cI cJ cZ S) s.heap.size = A at hD ⊢
  have hA : ∀ q : Nat, s.heap.size ≤ q → A q := fun q h => by rw [← hAe]; exact Or.inr h
  have hS : va_S A s.heap s.heap [] := va_S.rf
  have hi6 : ∀ w ∈ u_ws RX6 TX6 27, w ∈ wsX6_on := by decide +kernel
  have hl : lv_has ls 4 [(0, .ref (o 0)), (1, .int w), (2, .int x)] := hl
  refine lv_iload_n hx hb dX6_on_0 rfl (lv_at hl 1 rfl) ?_
  refine lv_iconst (v := nI 0) hx hb dX6_on_1 (by decide) ?_
  refine lv_aload_n hx hb dX6_on_2 rfl (lv_at hl 0 rfl) ?_
  refine va_get (C := RX6) (T := TX6) (N := 27) (v := .int (nI (hg_n S 1))) hx hb hts hi6 hown hK hP 0 rfl rfl 7 (by decide) (hts (.fieldLink RX6 96 "HotGroundModel" "turbines" "I") (by decide +kernel)) (fun _ h9 => h9) rfl dX6_on_3 ?_
  refine lv_iconst (v := nI 1) hx hb dX6_on_6 (by decide) ?_
  refine lv_isub hx hb dX6_on_7 ?_
  refine vp_callSi (va_Run.run (va_runS (As := [.int w, .int (nI 0), .int ((nI (hg_n S 1)) - (nI 1))]) (rest := []) ⟨hx, hb, hml, hown, hts⟩ (m_X6_in l w (nI 0) ((nI (hg_n S 1)) - (nI 1))) (va_cwS 3 hts gX6_on_X6_in rfl rfl rfl (by decide +kernel) ⟨Nat.le_of_ble_eq_true rfl, Nat.le_of_ble_eq_true rfl⟩) (h_preS0) rfl rfl hl.1 rfl (lv_room (Nat.le_of_ble_eq_true rfl)) dX6_on_8 ⟨Nat.le_of_ble_eq_true rfl, Nat.le_of_ble_eq_true rfl⟩)) (fun r_1 hr_1 => ?_)
  subst hr_1
  refine lv_if_ne (tgt := 16) hx hb dX6_on_11 (by decide) (fun c_11 => ?_) (fun c_11 => ?_)
  · skip
    have v_11 : ((nI 0) ≤ w ∧ w ≤ ((nI (hg_n S 1)) - (nI 1))) := hg_in_t c_11
    obtain ⟨kw, kwh, rfl⟩ := hg_wel (by omega) v_11
    refine lv_aload_n hx hb dX6_on_16 rfl (lv_at hl 0 rfl) ?_
    refine va_get (C := RX6) (T := TX6) (N := 27) (v := .ref (o 9)) hx hb hts hi6 hown hK hP 0 rfl rfl 11 (by decide) (hts (.fieldLink RX6 35 "HotGroundModel" "isOn" "[Z") (by decide +kernel)) (fun _ h9 => h9) rfl dX6_on_17 ?_
    refine lv_iload_n hx hb dX6_on_20 rfl (lv_at hl 1 rfl) ?_
    refine h_zald (f := hg_i S 8) hx hb hK hP 9 2 rfl rfl kw (rfl) (by omega) (by decide) dX6_on_21 ?_
    refine lv_if_eq (tgt := 29) hx hb dX6_on_22 (by decide) (fun c_22 => ?_) (fun c_22 => ?_)
    · skip
      refine lv_iconst (v := nI 0) hx hb dX6_on_29 (by decide) ?_
      refine lv_istore_n (lv' := [(3, .int (nI 0)), (0, .ref (o 0)), (1, .int (nI kw)), (2, .int x)]) hx hb dX6_on_30 rfl hl (by decide) rfl (fun ls hl => ?_)
      refine lv_aload_n hx hb dX6_on_31 rfl (lv_at hl 1 rfl) ?_
      refine va_get (C := RX6) (T := TX6) (N := 27) (v := .ref (o 9)) hx hb hts hi6 hown hK hP 0 rfl rfl 11 (by decide) (hts (.fieldLink RX6 35 "HotGroundModel" "isOn" "[Z") (by decide +kernel)) (fun _ h9 => h9) rfl dX6_on_32 ?_
      refine lv_iload_n hx hb dX6_on_35 rfl (lv_at hl 2 rfl) ?_
      refine lv_iload_n hx hb dX6_on_36 rfl (lv_at hl 3 rfl) ?_
      refine h_zast (f := hg_i S 8) (ws' := mW o cI cJ cZ (hg_si S 8 (upd (hg_i S 8) kw x))) hx hb hK hP hD hS 9 2 rfl rfl kw (rfl) (by omega) (by decide) (hx01) rfl dX6_on_37 (fun H locs hP hD hS => ?_)
      refine lv_iload_n hx hb dX6_on_38 rfl (lv_at hl 0 rfl) ?_
      have hq : r_on S (nI kw) x = (nI 0, hg_si S 8 (upd (hg_i S 8) kw x)) := by unfold r_on; rw [if_pos v_11]; (try rw [nI_clamp (show kw < 2 ^ 31 by omega)]); unfold f_01; rw [if_pos c_22]
      rw [show (hg_si S 8 (upd (hg_i S 8) kw x) : hg_S) = (r_on S (nI kw) x).2 from by rw [hq]] at hP hD
      exact W.iret (v := nI 0) hx hb hr (fun t ht hW => ⟨⟨_, (), rfl, by rw [hq], ⟨by rw [ht]; exact hP, hD⟩⟩, hS.F ht⟩) hS.2.2 dX6_on_39
    · skip
      refine lv_iconst (v := nI 1) hx hb dX6_on_25 (by decide) ?_
      refine lv_goto (tgt := 30) hx hb dX6_on_26 (by decide) ?_
      refine lv_istore_n (lv' := [(3, .int (nI 1)), (0, .ref (o 0)), (1, .int (nI kw)), (2, .int x)]) hx hb dX6_on_30 rfl hl (by decide) rfl (fun ls hl => ?_)
      refine lv_aload_n hx hb dX6_on_31 rfl (lv_at hl 1 rfl) ?_
      refine va_get (C := RX6) (T := TX6) (N := 27) (v := .ref (o 9)) hx hb hts hi6 hown hK hP 0 rfl rfl 11 (by decide) (hts (.fieldLink RX6 35 "HotGroundModel" "isOn" "[Z") (by decide +kernel)) (fun _ h9 => h9) rfl dX6_on_32 ?_
      refine lv_iload_n hx hb dX6_on_35 rfl (lv_at hl 2 rfl) ?_
      refine lv_iload_n hx hb dX6_on_36 rfl (lv_at hl 3 rfl) ?_
      refine h_zast (f := hg_i S 8) (ws' := mW o cI cJ cZ (hg_si S 8 (upd (hg_i S 8) kw x))) hx hb hK hP hD hS 9 2 rfl rfl kw (rfl) (by omega) (by decide) (hx01) rfl dX6_on_37 (fun H locs hP hD hS => ?_)
      refine lv_iload_n hx hb dX6_on_38 rfl (lv_at hl 0 rfl) ?_
      have hq : r_on S (nI kw) x = (nI 1, hg_si S 8 (upd (hg_i S 8) kw x)) := by unfold r_on; rw [if_pos v_11]; (try rw [nI_clamp (show kw < 2 ^ 31 by omega)]); unfold f_01; rw [if_neg c_22]
      rw [show (hg_si S 8 (upd (hg_i S 8) kw x) : hg_S) = (r_on S (nI kw) x).2 from by rw [hq]] at hP hD
      exact W.iret (v := nI 1) hx hb hr (fun t ht hW => ⟨⟨_, (), rfl, by rw [hq], ⟨by rw [ht]; exact hP, hD⟩⟩, hS.F ht⟩) hS.2.2 dX6_on_39
  · skip
    have v_11 : ¬ ((nI 0) ≤ w ∧ w ≤ ((nI (hg_n S 1)) - (nI 1))) := hg_in_f c_11
    refine lv_iconst (v := -1) hx hb dX6_on_14 (by decide) ?_
    have hq : r_on S w x = ((-1), S) := by unfold r_on; rw [if_neg (fun q => v_11 q)]
    rw [show (S : hg_S) = (r_on S w x).2 from by rw [hq]] at hP hD
    exact W.iret (v := (-1)) hx hb hr (fun t ht hW => ⟨⟨_, (), rfl, by rw [hq], ⟨by rw [ht]; exact hP, hD⟩⟩, hS.F ht⟩) hS.2.2 dX6_on_15
