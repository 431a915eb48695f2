set_option maxHeartbeats 4000000 in
set_option maxRecDepth 100000 in
/-- within -/
theorem m_X5_within (l : Launch) (v a b : Int32) : Met l yX5_within wsX5_within ({ frames := 0, cells := 0, slots := 0, locals := 0 }) (va_Pc [.int v, .int a, .int b] (fun _ => True)) (vp_Si (fun r => r = hg_in v a b)) 0 0 (fun _ => False) := by
  refine h_start (cc := cX5_within) (maxL := 3) (ret := (some .boolean)) (by decide) rfl (Nat.le_of_ble_eq_true rfl) ?_
  intro pg ev s mi args below meth cd ls hx hb hr hts hown hlocks hml hnm hpic hl
  have hl : lv_has ls 3 [(0, .int v), (1, .int a), (2, .int b)] := hl
  refine lv_iload_n hx hb dX5_within_0 rfl (lv_at hl 0 rfl) ?_
  refine lv_iload_n hx hb dX5_within_1 rfl (lv_at hl 1 rfl) ?_
  refine lv_icmp_lt (tgt := 14) hx hb dX5_within_2 (by decide) (fun c_2 => ?_) (fun c_2 => ?_)
  · skip
    refine lv_iconst (v := nI 0) hx hb dX5_within_14 (by decide) ?_
    exact W.zret (v := nI 0) hx hb hr (by decide) (fun t ht hW => ⟨_, rfl, by rw [hg_in_0 (fun q => by first | exact hg_nlt.mpr q.1 c_2 | exact hg_nlt.mpr q.2 c_7)]; decide, ht⟩) (fun _ h9 => nomatch h9) dX5_within_15
  · skip
    refine lv_iload_n hx hb dX5_within_5 rfl (lv_at hl 0 rfl) ?_
    refine lv_iload_n hx hb dX5_within_6 rfl (lv_at hl 2 rfl) ?_
    refine lv_icmp_gt (tgt := 14) hx hb dX5_within_7 (by decide) (fun c_7 => ?_) (fun c_7 => ?_)
    · skip
      refine lv_iconst (v := nI 0) hx hb dX5_within_14 (by decide) ?_
      exact W.zret (v := nI 0) hx hb hr (by decide) (fun t ht hW => ⟨_, rfl, by rw [hg_in_0 (fun q => by first | exact hg_nlt.mpr q.1 c_2 | exact hg_nlt.mpr q.2 c_7)]; decide, ht⟩) (fun _ h9 => nomatch h9) dX5_within_15
    · skip
      refine lv_iconst (v := nI 1) hx hb dX5_within_10 (by decide) ?_
      refine lv_goto (tgt := 15) hx hb dX5_within_11 (by decide) ?_
      exact W.zret (v := nI 1) hx hb hr (by decide) (fun t ht hW => ⟨_, rfl, by rw [hg_in_1 ⟨hg_nlt.mp c_2, hg_nlt.mp c_7⟩]; decide, ht⟩) (fun _ h9 => nomatch h9) dX5_within_15
set_option maxHeartbeats 4000000 in
set_option maxRecDepth 100000 in
/-- isPressure -/
theorem m_X5_isPressure (l : Launch) (v : Int32) : Met l yX5_isPressure wsX5_isPressure ({ frames := 1, cells := 0, slots := 0, locals := 22 }) (va_Pc [.int v] (fun _ => True)) (vp_Si (fun r => r = hg_in v (nI 0) (nI 20))) 0 0 (fun _ => False) := by
  refine h_start (cc := cX5_isPressure) (maxL := 1) (ret := (some .boolean)) (by decide) rfl (Nat.le_of_ble_eq_true rfl) ?_
  intro pg ev s mi args below meth cd ls hx hb hr hts hown hlocks hml hnm hpic hl
  have hl : lv_has ls 1 [(0, .int v)] := hl
  refine lv_iload_n hx hb dX5_isPressure_0 rfl (lv_at hl 0 rfl) ?_
  refine lv_iconst (v := nI 0) hx hb dX5_isPressure_1 (by decide) ?_
  refine lv_bipush (v := nI 20) hx hb dX5_isPressure_2 (by decide) ?_
  refine vp_callSi (va_Run.run (va_runS (As := [.int v, .int (nI 0), .int (nI 20)]) (rest := []) ⟨hx, hb, hml, hown, hts⟩ (m_X5_within l v (nI 0) (nI 20)) (va_cwS 3 hts gX5_isPressure_X5_within rfl rfl rfl (by decide +kernel) ⟨Nat.le_of_ble_eq_true rfl, Nat.le_of_ble_eq_true rfl⟩) (h_preS0) rfl rfl hl.1 rfl (lv_room (Nat.le_of_ble_eq_true rfl)) dX5_isPressure_4 ⟨Nat.le_of_ble_eq_true rfl, Nat.le_of_ble_eq_true rfl⟩)) (fun r_1 hr_1 => ?_)
  subst hr_1
  exact W.zret (v := hg_in v (nI 0) (nI 20)) hx hb hr (hg_in_nar _ _ _) (fun t ht hW => ⟨_, rfl, rfl, ht⟩) (fun _ h9 => nomatch h9) dX5_isPressure_7
set_option maxHeartbeats 4000000 in
set_option maxRecDepth 100000 in
/-- isBox -/
theorem m_X5_isBox (l : Launch) (v : Int32) : Met l yX5_isBox wsX5_isBox ({ frames := 1, cells := 0, slots := 0, locals := 22 }) (va_Pc [.int v] (fun _ => True)) (vp_Si (fun r => r = hg_in v (nI 0) (nI 3))) 0 0 (fun _ => False) := by
  refine h_start (cc := cX5_isBox) (maxL := 1) (ret := (some .boolean)) (by decide) rfl (Nat.le_of_ble_eq_true rfl) ?_
  intro pg ev s mi args below meth cd ls hx hb hr hts hown hlocks hml hnm hpic hl
  have hl : lv_has ls 1 [(0, .int v)] := hl
  refine lv_iload_n hx hb dX5_isBox_0 rfl (lv_at hl 0 rfl) ?_
  refine lv_iconst (v := nI 0) hx hb dX5_isBox_1 (by decide) ?_
  refine lv_iconst (v := nI 3) hx hb dX5_isBox_2 (by decide) ?_
  refine vp_callSi (va_Run.run (va_runS (As := [.int v, .int (nI 0), .int (nI 3)]) (rest := []) ⟨hx, hb, hml, hown, hts⟩ (m_X5_within l v (nI 0) (nI 3)) (va_cwS 3 hts gX5_isBox_X5_within rfl rfl rfl (by decide +kernel) ⟨Nat.le_of_ble_eq_true rfl, Nat.le_of_ble_eq_true rfl⟩) (h_preS0) rfl rfl hl.1 rfl (lv_room (Nat.le_of_ble_eq_true rfl)) dX5_isBox_3 ⟨Nat.le_of_ble_eq_true rfl, Nat.le_of_ble_eq_true rfl⟩)) (fun r_1 hr_1 => ?_)
  subst hr_1
  exact W.zret (v := hg_in v (nI 0) (nI 3)) hx hb hr (hg_in_nar _ _ _) (fun t ht hW => ⟨_, rfl, rfl, ht⟩) (fun _ h9 => nomatch h9) dX5_isBox_6
set_option maxHeartbeats 4000000 in
set_option maxRecDepth 100000 in
/-- isPlanYear -/
theorem m_X5_isPlanYear (l : Launch) (v : Int32) : Met l yX5_isPlanYear wsX5_isPlanYear ({ frames := 1, cells := 0, slots := 0, locals := 22 }) (va_Pc [.int v] (fun _ => True)) (vp_Si (fun r => r = hg_in v (nI 0) (nI 5))) 0 0 (fun _ => False) := by
  refine h_start (cc := cX5_isPlanYear) (maxL := 1) (ret := (some .boolean)) (by decide) rfl (Nat.le_of_ble_eq_true rfl) ?_
  intro pg ev s mi args below meth cd ls hx hb hr hts hown hlocks hml hnm hpic hl
  have hl : lv_has ls 1 [(0, .int v)] := hl
  refine lv_iload_n hx hb dX5_isPlanYear_0 rfl (lv_at hl 0 rfl) ?_
  refine lv_iconst (v := nI 0) hx hb dX5_isPlanYear_1 (by decide) ?_
  refine lv_iconst (v := nI 5) hx hb dX5_isPlanYear_2 (by decide) ?_
  refine vp_callSi (va_Run.run (va_runS (As := [.int v, .int (nI 0), .int (nI 5)]) (rest := []) ⟨hx, hb, hml, hown, hts⟩ (m_X5_within l v (nI 0) (nI 5)) (va_cwS 3 hts gX5_isPlanYear_X5_within rfl rfl rfl (by decide +kernel) ⟨Nat.le_of_ble_eq_true rfl, Nat.le_of_ble_eq_true rfl⟩) (h_preS0) rfl rfl hl.1 rfl (lv_room (Nat.le_of_ble_eq_true rfl)) dX5_isPlanYear_3 ⟨Nat.le_of_ble_eq_true rfl, Nat.le_of_ble_eq_true rfl⟩)) (fun r_1 hr_1 => ?_)
  subst hr_1
  exact W.zret (v := hg_in v (nI 0) (nI 5)) hx hb hr (hg_in_nar _ _ _) (fun t ht hW => ⟨_, rfl, rfl, ht⟩) (fun _ h9 => nomatch h9) dX5_isPlanYear_6
set_option maxHeartbeats 4000000 in
set_option maxRecDepth 100000 in
/-- is there such a well -/
theorem m_X5_isWell (l : Launch) (D : va_G) (o : Nat → Nat) (cI cJ cZ : ClassId) (S : hg_S) (v : Int32) : Met l yX5_isWell wsX5_isWell ({ frames := 1, cells := 0, slots := 0, locals := 22 }) (va_Pc [.ref (o 0), .int v] (hg_R D (xW o cI cJ cZ S) (hg_ty cI cJ cZ))) (vp_Si (fun r => r = hg_in v (nI 0) (nI (hg_n S 0) - nI 1))) 0 0 (fun _ => False) := by
  refine h_start (cc := cX5_isWell) (maxL := 2) (ret := (some .boolean)) (by decide) rfl (Nat.le_of_ble_eq_true rfl) ?_
  intro pg ev s mi args below meth cd ls hx hb hr hts hown hlocks hml hnm hpic hl
  obtain ⟨hP, hK⟩ := hpic
  have hi4 : ∀ w ∈ u_ws RX4 TX4 6, w ∈ wsX5_isWell := by decide +kernel
  have hi5 : ∀ w ∈ u_ws RX5 TX5 6, w ∈ wsX5_isWell := by decide +kernel
  have hl : lv_has ls 2 [(0, .ref (o 0)), (1, .int v)] := hl
  refine lv_iload_n hx hb dX5_isWell_0 rfl (lv_at hl 1 rfl) ?_
  refine lv_iconst (v := nI 0) hx hb dX5_isWell_1 (by decide) ?_
  refine lv_aload_n hx hb dX5_isWell_2 rfl (lv_at hl 0 rfl) ?_
  refine va_get (C := RX5) (T := TX5) (N := 6) (v := .ref (o 1)) hx hb hts hi5 hown hK hP 0 rfl rfl 0 (by decide) (hts (.fieldLink RX5 10 "HotGround" "wells" "LHotGround$Wells;") (by decide +kernel)) (fun _ h9 => h9) rfl dX5_isWell_3 ?_
  refine va_get (C := RX4) (T := TX4) (N := 6) (v := .int (nI (hg_n S 0))) hx hb hts hi4 hown hK hP 1 rfl rfl 0 (by decide) (hts (.fieldLink RX5 52 "HotGround$Wells" "count" "I") (by decide +kernel)) (fun _ h9 => h9) rfl dX5_isWell_6 ?_
  refine lv_iconst (v := nI 1) hx hb dX5_isWell_9 (by decide) ?_
  refine lv_isub hx hb dX5_isWell_10 ?_
  refine vp_callSi (va_Run.run (va_runS (As := [.int v, .int (nI 0), .int ((nI (hg_n S 0)) - (nI 1))]) (rest := []) ⟨hx, hb, hml, hown, hts⟩ (m_X5_within l v (nI 0) ((nI (hg_n S 0)) - (nI 1))) (va_cwS 3 hts gX5_isWell_X5_within rfl rfl rfl (by decide +kernel) ⟨Nat.le_of_ble_eq_true rfl, Nat.le_of_ble_eq_true rfl⟩) (h_preS0) rfl rfl hl.1 rfl (lv_room (Nat.le_of_ble_eq_true rfl)) dX5_isWell_11 ⟨Nat.le_of_ble_eq_true rfl, Nat.le_of_ble_eq_true rfl⟩)) (fun r_1 hr_1 => ?_)
  subst hr_1
  exact W.zret (v := hg_in v (nI 0) ((nI (hg_n S 0)) - (nI 1))) hx hb hr (hg_in_nar _ _ _) (fun t ht hW => ⟨_, rfl, rfl, ht⟩) (fun _ h9 => nomatch h9) dX5_isWell_14
set_option maxHeartbeats 4000000 in
set_option maxRecDepth 100000 in
/-- how many are -/
theorem m_X5_trues3 (l : Launch) (D : va_G) (o : Nat → Nat) (cI cJ cZ : ClassId) (S : hg_S) (n : Nat) (hn : n ≤ 8) : Met l yX5_trues wsX5_trues ({ frames := 0, cells := 0, slots := 0, locals := 0 }) (va_Pc [.ref (o 9), .int (nI n)] (hg_R D (xW o cI cJ cZ S) (hg_ty cI cJ cZ))) (vp_Si (fun r => r = f_tr (hg_i S 3) n)) 0 0 (fun _ => False) := by
  refine h_start (cc := cX5_trues) (maxL := 4) (ret := (some .int)) (by decide) rfl (Nat.le_of_ble_eq_true rfl) ?_
  intro pg ev s mi args below meth cd ls hx hb hr hts hown hlocks hml hnm hpic hl
  obtain ⟨hP, hK⟩ := hpic
  have hl : lv_has ls 4 [(0, .ref (o 9)), (1, .int (nI n))] := hl
  refine lv_iconst (v := nI 0) hx hb dX5_trues_0 (by decide) ?_
  refine h_topi (y := hg_sum (fun i => f_01 (hg_i S 3 i)) 0) (hg_sum_0) ?_
  refine lv_istore_n (lv' := [(2, .int (hg_sum (fun i => f_01 (hg_i S 3 i)) 0)), (0, .ref (o 9)), (1, .int (nI n))]) hx hb dX5_trues_1 rfl hl (by decide) rfl (fun ls hl => ?_)
  refine lv_iconst (v := nI 0) hx hb dX5_trues_2 (by decide) ?_
  refine lv_istore_n (lv' := [(3, .int (nI 0)), (2, .int (hg_sum (fun i => f_01 (hg_i S 3 i)) 0)), (0, .ref (o 9)), (1, .int (nI n))]) hx hb dX5_trues_3 rfl hl (by decide) rfl (fun ls hl => ?_)
  refine h_for (nL := 4) (n) (fun i => [(3, .int (nI i)), (2, .int (hg_sum (fun i => f_01 (hg_i S 3 i)) i)), (0, .ref (o 9)), (1, .int (nI n))]) ?_ ?_ (lv_sub hl [0, 1, 2, 3] rfl)
  · intro i ls hi hl ih
    have hl : lv_has ls 4 [(3, .int (nI i)), (2, .int (hg_sum (fun i => f_01 (hg_i S 3 i)) i)), (0, .ref (o 9)), (1, .int (nI n))] := hl
    refine lv_iload_n hx hb dX5_trues_4 rfl (lv_at hl 0 rfl) ?_
    refine lv_iload_n hx hb dX5_trues_5 rfl (lv_at hl 3 rfl) ?_
    refine lv_icmp_ge (tgt := 24) hx hb dX5_trues_6 (by decide) (fun c_6 => absurd c_6 (nI_ge hi (by omega))) (fun c_6 => ?_)
    refine lv_aload_n hx hb dX5_trues_9 rfl (lv_at hl 2 rfl) ?_
    refine lv_iload_n hx hb dX5_trues_10 rfl (lv_at hl 0 rfl) ?_
    refine h_zald (f := hg_i S 3) hx hb hK hP 9 2 rfl rfl i (rfl) (by omega) (by decide) dX5_trues_11 ?_
    refine lv_if_eq (tgt := 18) hx hb dX5_trues_12 (by decide) (fun c_12 => ?_) (fun c_12 => ?_)
    · skip
      rw [show hg_sum (fun i => f_01 (hg_i S 3 i)) i = hg_sum (fun i => f_01 (hg_i S 3 i)) (i + 1) from hg_sum_keep (g := fun i => f_01 (hg_i S 3 i)) (n := i) (by show f_01 _ = 0; unfold f_01; rw [if_pos c_12, nI_0])] at hl
      have hl : lv_has ls 4 [(3, .int (nI i)), (2, .int (hg_sum (fun i => f_01 (hg_i S 3 i)) (i + 1))), (0, .ref (o 9)), (1, .int (nI n))] := hl
      refine lv_iinc (v := nI (i + 1)) (lv' := [(3, .int (nI (i + 1))), (2, .int (hg_sum (fun i => f_01 (hg_i S 3 i)) (i + 1))), (0, .ref (o 9)), (1, .int (nI n))]) hx hb dX5_trues_18 hl (k := 0) rfl (nI_1 _) (by decide) rfl (fun ls hl => ?_)
      refine lv_goto (tgt := 4) hx hb dX5_trues_21 (by decide) ?_
      exact ih ls (lv_sub hl [0, 1, 2, 3] rfl)
    · skip
      refine lv_iinc (v := hg_sum (fun i => f_01 (hg_i S 3 i)) (i + 1)) (lv' := [(2, .int (hg_sum (fun i => f_01 (hg_i S 3 i)) (i + 1))), (3, .int (nI i)), (0, .ref (o 9)), (1, .int (nI n))]) hx hb dX5_trues_15 hl (k := 1) rfl (by show _ + _ = _ + f_01 _; unfold f_01; rw [if_neg c_12]; rfl) (by decide) rfl (fun ls hl => ?_)
      refine lv_iinc (v := nI (i + 1)) (lv' := [(3, .int (nI (i + 1))), (2, .int (hg_sum (fun i => f_01 (hg_i S 3 i)) (i + 1))), (0, .ref (o 9)), (1, .int (nI n))]) hx hb dX5_trues_18 hl (k := 1) rfl (nI_1 _) (by decide) rfl (fun ls hl => ?_)
      refine lv_goto (tgt := 4) hx hb dX5_trues_21 (by decide) ?_
      exact ih ls (lv_sub hl [0, 1, 2, 3] rfl)
  · intro ls hl
    have hl : lv_has ls 4 [(3, .int (nI n)), (2, .int (hg_sum (fun i => f_01 (hg_i S 3 i)) n)), (0, .ref (o 9)), (1, .int (nI n))] := hl
    refine lv_iload_n hx hb dX5_trues_4 rfl (lv_at hl 0 rfl) ?_
    refine lv_iload_n hx hb dX5_trues_5 rfl (lv_at hl 3 rfl) ?_
    refine lv_icmp_ge (tgt := 24) hx hb dX5_trues_6 (by decide) (fun c_6 => ?_) (fun c_6 => absurd (nI_le (Nat.le_refl _) (by omega)) c_6)
    refine lv_iload_n hx hb dX5_trues_24 rfl (lv_at hl 1 rfl) ?_
    exact W.iret (v := hg_sum (fun i => f_01 (hg_i S 3 i)) n) hx hb hr (fun t ht hW => ⟨_, rfl, rfl, ht⟩) (fun _ h9 => nomatch h9) dX5_trues_25
set_option maxHeartbeats 4000000 in
set_option maxRecDepth 100000 in
/-- how many are -/
theorem m_X5_trues8 (l : Launch) (D : va_G) (o : Nat → Nat) (cI cJ cZ : ClassId) (S : hg_S) (n : Nat) (hn : n ≤ 4) : Met l yX5_trues wsX5_trues ({ frames := 0, cells := 0, slots := 0, locals := 0 }) (va_Pc [.ref (o 14), .int (nI n)] (hg_R D (xW o cI cJ cZ S) (hg_ty cI cJ cZ))) (vp_Si (fun r => r = f_tr (hg_i S 8) n)) 0 0 (fun _ => False) := by
  refine h_start (cc := cX5_trues) (maxL := 4) (ret := (some .int)) (by decide) rfl (Nat.le_of_ble_eq_true rfl) ?_
  intro pg ev s mi args below meth cd ls hx hb hr hts hown hlocks hml hnm hpic hl
  obtain ⟨hP, hK⟩ := hpic
  have hl : lv_has ls 4 [(0, .ref (o 14)), (1, .int (nI n))] := hl
  refine lv_iconst (v := nI 0) hx hb dX5_trues_0 (by decide) ?_
  refine h_topi (y := hg_sum (fun i => f_01 (hg_i S 8 i)) 0) (hg_sum_0) ?_
  refine lv_istore_n (lv' := [(2, .int (hg_sum (fun i => f_01 (hg_i S 8 i)) 0)), (0, .ref (o 14)), (1, .int (nI n))]) hx hb dX5_trues_1 rfl hl (by decide) rfl (fun ls hl => ?_)
  refine lv_iconst (v := nI 0) hx hb dX5_trues_2 (by decide) ?_
  refine lv_istore_n (lv' := [(3, .int (nI 0)), (2, .int (hg_sum (fun i => f_01 (hg_i S 8 i)) 0)), (0, .ref (o 14)), (1, .int (nI n))]) hx hb dX5_trues_3 rfl hl (by decide) rfl (fun ls hl => ?_)
  refine h_for (nL := 4) (n) (fun i => [(3, .int (nI i)), (2, .int (hg_sum (fun i => f_01 (hg_i S 8 i)) i)), (0, .ref (o 14)), (1, .int (nI n))]) ?_ ?_ (lv_sub hl [0, 1, 2, 3] rfl)
  · intro i ls hi hl ih
    have hl : lv_has ls 4 [(3, .int (nI i)), (2, .int (hg_sum (fun i => f_01 (hg_i S 8 i)) i)), (0, .ref (o 14)), (1, .int (nI n))] := hl
    refine lv_iload_n hx hb dX5_trues_4 rfl (lv_at hl 0 rfl) ?_
    refine lv_iload_n hx hb dX5_trues_5 rfl (lv_at hl 3 rfl) ?_
    refine lv_icmp_ge (tgt := 24) hx hb dX5_trues_6 (by decide) (fun c_6 => absurd c_6 (nI_ge hi (by omega))) (fun c_6 => ?_)
    refine lv_aload_n hx hb dX5_trues_9 rfl (lv_at hl 2 rfl) ?_
    refine lv_iload_n hx hb dX5_trues_10 rfl (lv_at hl 0 rfl) ?_
    refine h_zald (f := hg_i S 8) hx hb hK hP 14 2 rfl rfl i (rfl) (by omega) (by decide) dX5_trues_11 ?_
    refine lv_if_eq (tgt := 18) hx hb dX5_trues_12 (by decide) (fun c_12 => ?_) (fun c_12 => ?_)
    · skip
      rw [show hg_sum (fun i => f_01 (hg_i S 8 i)) i = hg_sum (fun i => f_01 (hg_i S 8 i)) (i + 1) from hg_sum_keep (g := fun i => f_01 (hg_i S 8 i)) (n := i) (by show f_01 _ = 0; unfold f_01; rw [if_pos c_12, nI_0])] at hl
      have hl : lv_has ls 4 [(3, .int (nI i)), (2, .int (hg_sum (fun i => f_01 (hg_i S 8 i)) (i + 1))), (0, .ref (o 14)), (1, .int (nI n))] := hl
      refine lv_iinc (v := nI (i + 1)) (lv' := [(3, .int (nI (i + 1))), (2, .int (hg_sum (fun i => f_01 (hg_i S 8 i)) (i + 1))), (0, .ref (o 14)), (1, .int (nI n))]) hx hb dX5_trues_18 hl (k := 0) rfl (nI_1 _) (by decide) rfl (fun ls hl => ?_)
      refine lv_goto (tgt := 4) hx hb dX5_trues_21 (by decide) ?_
      exact ih ls (lv_sub hl [0, 1, 2, 3] rfl)
    · skip
      refine lv_iinc (v := hg_sum (fun i => f_01 (hg_i S 8 i)) (i + 1)) (lv' := [(2, .int (hg_sum (fun i => f_01 (hg_i S 8 i)) (i + 1))), (3, .int (nI i)), (0, .ref (o 14)), (1, .int (nI n))]) hx hb dX5_trues_15 hl (k := 1) rfl (by show _ + _ = _ + f_01 _; unfold f_01; rw [if_neg c_12]; rfl) (by decide) rfl (fun ls hl => ?_)
      refine lv_iinc (v := nI (i + 1)) (lv' := [(3, .int (nI (i + 1))), (2, .int (hg_sum (fun i => f_01 (hg_i S 8 i)) (i + 1))), (0, .ref (o 14)), (1, .int (nI n))]) hx hb dX5_trues_18 hl (k := 1) rfl (nI_1 _) (by decide) rfl (fun ls hl => ?_)
      refine lv_goto (tgt := 4) hx hb dX5_trues_21 (by decide) ?_
      exact ih ls (lv_sub hl [0, 1, 2, 3] rfl)
  · intro ls hl
    have hl : lv_has ls 4 [(3, .int (nI n)), (2, .int (hg_sum (fun i => f_01 (hg_i S 8 i)) n)), (0, .ref (o 14)), (1, .int (nI n))] := hl
    refine lv_iload_n hx hb dX5_trues_4 rfl (lv_at hl 0 rfl) ?_
    refine lv_iload_n hx hb dX5_trues_5 rfl (lv_at hl 3 rfl) ?_
    refine lv_icmp_ge (tgt := 24) hx hb dX5_trues_6 (by decide) (fun c_6 => ?_) (fun c_6 => absurd (nI_le (Nat.le_refl _) (by omega)) c_6)
    refine lv_iload_n hx hb dX5_trues_24 rfl (lv_at hl 1 rfl) ?_
    exact W.iret (v := hg_sum (fun i => f_01 (hg_i S 8 i)) n) hx hb hr (fun t ht hW => ⟨_, rfl, rfl, ht⟩) (fun _ h9 => nomatch h9) dX5_trues_25
set_option maxHeartbeats 4000000 in
set_option maxRecDepth 100000 in
/-- well -/
theorem m_X5_well (l : Launch) (D : va_G) (o : Nat → Nat) (cI cJ cZ : ClassId) (S : hg_S) (sz : Nat) (h0 : hg_n S 0 ≤ 8) (k b a1 b1 c1 d1 e1 : Int32) : Met l yX5_well wsX5_well ({ frames := 1, cells := 0, slots := 0, locals := 27 }) (va_Pc [.ref (o 0), .int k, .int b, .int a1, .int b1, .int c1, .int d1, .int e1] (hg_Wr D (xW o cI cJ cZ S) (hg_ty cI cJ cZ) sz)) (va_Qi (fun (r : Int32) (_ : Unit) => r = (r_well S k b a1 b1 c1 d1 e1).1) (fun _ t => hg_At D (xW o cI cJ cZ ((r_well S k b a1 b1 c1 d1 e1).2)) (va_A (xW o cI cJ cZ S) sz) t) (va_A (xW o cI cJ cZ S) sz)) 0 0 (va_A (xW o cI cJ cZ S) sz) := by
  refine h_start (cc := cX5_well) (maxL := 9) (ret := (some .int)) (by decide) rfl (Nat.le_of_ble_eq_true rfl) ?_
  intro pg ev s mi args below meth cd ls hx hb hr hts hown hlocks hml hnm hpic hl
  obtain ⟨hsz, hP, hK, hD0⟩ := hpic
  subst hsz
  have hD := hD0.self (sz := s.heap.size)
  generalize hAe : va_A (xW o cI cJ cZ S) s.heap.size = A at hD ⊢
  have hA : ∀ q : Nat, s.heap.size ≤ q → A q := fun q h => by rw [← hAe]; exact Or.inr h
  have hS : va_S A s.heap s.heap [] := va_S.rf
  have hi4 : ∀ w ∈ u_ws RX4 TX4 6, w ∈ wsX5_well := by decide +kernel
  have hi5 : ∀ w ∈ u_ws RX5 TX5 6, w ∈ wsX5_well := by decide +kernel
  have hl : lv_has ls 9 [(0, .ref (o 0)), (1, .int k), (2, .int b), (3, .int a1), (4, .int b1), (5, .int c1), (6, .int d1), (7, .int e1)] := hl
  refine lv_iload_n hx hb dX5_well_0 rfl (lv_at hl 1 rfl) ?_
  refine lv_iconst (v := nI 0) hx hb dX5_well_1 (by decide) ?_
  refine lv_iconst (v := nI 2) hx hb dX5_well_2 (by decide) ?_
  refine vp_callSi (va_Run.run (va_runS (As := [.int k, .int (nI 0), .int (nI 2)]) (rest := []) ⟨hx, hb, hml, hown, hts⟩ (m_X5_within l k (nI 0) (nI 2)) (va_cwS 3 hts gX5_well_X5_within rfl rfl rfl (by decide +kernel) ⟨Nat.le_of_ble_eq_true rfl, Nat.le_of_ble_eq_true rfl⟩) (h_preS0) rfl rfl hl.1 rfl (lv_room (Nat.le_of_ble_eq_true rfl)) dX5_well_3 ⟨Nat.le_of_ble_eq_true rfl, Nat.le_of_ble_eq_true rfl⟩)) (fun r_1 hr_1 => ?_)
  subst hr_1
  refine lv_if_eq (tgt := 18) hx hb dX5_well_6 (by decide) (fun c_6 => ?_) (fun c_6 => ?_)
  · skip
    have v_6 : ¬ ((nI 0) ≤ k ∧ k ≤ (nI 2)) := hg_in_f c_6
    refine lv_iconst (v := -1) hx hb dX5_well_18 (by decide) ?_
    have hq : r_well S k b a1 b1 c1 d1 e1 = ((-1), S) := by unfold r_well; rw [if_neg (fun q => v_6 q.1)]
    rw [show (S : hg_S) = (r_well S k b a1 b1 c1 d1 e1).2 from by rw [hq]] at hP hD
    exact W.iret (v := (-1)) hx hb hr (fun t ht hW => ⟨⟨_, (), rfl, by rw [hq], ⟨by rw [ht]; exact hP, hD⟩⟩, hS.F ht⟩) hS.2.2 dX5_well_19
  · skip
    have v_6 : ((nI 0) ≤ k ∧ k ≤ (nI 2)) := hg_in_t c_6
    refine lv_iload_n hx hb dX5_well_9 rfl (lv_at hl 2 rfl) ?_
    refine lv_iconst (v := nI 0) hx hb dX5_well_10 (by decide) ?_
    refine lv_iconst (v := nI 3) hx hb dX5_well_11 (by decide) ?_
    refine vp_callSi (va_Run.run (va_runS (As := [.int b, .int (nI 0), .int (nI 3)]) (rest := []) ⟨hx, hb, hml, hown, hts⟩ (m_X5_within l b (nI 0) (nI 3)) (va_cwS 3 hts gX5_well_X5_within rfl rfl rfl (by decide +kernel) ⟨Nat.le_of_ble_eq_true rfl, Nat.le_of_ble_eq_true rfl⟩) (h_preS0) rfl rfl hl.1 rfl (lv_room (Nat.le_of_ble_eq_true rfl)) dX5_well_12 ⟨Nat.le_of_ble_eq_true rfl, Nat.le_of_ble_eq_true rfl⟩)) (fun r_2 hr_2 => ?_)
    subst hr_2
    refine lv_if_ne (tgt := 20) hx hb dX5_well_15 (by decide) (fun c_15 => ?_) (fun c_15 => ?_)
    · skip
      have v_15 : ((nI 0) ≤ b ∧ b ≤ (nI 3)) := hg_in_t c_15
      refine lv_iload_n hx hb dX5_well_20 rfl (lv_at hl 3 rfl) ?_
      refine lv_iconst (v := nI 0) hx hb dX5_well_21 (by decide) ?_
      refine lv_sipush (v := nI 200) hx hb dX5_well_22 (by decide) ?_
      refine vp_callSi (va_Run.run (va_runS (As := [.int a1, .int (nI 0), .int (nI 200)]) (rest := []) ⟨hx, hb, hml, hown, hts⟩ (m_X5_within l a1 (nI 0) (nI 200)) (va_cwS 3 hts gX5_well_X5_within rfl rfl rfl (by decide +kernel) ⟨Nat.le_of_ble_eq_true rfl, Nat.le_of_ble_eq_true rfl⟩) (h_preS0) rfl rfl hl.1 rfl (lv_room (Nat.le_of_ble_eq_true rfl)) dX5_well_25 ⟨Nat.le_of_ble_eq_true rfl, Nat.le_of_ble_eq_true rfl⟩)) (fun r_3 hr_3 => ?_)
      subst hr_3
      refine lv_if_eq (tgt := 74) hx hb dX5_well_28 (by decide) (fun c_28 => ?_) (fun c_28 => ?_)
      · skip
        have v_28 : ¬ ((nI 0) ≤ a1 ∧ a1 ≤ (nI 200)) := hg_in_f c_28
        refine lv_iconst (v := -1) hx hb dX5_well_74 (by decide) ?_
        have hq : r_well S k b a1 b1 c1 d1 e1 = ((-1), S) := by unfold r_well; rw [if_neg (fun q => v_28 q.2.2.1)]
        rw [show (S : hg_S) = (r_well S k b a1 b1 c1 d1 e1).2 from by rw [hq]] at hP hD
        exact W.iret (v := (-1)) hx hb hr (fun t ht hW => ⟨⟨_, (), rfl, by rw [hq], ⟨by rw [ht]; exact hP, hD⟩⟩, hS.F ht⟩) hS.2.2 dX5_well_75
      · skip
        have v_28 : ((nI 0) ≤ a1 ∧ a1 ≤ (nI 200)) := hg_in_t c_28
        refine lv_iload hx hb dX5_well_31 (lv_at hl 4 rfl) ?_
        refine lv_iconst (v := nI 0) hx hb dX5_well_33 (by decide) ?_
        refine lv_iload_n hx hb dX5_well_34 rfl (lv_at hl 3 rfl) ?_
        refine vp_callSi (va_Run.run (va_runS (As := [.int b1, .int (nI 0), .int a1]) (rest := []) ⟨hx, hb, hml, hown, hts⟩ (m_X5_within l b1 (nI 0) a1) (va_cwS 3 hts gX5_well_X5_within rfl rfl rfl (by decide +kernel) ⟨Nat.le_of_ble_eq_true rfl, Nat.le_of_ble_eq_true rfl⟩) (h_preS0) rfl rfl hl.1 rfl (lv_room (Nat.le_of_ble_eq_true rfl)) dX5_well_35 ⟨Nat.le_of_ble_eq_true rfl, Nat.le_of_ble_eq_true rfl⟩)) (fun r_4 hr_4 => ?_)
        subst hr_4
        refine lv_if_eq (tgt := 74) hx hb dX5_well_38 (by decide) (fun c_38 => ?_) (fun c_38 => ?_)
        · skip
          have v_38 : ¬ ((nI 0) ≤ b1 ∧ b1 ≤ a1) := hg_in_f c_38
          refine lv_iconst (v := -1) hx hb dX5_well_74 (by decide) ?_
          have hq : r_well S k b a1 b1 c1 d1 e1 = ((-1), S) := by unfold r_well; rw [if_neg (fun q => v_38 q.2.2.2.1)]
          rw [show (S : hg_S) = (r_well S k b a1 b1 c1 d1 e1).2 from by rw [hq]] at hP hD
          exact W.iret (v := (-1)) hx hb hr (fun t ht hW => ⟨⟨_, (), rfl, by rw [hq], ⟨by rw [ht]; exact hP, hD⟩⟩, hS.F ht⟩) hS.2.2 dX5_well_75
        · skip
          have v_38 : ((nI 0) ≤ b1 ∧ b1 ≤ a1) := hg_in_t c_38
          refine lv_iload hx hb dX5_well_41 (lv_at hl 5 rfl) ?_
          refine lv_iconst (v := nI 0) hx hb dX5_well_43 (by decide) ?_
          refine lv_iload hx hb dX5_well_44 (lv_at hl 4 rfl) ?_
          refine vp_callSi (va_Run.run (va_runS (As := [.int c1, .int (nI 0), .int b1]) (rest := []) ⟨hx, hb, hml, hown, hts⟩ (m_X5_within l c1 (nI 0) b1) (va_cwS 3 hts gX5_well_X5_within rfl rfl rfl (by decide +kernel) ⟨Nat.le_of_ble_eq_true rfl, Nat.le_of_ble_eq_true rfl⟩) (h_preS0) rfl rfl hl.1 rfl (lv_room (Nat.le_of_ble_eq_true rfl)) dX5_well_46 ⟨Nat.le_of_ble_eq_true rfl, Nat.le_of_ble_eq_true rfl⟩)) (fun r_5 hr_5 => ?_)
          subst hr_5
          refine lv_if_eq (tgt := 74) hx hb dX5_well_49 (by decide) (fun c_49 => ?_) (fun c_49 => ?_)
          · skip
            have v_49 : ¬ ((nI 0) ≤ c1 ∧ c1 ≤ b1) := hg_in_f c_49
            refine lv_iconst (v := -1) hx hb dX5_well_74 (by decide) ?_
            have hq : r_well S k b a1 b1 c1 d1 e1 = ((-1), S) := by unfold r_well; rw [if_neg (fun q => v_49 q.2.2.2.2.1)]
            rw [show (S : hg_S) = (r_well S k b a1 b1 c1 d1 e1).2 from by rw [hq]] at hP hD
            exact W.iret (v := (-1)) hx hb hr (fun t ht hW => ⟨⟨_, (), rfl, by rw [hq], ⟨by rw [ht]; exact hP, hD⟩⟩, hS.F ht⟩) hS.2.2 dX5_well_75
          · skip
            have v_49 : ((nI 0) ≤ c1 ∧ c1 ≤ b1) := hg_in_t c_49
            refine lv_iload hx hb dX5_well_52 (lv_at hl 6 rfl) ?_
            refine lv_iconst (v := nI 0) hx hb dX5_well_54 (by decide) ?_
            refine lv_iload hx hb dX5_well_55 (lv_at hl 5 rfl) ?_
            refine vp_callSi (va_Run.run (va_runS (As := [.int d1, .int (nI 0), .int c1]) (rest := []) ⟨hx, hb, hml, hown, hts⟩ (m_X5_within l d1 (nI 0) c1) (va_cwS 3 hts gX5_well_X5_within rfl rfl rfl (by decide +kernel) ⟨Nat.le_of_ble_eq_true rfl, Nat.le_of_ble_eq_true rfl⟩) (h_preS0) rfl rfl hl.1 rfl (lv_room (Nat.le_of_ble_eq_true rfl)) dX5_well_57 ⟨Nat.le_of_ble_eq_true rfl, Nat.le_of_ble_eq_true rfl⟩)) (fun r_6 hr_6 => ?_)
            subst hr_6
            refine lv_if_eq (tgt := 74) hx hb dX5_well_60 (by decide) (fun c_60 => ?_) (fun c_60 => ?_)
            · skip
              have v_60 : ¬ ((nI 0) ≤ d1 ∧ d1 ≤ c1) := hg_in_f c_60
              refine lv_iconst (v := -1) hx hb dX5_well_74 (by decide) ?_
              have hq : r_well S k b a1 b1 c1 d1 e1 = ((-1), S) := by unfold r_well; rw [if_neg (fun q => v_60 q.2.2.2.2.2.1)]
              rw [show (S : hg_S) = (r_well S k b a1 b1 c1 d1 e1).2 from by rw [hq]] at hP hD
              exact W.iret (v := (-1)) hx hb hr (fun t ht hW => ⟨⟨_, (), rfl, by rw [hq], ⟨by rw [ht]; exact hP, hD⟩⟩, hS.F ht⟩) hS.2.2 dX5_well_75
            · skip
              have v_60 : ((nI 0) ≤ d1 ∧ d1 ≤ c1) := hg_in_t c_60
              refine lv_iload hx hb dX5_well_63 (lv_at hl 7 rfl) ?_
              refine lv_iconst (v := nI 0) hx hb dX5_well_65 (by decide) ?_
              refine lv_iload hx hb dX5_well_66 (lv_at hl 6 rfl) ?_
              refine vp_callSi (va_Run.run (va_runS (As := [.int e1, .int (nI 0), .int d1]) (rest := []) ⟨hx, hb, hml, hown, hts⟩ (m_X5_within l e1 (nI 0) d1) (va_cwS 3 hts gX5_well_X5_within rfl rfl rfl (by decide +kernel) ⟨Nat.le_of_ble_eq_true rfl, Nat.le_of_ble_eq_true rfl⟩) (h_preS0) rfl rfl hl.1 rfl (lv_room (Nat.le_of_ble_eq_true rfl)) dX5_well_68 ⟨Nat.le_of_ble_eq_true rfl, Nat.le_of_ble_eq_true rfl⟩)) (fun r_7 hr_7 => ?_)
              subst hr_7
              refine lv_if_ne (tgt := 76) hx hb dX5_well_71 (by decide) (fun c_71 => ?_) (fun c_71 => ?_)
              · skip
                have v_71 : ((nI 0) ≤ e1 ∧ e1 ≤ d1) := hg_in_t c_71
                refine lv_aload_n hx hb dX5_well_76 rfl (lv_at hl 0 rfl) ?_
                refine va_get (C := RX5) (T := TX5) (N := 6) (v := .ref (o 1)) hx hb hts hi5 hown hK hP 0 rfl rfl 0 (by decide) (hts (.fieldLink RX5 10 "HotGround" "wells" "LHotGround$Wells;") (by decide +kernel)) (fun _ h9 => h9) rfl dX5_well_77 ?_
                refine va_get (C := RX4) (T := TX4) (N := 6) (v := .int (nI (hg_n S 0))) hx hb hts hi4 hown hK hP 1 rfl rfl 0 (by decide) (hts (.fieldLink RX5 52 "HotGround$Wells" "count" "I") (by decide +kernel)) (fun _ h9 => h9) rfl dX5_well_80 ?_
                refine lv_bipush (v := nI 8) hx hb dX5_well_83 (by decide) ?_
                refine lv_icmp_lt (tgt := 91) hx hb dX5_well_85 (by decide) (fun c_85 => ?_) (fun c_85 => ?_)
                · skip
                  have hc : hg_n S 0 < 8 := (nI_ltI (by omega) (by omega)).mp c_85
                  refine lv_aload_n hx hb dX5_well_91 rfl (lv_at hl 0 rfl) ?_
                  refine va_get (C := RX5) (T := TX5) (N := 6) (v := .ref (o 1)) hx hb hts hi5 hown hK hP 0 rfl rfl 0 (by decide) (hts (.fieldLink RX5 10 "HotGround" "wells" "LHotGround$Wells;") (by decide +kernel)) (fun _ h9 => h9) rfl dX5_well_92 ?_
                  refine lv_iload_n hx hb dX5_well_95 rfl (lv_at hl 1 rfl) ?_
                  refine lv_iload_n hx hb dX5_well_96 rfl (lv_at hl 2 rfl) ?_
                  refine h_calli (w1 := xW o cI cJ cZ (hg_sn (hg_si (hg_si S 0 (upd (hg_i S 0) (hg_n S 0) k)) 1 (upd (hg_i S 1) (hg_n S 0) b)) 0 (hg_n S 0 + 1))) (va_runV (As := [.int k, .int b]) (rest := []) ⟨hx, hb, hml, hown, hts⟩ (m_X4_add l D o cI cJ cZ S s.heap.size hc k b) (cwV 2 hts gX5_well_X4_add rfl rfl rfl (by decide +kernel) ⟨Nat.le_of_ble_eq_true rfl, Nat.le_of_ble_eq_true rfl⟩) (h_preW hK hP hD 1 rfl rfl rfl) rfl rfl hl.1 rfl (lv_room (Nat.le_of_ble_eq_true rfl)) dX5_well_97 ⟨Nat.le_of_ble_eq_true rfl, Nat.le_of_ble_eq_true rfl⟩) hS (h_all hD hS hA) (fun r_8 H locs hr_8 hP hD hS => ?_)
                  subst hr_8
                  refine lv_istore (lv' := [(8, .int (nI (hg_n S 0))), (0, .ref (o 0)), (1, .int k), (2, .int b), (3, .int a1), (4, .int b1), (5, .int c1), (6, .int d1), (7, .int e1)]) hx hb dX5_well_100 hl (by decide) rfl (fun ls hl => ?_)
                  refine lv_aload_n hx hb dX5_well_102 rfl (lv_at hl 1 rfl) ?_
                  refine va_get (C := RX5) (T := TX5) (N := 6) (v := .ref (o 1)) hx hb hts hi5 hown hK hP 0 rfl rfl 0 (by decide) (hts (.fieldLink RX5 10 "HotGround" "wells" "LHotGround$Wells;") (by decide +kernel)) (fun _ h9 => h9) rfl dX5_well_103 ?_
                  refine lv_iload hx hb dX5_well_106 (lv_at hl 0 rfl) ?_
                  refine lv_iload_n hx hb dX5_well_108 rfl (lv_at hl 4 rfl) ?_
                  refine lv_iload hx hb dX5_well_109 (lv_at hl 5 rfl) ?_
                  refine lv_iload hx hb dX5_well_111 (lv_at hl 6 rfl) ?_
                  refine lv_iload hx hb dX5_well_113 (lv_at hl 7 rfl) ?_
                  refine lv_iload hx hb dX5_well_115 (lv_at hl 8 rfl) ?_
                  refine h_callv (w1 := xW o cI cJ cZ (hg_si (hg_sn (hg_si (hg_si S 0 (upd (hg_i S 0) (hg_n S 0) k)) 1 (upd (hg_i S 1) (hg_n S 0) b)) 0 (hg_n S 0 + 1)) 4 (upd (upd (upd (upd (upd (hg_i (hg_sn (hg_si (hg_si S 0 (upd (hg_i S 0) (hg_n S 0) k)) 1 (upd (hg_i S 1) (hg_n S 0) b)) 0 (hg_n S 0 + 1)) 4) ((hg_n S 0) * 5) a1) ((hg_n S 0) * 5 + 1) b1) ((hg_n S 0) * 5 + 2) c1) ((hg_n S 0) * 5 + 3) d1) ((hg_n S 0) * 5 + 4) e1))) (va_runV (As := [.int (nI (hg_n S 0)), .int a1, .int b1, .int c1, .int d1, .int e1]) (rest := []) ⟨hx, hb, hml, hown, hts⟩ (m_X4_shape l D o cI cJ cZ (hg_sn (hg_si (hg_si S 0 (upd (hg_i S 0) (hg_n S 0) k)) 1 (upd (hg_i S 1) (hg_n S 0) b)) 0 (hg_n S 0 + 1)) H.size (hg_n S 0) (by omega) a1 b1 c1 d1 e1) (cwV 6 hts gX5_well_X4_shape rfl rfl rfl (by decide +kernel) ⟨Nat.le_of_ble_eq_true rfl, Nat.le_of_ble_eq_true rfl⟩) (h_preW hK hP hD 1 rfl rfl rfl) rfl rfl hl.1 rfl (lv_room (Nat.le_of_ble_eq_true rfl)) dX5_well_117 ⟨Nat.le_of_ble_eq_true rfl, Nat.le_of_ble_eq_true rfl⟩) hS (h_all hD hS hA) (fun H locs hP hD hS => ?_)
                  refine lv_iload hx hb dX5_well_120 (lv_at hl 0 rfl) ?_
                  have hq : r_well S k b a1 b1 c1 d1 e1 = (nI (hg_n S 0), hg_si (hg_sn (hg_si (hg_si S 0 (upd (hg_i S 0) (hg_n S 0) k)) 1 (upd (hg_i S 1) (hg_n S 0) b)) 0 (hg_n S 0 + 1)) 4 (upd (upd (upd (upd (upd (hg_i (hg_sn (hg_si (hg_si S 0 (upd (hg_i S 0) (hg_n S 0) k)) 1 (upd (hg_i S 1) (hg_n S 0) b)) 0 (hg_n S 0 + 1)) 4) ((hg_n S 0) * 5) a1) ((hg_n S 0) * 5 + 1) b1) ((hg_n S 0) * 5 + 2) c1) ((hg_n S 0) * 5 + 3) d1) ((hg_n S 0) * 5 + 4) e1)) := by unfold r_well; rw [if_pos (⟨v_6, v_15, v_28, v_38, v_49, v_60, v_71⟩)]; rw [if_pos (by omega)]; rfl
                  rw [show (hg_si (hg_sn (hg_si (hg_si S 0 (upd (hg_i S 0) (hg_n S 0) k)) 1 (upd (hg_i S 1) (hg_n S 0) b)) 0 (hg_n S 0 + 1)) 4 (upd (upd (upd (upd (upd (hg_i (hg_sn (hg_si (hg_si S 0 (upd (hg_i S 0) (hg_n S 0) k)) 1 (upd (hg_i S 1) (hg_n S 0) b)) 0 (hg_n S 0 + 1)) 4) ((hg_n S 0) * 5) a1) ((hg_n S 0) * 5 + 1) b1) ((hg_n S 0) * 5 + 2) c1) ((hg_n S 0) * 5 + 3) d1) ((hg_n S 0) * 5 + 4) e1) : hg_S) = (r_well S k b a1 b1 c1 d1 e1).2 from by rw [hq]] at hP hD
                  exact W.iret (v := nI (hg_n S 0)) hx hb hr (fun t ht hW => ⟨⟨_, (), rfl, by rw [hq], ⟨by rw [ht]; exact hP, hD⟩⟩, hS.F ht⟩) hS.2.2 dX5_well_122
                · skip
                  have hc : ¬ hg_n S 0 < 8 := fun h => c_85 ((nI_ltI (by omega) (by omega)).mpr h)
                  refine lv_bipush (v := -3) hx hb dX5_well_88 (by decide) ?_
                  have hq : r_well S k b a1 b1 c1 d1 e1 = ((-3), S) := by unfold r_well; rw [if_pos (⟨v_6, v_15, v_28, v_38, v_49, v_60, v_71⟩)]; rw [if_neg (by omega)]
                  rw [show (S : hg_S) = (r_well S k b a1 b1 c1 d1 e1).2 from by rw [hq]] at hP hD
                  exact W.iret (v := (-3)) hx hb hr (fun t ht hW => ⟨⟨_, (), rfl, by rw [hq], ⟨by rw [ht]; exact hP, hD⟩⟩, hS.F ht⟩) hS.2.2 dX5_well_90
              · skip
                have v_71 : ¬ ((nI 0) ≤ e1 ∧ e1 ≤ d1) := hg_in_f c_71
                refine lv_iconst (v := -1) hx hb dX5_well_74 (by decide) ?_
                have hq : r_well S k b a1 b1 c1 d1 e1 = ((-1), S) := by unfold r_well; rw [if_neg (fun q => v_71 q.2.2.2.2.2.2)]
                rw [show (S : hg_S) = (r_well S k b a1 b1 c1 d1 e1).2 from by rw [hq]] at hP hD
                exact W.iret (v := (-1)) hx hb hr (fun t ht hW => ⟨⟨_, (), rfl, by rw [hq], ⟨by rw [ht]; exact hP, hD⟩⟩, hS.F ht⟩) hS.2.2 dX5_well_75
    · skip
      have v_15 : ¬ ((nI 0) ≤ b ∧ b ≤ (nI 3)) := hg_in_f c_15
      refine lv_iconst (v := -1) hx hb dX5_well_18 (by decide) ?_
      have hq : r_well S k b a1 b1 c1 d1 e1 = ((-1), S) := by unfold r_well; rw [if_neg (fun q => v_15 q.2.1)]
      rw [show (S : hg_S) = (r_well S k b a1 b1 c1 d1 e1).2 from by rw [hq]] at hP hD
      exact W.iret (v := (-1)) hx hb hr (fun t ht hW => ⟨⟨_, (), rfl, by rw [hq], ⟨by rw [ht]; exact hP, hD⟩⟩, hS.F ht⟩) hS.2.2 dX5_well_19
set_option maxHeartbeats 4000000 in
set_option maxRecDepth 100000 in
/-- open -/
theorem m_X5_open (l : Launch) (D : va_G) (o : Nat → Nat) (cI cJ cZ : ClassId) (S : hg_S) (sz : Nat) (h0 : hg_n S 0 ≤ 8) (w x : Int32) (hx01 : vp_nar .boolean x = x)  : Met l yX5_open wsX5_open ({ frames := 2, cells := 0, slots := 0, locals := 43 }) (va_Pc [.ref (o 0), .int w, .int x] (hg_Wr D (xW o cI cJ cZ S) (hg_ty cI cJ cZ) sz)) (va_Qi (fun (r : Int32) (_ : Unit) => r = (r_open S w x).1) (fun _ t => hg_At D (xW o cI cJ cZ ((r_open S w x).2)) (va_A (xW o cI cJ cZ S) sz) t) (va_A (xW o cI cJ cZ S) sz)) 0 0 (va_A (xW o cI cJ cZ S) sz) := by
  refine h_start (cc := cX5_open) (maxL := 4) (ret := (some .int)) (by decide) rfl (Nat.le_of_ble_eq_true rfl) ?_
  intro pg ev s mi args below meth cd ls hx hb hr hts hown hlocks hml hnm hpic hl
  obtain ⟨hsz, hP, hK, hD0⟩ := hpic
  subst hsz
  have hD := hD0.self (sz := s.heap.size)
  generalize hAe : va_A (xW o cI cJ cZ S) s.heap.size = A at hD ⊢
  have hA : ∀ q : Nat, s.heap.size ≤ q → A q := fun q h => by rw [← hAe]; exact Or.inr h
  have hS : va_S A s.heap s.heap [] := va_S.rf
  have hi4 : ∀ w ∈ u_ws RX4 TX4 6, w ∈ wsX5_open := by decide +kernel
  have hi5 : ∀ w ∈ u_ws RX5 TX5 6, w ∈ wsX5_open := by decide +kernel
  have hl : lv_has ls 4 [(0, .ref (o 0)), (1, .int w), (2, .int x)] := hl
  refine lv_aload_n hx hb dX5_open_0 rfl (lv_at hl 0 rfl) ?_
  refine lv_iload_n hx hb dX5_open_1 rfl (lv_at hl 1 rfl) ?_
  refine vp_callSi (va_Run.run (va_runV (As := [.int w]) (rest := []) ⟨hx, hb, hml, hown, hts⟩ (m_X5_isWell l D o cI cJ cZ S w) (cwV 1 hts gX5_open_X5_isWell rfl rfl rfl (by decide +kernel) ⟨Nat.le_of_ble_eq_true rfl, Nat.le_of_ble_eq_true rfl⟩) (h_preR hK hP 0 rfl rfl rfl) rfl rfl hl.1 rfl (lv_room (Nat.le_of_ble_eq_true rfl)) dX5_open_2 ⟨Nat.le_of_ble_eq_true rfl, Nat.le_of_ble_eq_true rfl⟩)) (fun r_1 hr_1 => ?_)
  subst hr_1
  refine lv_if_ne (tgt := 10) hx hb dX5_open_5 (by decide) (fun c_5 => ?_) (fun c_5 => ?_)
  · skip
    have v_5 : ((nI 0) ≤ w ∧ w ≤ (nI (hg_n S 0) - nI 1)) := hg_in_t c_5
    obtain ⟨kw, kwh, rfl⟩ := hg_wel (by omega) v_5
    refine lv_aload_n hx hb dX5_open_10 rfl (lv_at hl 0 rfl) ?_
    refine va_get (C := RX5) (T := TX5) (N := 6) (v := .ref (o 1)) hx hb hts hi5 hown hK hP 0 rfl rfl 0 (by decide) (hts (.fieldLink RX5 10 "HotGround" "wells" "LHotGround$Wells;") (by decide +kernel)) (fun _ h9 => h9) rfl dX5_open_11 ?_
    refine va_get (C := RX4) (T := TX4) (N := 6) (v := .ref (o 9)) hx hb hts hi4 hown hK hP 1 rfl rfl 4 (by decide) (hts (.fieldLink RX5 68 "HotGround$Wells" "open" "[Z") (by decide +kernel)) (fun _ h9 => h9) rfl dX5_open_14 ?_
    refine lv_iload_n hx hb dX5_open_17 rfl (lv_at hl 1 rfl) ?_
    refine h_zald (f := hg_i S 3) hx hb hK hP 9 2 rfl rfl kw (rfl) (by omega) (by decide) dX5_open_18 ?_
    refine lv_istore_n (lv' := [(3, .int (hg_i S 3 kw)), (0, .ref (o 0)), (1, .int (nI kw)), (2, .int x)]) hx hb dX5_open_19 rfl hl (by decide) rfl (fun ls hl => ?_)
    refine lv_aload_n hx hb dX5_open_20 rfl (lv_at hl 1 rfl) ?_
    refine va_get (C := RX5) (T := TX5) (N := 6) (v := .ref (o 1)) hx hb hts hi5 hown hK hP 0 rfl rfl 0 (by decide) (hts (.fieldLink RX5 10 "HotGround" "wells" "LHotGround$Wells;") (by decide +kernel)) (fun _ h9 => h9) rfl dX5_open_21 ?_
    refine va_get (C := RX4) (T := TX4) (N := 6) (v := .ref (o 9)) hx hb hts hi4 hown hK hP 1 rfl rfl 4 (by decide) (hts (.fieldLink RX5 68 "HotGround$Wells" "open" "[Z") (by decide +kernel)) (fun _ h9 => h9) rfl dX5_open_24 ?_
    refine lv_iload_n hx hb dX5_open_27 rfl (lv_at hl 2 rfl) ?_
    refine lv_iload_n hx hb dX5_open_28 rfl (lv_at hl 3 rfl) ?_
    refine h_zast (f := hg_i S 3) (ws' := xW o cI cJ cZ (hg_si S 3 (upd (hg_i S 3) kw x))) hx hb hK hP hD hS 9 2 rfl rfl kw (rfl) (by omega) (by decide) (hx01) rfl dX5_open_29 (fun H locs hP hD hS => ?_)
    refine lv_iload_n hx hb dX5_open_30 rfl (lv_at hl 0 rfl) ?_
    refine lv_if_eq (tgt := 38) hx hb dX5_open_31 (by decide) (fun c_31 => ?_) (fun c_31 => ?_)
    · skip
      refine lv_iconst (v := nI 0) hx hb dX5_open_38 (by decide) ?_
      have hq : r_open S (nI kw) x = (nI 0, hg_si S 3 (upd (hg_i S 3) kw x)) := by unfold r_open; rw [if_pos v_5]; (try rw [nI_clamp (show kw < 2 ^ 31 by omega)]); unfold f_01; rw [if_pos c_31]
      rw [show (hg_si S 3 (upd (hg_i S 3) kw x) : hg_S) = (r_open S (nI kw) x).2 from by rw [hq]] at hP hD
      exact W.iret (v := nI 0) hx hb hr (fun t ht hW => ⟨⟨_, (), rfl, by rw [hq], ⟨by rw [ht]; exact hP, hD⟩⟩, hS.F ht⟩) hS.2.2 dX5_open_39
    · skip
      refine lv_iconst (v := nI 1) hx hb dX5_open_34 (by decide) ?_
      refine lv_goto (tgt := 39) hx hb dX5_open_35 (by decide) ?_
      have hq : r_open S (nI kw) x = (nI 1, hg_si S 3 (upd (hg_i S 3) kw x)) := by unfold r_open; rw [if_pos v_5]; (try rw [nI_clamp (show kw < 2 ^ 31 by omega)]); unfold f_01; rw [if_neg c_31]
      rw [show (hg_si S 3 (upd (hg_i S 3) kw x) : hg_S) = (r_open S (nI kw) x).2 from by rw [hq]] at hP hD
      exact W.iret (v := nI 1) hx hb hr (fun t ht hW => ⟨⟨_, (), rfl, by rw [hq], ⟨by rw [ht]; exact hP, hD⟩⟩, hS.F ht⟩) hS.2.2 dX5_open_39
  · skip
    have v_5 : ¬ ((nI 0) ≤ w ∧ w ≤ (nI (hg_n S 0) - nI 1)) := hg_in_f c_5
    refine lv_iconst (v := -1) hx hb dX5_open_8 (by decide) ?_
    have hq : r_open S w x = ((-1), S) := by unfold r_open; rw [if_neg (fun q => v_5 q)]
    rw [show (S : hg_S) = (r_open S w x).2 from by rw [hq]] at hP hD
    exact W.iret (v := (-1)) hx hb hr (fun t ht hW => ⟨⟨_, (), rfl, by rw [hq], ⟨by rw [ht]; exact hP, hD⟩⟩, hS.F ht⟩) hS.2.2 dX5_open_9
set_option maxHeartbeats 4000000 in
set_option maxRecDepth 100000 in
/-- clean -/
theorem m_X5_clean (l : Launch) (D : va_G) (o : Nat → Nat) (cI cJ cZ : ClassId) (S : hg_S) (sz : Nat) (h0 : hg_n S 0 ≤ 8) (w : Int32) : Met l yX5_clean wsX5_clean ({ frames := 2, cells := 0, slots := 0, locals := 43 }) (va_Pc [.ref (o 0), .int w] (hg_Wr D (xW o cI cJ cZ S) (hg_ty cI cJ cZ) sz)) (va_Qi (fun (r : Int32) (_ : Unit) => r = (r_clean S w).1) (fun _ t => hg_At D (xW o cI cJ cZ ((r_clean S w).2)) (va_A (xW o cI cJ cZ S) sz) t) (va_A (xW o cI cJ cZ S) sz)) 0 0 (va_A (xW o cI cJ cZ S) sz) := by
  refine h_start (cc := cX5_clean) (maxL := 3) (ret := (some .int)) (by decide) rfl (Nat.le_of_ble_eq_true rfl) ?_
  intro pg ev s mi args below meth cd ls hx hb hr hts hown hlocks hml hnm hpic hl
  obtain ⟨hsz, hP, hK, hD0⟩ := hpic
  subst hsz
  have hD := hD0.self (sz := s.heap.size)
  generalize hAe : va_A (xW o cI cJ cZ S) s.heap.size = A at hD ⊢
  have hA : ∀ q : Nat, s.heap.size ≤ q → A q := fun q h => by rw [← hAe]; exact Or.inr h
  have hS : va_S A s.heap s.heap [] := va_S.rf
  have hi4 : ∀ w ∈ u_ws RX4 TX4 6, w ∈ wsX5_clean := by decide +kernel
  have hi5 : ∀ w ∈ u_ws RX5 TX5 6, w ∈ wsX5_clean := by decide +kernel
  have hl : lv_has ls 3 [(0, .ref (o 0)), (1, .int w)] := hl
  refine lv_aload_n hx hb dX5_clean_0 rfl (lv_at hl 0 rfl) ?_
  refine lv_iload_n hx hb dX5_clean_1 rfl (lv_at hl 1 rfl) ?_
  refine vp_callSi (va_Run.run (va_runV (As := [.int w]) (rest := []) ⟨hx, hb, hml, hown, hts⟩ (m_X5_isWell l D o cI cJ cZ S w) (cwV 1 hts gX5_clean_X5_isWell rfl rfl rfl (by decide +kernel) ⟨Nat.le_of_ble_eq_true rfl, Nat.le_of_ble_eq_true rfl⟩) (h_preR hK hP 0 rfl rfl rfl) rfl rfl hl.1 rfl (lv_room (Nat.le_of_ble_eq_true rfl)) dX5_clean_2 ⟨Nat.le_of_ble_eq_true rfl, Nat.le_of_ble_eq_true rfl⟩)) (fun r_1 hr_1 => ?_)
  subst hr_1
  refine lv_if_ne (tgt := 10) hx hb dX5_clean_5 (by decide) (fun c_5 => ?_) (fun c_5 => ?_)
  · skip
    have v_5 : ((nI 0) ≤ w ∧ w ≤ (nI (hg_n S 0) - nI 1)) := hg_in_t c_5
    obtain ⟨kw, kwh, rfl⟩ := hg_wel (by omega) v_5
    refine lv_aload_n hx hb dX5_clean_10 rfl (lv_at hl 0 rfl) ?_
    refine va_get (C := RX5) (T := TX5) (N := 6) (v := .ref (o 1)) hx hb hts hi5 hown hK hP 0 rfl rfl 0 (by decide) (hts (.fieldLink RX5 10 "HotGround" "wells" "LHotGround$Wells;") (by decide +kernel)) (fun _ h9 => h9) rfl dX5_clean_11 ?_
    refine va_get (C := RX4) (T := TX4) (N := 6) (v := .ref (o 8)) hx hb hts hi4 hown hK hP 1 rfl rfl 3 (by decide) (hts (.fieldLink RX5 72 "HotGround$Wells" "age" "[I") (by decide +kernel)) (fun _ h9 => h9) rfl dX5_clean_14 ?_
    refine lv_iload_n hx hb dX5_clean_17 rfl (lv_at hl 1 rfl) ?_
    refine h_iald (f := hg_i S 2) hx hb hK hP 8 0 rfl rfl kw (rfl) (by omega) (by decide) dX5_clean_18 ?_
    refine lv_istore_n (lv' := [(2, .int (hg_i S 2 kw)), (0, .ref (o 0)), (1, .int (nI kw))]) hx hb dX5_clean_19 rfl hl (by decide) rfl (fun ls hl => ?_)
    refine lv_aload_n hx hb dX5_clean_20 rfl (lv_at hl 1 rfl) ?_
    refine va_get (C := RX5) (T := TX5) (N := 6) (v := .ref (o 1)) hx hb hts hi5 hown hK hP 0 rfl rfl 0 (by decide) (hts (.fieldLink RX5 10 "HotGround" "wells" "LHotGround$Wells;") (by decide +kernel)) (fun _ h9 => h9) rfl dX5_clean_21 ?_
    refine va_get (C := RX4) (T := TX4) (N := 6) (v := .ref (o 8)) hx hb hts hi4 hown hK hP 1 rfl rfl 3 (by decide) (hts (.fieldLink RX5 72 "HotGround$Wells" "age" "[I") (by decide +kernel)) (fun _ h9 => h9) rfl dX5_clean_24 ?_
    refine lv_iload_n hx hb dX5_clean_27 rfl (lv_at hl 2 rfl) ?_
    refine lv_iconst (v := nI 0) hx hb dX5_clean_28 (by decide) ?_
    refine h_iast (f := hg_i S 2) (ws' := xW o cI cJ cZ (hg_si S 2 (upd (hg_i S 2) kw (nI 0)))) hx hb hK hP hD hS 8 0 rfl rfl kw (rfl) (by omega) (by decide) rfl dX5_clean_29 (fun H locs hP hD hS => ?_)
    refine lv_iload_n hx hb dX5_clean_30 rfl (lv_at hl 0 rfl) ?_
    have hq : r_clean S (nI kw) = (hg_i S 2 kw, hg_si S 2 (upd (hg_i S 2) kw (nI 0))) := by unfold r_clean; rw [if_pos v_5]; (try rw [nI_clamp (show kw < 2 ^ 31 by omega)])
    rw [show (hg_si S 2 (upd (hg_i S 2) kw (nI 0)) : hg_S) = (r_clean S (nI kw)).2 from by rw [hq]] at hP hD
    exact W.iret (v := hg_i S 2 kw) hx hb hr (fun t ht hW => ⟨⟨_, (), rfl, by rw [hq], ⟨by rw [ht]; exact hP, hD⟩⟩, hS.F ht⟩) hS.2.2 dX5_clean_31
  · skip
    have v_5 : ¬ ((nI 0) ≤ w ∧ w ≤ (nI (hg_n S 0) - nI 1)) := hg_in_f c_5
    refine lv_iconst (v := -1) hx hb dX5_clean_8 (by decide) ?_
    have hq : r_clean S w = ((-1), S) := by unfold r_clean; rw [if_neg (fun q => v_5 q)]
    rw [show (S : hg_S) = (r_clean S w).2 from by rw [hq]] at hP hD
    exact W.iret (v := (-1)) hx hb hr (fun t ht hW => ⟨⟨_, (), rfl, by rw [hq], ⟨by rw [ht]; exact hP, hD⟩⟩, hS.F ht⟩) hS.2.2 dX5_clean_9
set_option maxHeartbeats 4000000 in
set_option maxRecDepth 100000 in
/-- flow -/
theorem m_X5_flow (l : Launch) (D : va_G) (o : Nat → Nat) (cI cJ cZ : ClassId) (S : hg_S) (sz : Nat) (h0 : hg_n S 0 ≤ 8) (w q : Int32) : Met l yX5_flow wsX5_flow ({ frames := 3, cells := 0, slots := 0, locals := 56 }) (va_Pc [.ref (o 0), .int w, .int q] (hg_Wr D (xW o cI cJ cZ S) (hg_ty cI cJ cZ) sz)) (va_Qi (fun (r : Int32) (_ : Unit) => r = (r_flow S w q).1) (fun _ t => hg_At D (xW o cI cJ cZ ((r_flow S w q).2)) (va_A (xW o cI cJ cZ S) sz) t) (va_A (xW o cI cJ cZ S) sz)) 0 0 (va_A (xW o cI cJ cZ S) sz) := by
  refine h_start (cc := cX5_flow) (maxL := 3) (ret := (some .int)) (by decide) rfl (Nat.le_of_ble_eq_true rfl) ?_
  intro pg ev s mi args below meth cd ls hx hb hr hts hown hlocks hml hnm hpic hl
  obtain ⟨hsz, hP, hK, hD0⟩ := hpic
  subst hsz
  have hD := hD0.self (sz := s.heap.size)
  generalize hAe : va_A (xW o cI cJ cZ S) s.heap.size = A at hD ⊢
  have hA : ∀ q : Nat, s.heap.size ≤ q → A q := fun q h => by rw [← hAe]; exact Or.inr h
  have hS : va_S A s.heap s.heap [] := va_S.rf
  have hi5 : ∀ w ∈ u_ws RX5 TX5 6, w ∈ wsX5_flow := by decide +kernel
  have hl : lv_has ls 3 [(0, .ref (o 0)), (1, .int w), (2, .int q)] := hl
  refine lv_aload_n hx hb dX5_flow_0 rfl (lv_at hl 0 rfl) ?_
  refine lv_iload_n hx hb dX5_flow_1 rfl (lv_at hl 1 rfl) ?_
  refine vp_callSi (va_Run.run (va_runV (As := [.int w]) (rest := []) ⟨hx, hb, hml, hown, hts⟩ (m_X5_isWell l D o cI cJ cZ S w) (cwV 1 hts gX5_flow_X5_isWell rfl rfl rfl (by decide +kernel) ⟨Nat.le_of_ble_eq_true rfl, Nat.le_of_ble_eq_true rfl⟩) (h_preR hK hP 0 rfl rfl rfl) rfl rfl hl.1 rfl (lv_room (Nat.le_of_ble_eq_true rfl)) dX5_flow_2 ⟨Nat.le_of_ble_eq_true rfl, Nat.le_of_ble_eq_true rfl⟩)) (fun r_1 hr_1 => ?_)
  subst hr_1
  refine lv_if_eq (tgt := 15) hx hb dX5_flow_5 (by decide) (fun c_5 => ?_) (fun c_5 => ?_)
  · skip
    have v_5 : ¬ ((nI 0) ≤ w ∧ w ≤ (nI (hg_n S 0) - nI 1)) := hg_in_f c_5
    refine lv_iconst (v := -1) hx hb dX5_flow_15 (by decide) ?_
    have hq : r_flow S w q = ((-1), S) := by unfold r_flow; rw [if_neg (fun q => v_5 q.1)]
    rw [show (S : hg_S) = (r_flow S w q).2 from by rw [hq]] at hP hD
    exact W.iret (v := (-1)) hx hb hr (fun t ht hW => ⟨⟨_, (), rfl, by rw [hq], ⟨by rw [ht]; exact hP, hD⟩⟩, hS.F ht⟩) hS.2.2 dX5_flow_16
  · skip
    have v_5 : ((nI 0) ≤ w ∧ w ≤ (nI (hg_n S 0) - nI 1)) := hg_in_t c_5
    refine lv_iload_n hx hb dX5_flow_8 rfl (lv_at hl 2 rfl) ?_
    refine vp_callSi (va_Run.run (va_runS (As := [.int q]) (rest := []) ⟨hx, hb, hml, hown, hts⟩ (m_X5_isPressure l q) (va_cwS 1 hts gX5_flow_X5_isPressure rfl rfl rfl (by decide +kernel) ⟨Nat.le_of_ble_eq_true rfl, Nat.le_of_ble_eq_true rfl⟩) (h_preS0) rfl rfl hl.1 rfl (lv_room (Nat.le_of_ble_eq_true rfl)) dX5_flow_9 ⟨Nat.le_of_ble_eq_true rfl, Nat.le_of_ble_eq_true rfl⟩)) (fun r_2 hr_2 => ?_)
    subst hr_2
    refine lv_if_ne (tgt := 17) hx hb dX5_flow_12 (by decide) (fun c_12 => ?_) (fun c_12 => ?_)
    · skip
      have v_12 : ((nI 0) ≤ q ∧ q ≤ (nI 20)) := hg_in_t c_12
      obtain ⟨kw, kwh, rfl⟩ := hg_wel (by omega) v_5
      obtain ⟨kq, kql, kqh, rfl⟩ := hg_rng (by decide) (by decide) v_12
      refine lv_aload_n hx hb dX5_flow_17 rfl (lv_at hl 0 rfl) ?_
      refine lv_dup hx hb dX5_flow_18 rfl ?_
      refine va_get (C := RX5) (T := TX5) (N := 6) (v := .long (hg_t S)) hx hb hts hi5 hown hK hP 0 rfl rfl 5 (by decide) (hts (.fieldLink RX5 44 "HotGround" "trace" "J") (by decide +kernel)) (fun _ h9 => h9) rfl dX5_flow_19 ?_
      refine lv_aload_n hx hb dX5_flow_22 rfl (lv_at hl 0 rfl) ?_
      refine va_get (C := RX5) (T := TX5) (N := 6) (v := .ref (o 1)) hx hb hts hi5 hown hK hP 0 rfl rfl 0 (by decide) (hts (.fieldLink RX5 10 "HotGround" "wells" "LHotGround$Wells;") (by decide +kernel)) (fun _ h9 => h9) rfl dX5_flow_23 ?_
      refine lv_iload_n hx hb dX5_flow_26 rfl (lv_at hl 1 rfl) ?_
      refine vp_callSi (va_Run.run (va_runV (As := [.int (nI kw)]) (rest := [.long (hg_t S), .ref (o 0)]) ⟨hx, hb, hml, hown, hts⟩ (m_X4_weight l D o cI cJ cZ S kw (by omega)) (cwV 1 hts gX5_flow_X4_weight rfl rfl rfl (by decide +kernel) ⟨Nat.le_of_ble_eq_true rfl, Nat.le_of_ble_eq_true rfl⟩) (h_preR hK hP 1 rfl rfl rfl) rfl rfl hl.1 rfl (lv_room (Nat.le_of_ble_eq_true rfl)) dX5_flow_27 ⟨Nat.le_of_ble_eq_true rfl, Nat.le_of_ble_eq_true rfl⟩)) (fun r_3 hr_3 => ?_)
      subst hr_3
      refine lv_i2l (v := Int32.toInt64 (f_weight S kw)) hx hb dX5_flow_30 rfl ?_
      refine lv_ladd hx hb dX5_flow_31 ?_
      refine h_put (C := RX5) (T := TX5) (N := 6) (v := .long ((hg_t S) + (Int32.toInt64 (f_weight S kw)))) (ty := .long) (ws' := xW o cI cJ cZ (hg_st S ((hg_t S) + (Int32.toInt64 (f_weight S kw))))) hx hb hts hi5 tyX5 tyX5_ok nmX5 hown hK hP hD hS 0 rfl rfl 5 (by decide) (hts (.fieldLink RX5 44 "HotGround" "trace" "J") (by decide +kernel)) (fun _ h9 => h9) rfl (by decide +kernel) rfl rfl (Nat.le_of_ble_eq_true rfl) rfl dX5_flow_32 (fun H locs hP hD hS => ?_)
      refine lv_aload_n hx hb dX5_flow_35 rfl (lv_at hl 0 rfl) ?_
      refine va_get (C := RX5) (T := TX5) (N := 6) (v := .ref (o 1)) hx hb hts hi5 hown hK hP 0 rfl rfl 0 (by decide) (hts (.fieldLink RX5 10 "HotGround" "wells" "LHotGround$Wells;") (by decide +kernel)) (fun _ h9 => h9) rfl dX5_flow_36 ?_
      refine lv_iload_n hx hb dX5_flow_39 rfl (lv_at hl 1 rfl) ?_
      refine lv_iload_n hx hb dX5_flow_40 rfl (lv_at hl 2 rfl) ?_
      refine vp_callSi (va_Run.run (va_runV (As := [.int (nI kw), .int (nI kq)]) (rest := []) ⟨hx, hb, hml, hown, hts⟩ (m_X4_fifths l D o cI cJ cZ (hg_st S ((hg_t S) + (Int32.toInt64 (f_weight S kw)))) kw kq (by omega) (by omega)) (cwV 2 hts gX5_flow_X4_fifths rfl rfl rfl (by decide +kernel) ⟨Nat.le_of_ble_eq_true rfl, Nat.le_of_ble_eq_true rfl⟩) (h_preR hK hP 1 rfl rfl rfl) rfl rfl hl.1 rfl (lv_room (Nat.le_of_ble_eq_true rfl)) dX5_flow_41 ⟨Nat.le_of_ble_eq_true rfl, Nat.le_of_ble_eq_true rfl⟩)) (fun r_4 hr_4 => ?_)
      subst hr_4
      have hq : r_flow S (nI kw) (nI kq) = (f_flow (hg_st S ((hg_t S) + (Int32.toInt64 (f_weight S kw)))) kw kq, hg_st S ((hg_t S) + (Int32.toInt64 (f_weight S kw)))) := by unfold r_flow; rw [if_pos (⟨v_5, v_12⟩)]; (try rw [nI_clamp (show kw < 2 ^ 31 by omega)]); (try rw [nI_clamp (show kq < 2 ^ 31 by omega)]); rfl
      rw [show (hg_st S ((hg_t S) + (Int32.toInt64 (f_weight S kw))) : hg_S) = (r_flow S (nI kw) (nI kq)).2 from by rw [hq]] at hP hD
      exact W.iret (v := f_flow (hg_st S ((hg_t S) + (Int32.toInt64 (f_weight S kw)))) kw kq) hx hb hr (fun t ht hW => ⟨⟨_, (), rfl, by rw [hq], ⟨by rw [ht]; exact hP, hD⟩⟩, hS.F ht⟩) hS.2.2 dX5_flow_44
    · skip
      have v_12 : ¬ ((nI 0) ≤ q ∧ q ≤ (nI 20)) := hg_in_f c_12
      refine lv_iconst (v := -1) hx hb dX5_flow_15 (by decide) ?_
      have hq : r_flow S w q = ((-1), S) := by unfold r_flow; rw [if_neg (fun q => v_12 q.2)]
      rw [show (S : hg_S) = (r_flow S w q).2 from by rw [hq]] at hP hD
      exact W.iret (v := (-1)) hx hb hr (fun t ht hW => ⟨⟨_, (), rfl, by rw [hq], ⟨by rw [ht]; exact hP, hD⟩⟩, hS.F ht⟩) hS.2.2 dX5_flow_16
set_option maxHeartbeats 4000000 in
set_option maxRecDepth 100000 in
/-- about -/
theorem m_X5_about (l : Launch) (D : va_G) (o : Nat → Nat) (cI cJ cZ : ClassId) (S : hg_S) (h0 : hg_n S 0 ≤ 8) (w q : Int32) : Met l yX5_about wsX5_about ({ frames := 2, cells := 0, slots := 0, locals := 43 }) (va_Pc [.ref (o 0), .int w, .int q] (hg_R D (xW o cI cJ cZ S) (hg_ty cI cJ cZ))) (vp_Si (fun r => r = a_about S w q)) 0 0 (fun _ => False) := by
  refine h_start (cc := cX5_about) (maxL := 3) (ret := (some .int)) (by decide) rfl (Nat.le_of_ble_eq_true rfl) ?_
  intro pg ev s mi args below meth cd ls hx hb hr hts hown hlocks hml hnm hpic hl
  obtain ⟨hP, hK⟩ := hpic
  have hi4 : ∀ w ∈ u_ws RX4 TX4 6, w ∈ wsX5_about := by decide +kernel
  have hi5 : ∀ w ∈ u_ws RX5 TX5 6, w ∈ wsX5_about := by decide +kernel
  have hl : lv_has ls 3 [(0, .ref (o 0)), (1, .int w), (2, .int q)] := hl
  refine lv_aload_n hx hb dX5_about_0 rfl (lv_at hl 0 rfl) ?_
  refine lv_iload_n hx hb dX5_about_1 rfl (lv_at hl 1 rfl) ?_
  refine vp_callSi (va_Run.run (va_runV (As := [.int w]) (rest := []) ⟨hx, hb, hml, hown, hts⟩ (m_X5_isWell l D o cI cJ cZ S w) (cwV 1 hts gX5_about_X5_isWell rfl rfl rfl (by decide +kernel) ⟨Nat.le_of_ble_eq_true rfl, Nat.le_of_ble_eq_true rfl⟩) (h_preR hK hP 0 rfl rfl rfl) rfl rfl hl.1 rfl (lv_room (Nat.le_of_ble_eq_true rfl)) dX5_about_2 ⟨Nat.le_of_ble_eq_true rfl, Nat.le_of_ble_eq_true rfl⟩)) (fun r_1 hr_1 => ?_)
  subst hr_1
  refine lv_if_eq (tgt := 18) hx hb dX5_about_5 (by decide) (fun c_5 => ?_) (fun c_5 => ?_)
  · skip
    have v_5 : ¬ ((nI 0) ≤ w ∧ w ≤ (nI (hg_n S 0) - nI 1)) := hg_in_f c_5
    refine lv_iconst (v := -1) hx hb dX5_about_18 (by decide) ?_
    exact W.iret (v := (-1)) hx hb hr (fun t ht hW => ⟨_, rfl, by show (-1) = a_about S w q; unfold a_about; rw [if_neg (fun q => v_5 q.1)], ht⟩) (fun _ h9 => nomatch h9) dX5_about_19
  · skip
    have v_5 : ((nI 0) ≤ w ∧ w ≤ (nI (hg_n S 0) - nI 1)) := hg_in_t c_5
    refine lv_iload_n hx hb dX5_about_8 rfl (lv_at hl 2 rfl) ?_
    refine lv_iconst (v := nI 0) hx hb dX5_about_9 (by decide) ?_
    refine lv_bipush (v := nI 8) hx hb dX5_about_10 (by decide) ?_
    refine vp_callSi (va_Run.run (va_runS (As := [.int q, .int (nI 0), .int (nI 8)]) (rest := []) ⟨hx, hb, hml, hown, hts⟩ (m_X5_within l q (nI 0) (nI 8)) (va_cwS 3 hts gX5_about_X5_within rfl rfl rfl (by decide +kernel) ⟨Nat.le_of_ble_eq_true rfl, Nat.le_of_ble_eq_true rfl⟩) (h_preS0) rfl rfl hl.1 rfl (lv_room (Nat.le_of_ble_eq_true rfl)) dX5_about_12 ⟨Nat.le_of_ble_eq_true rfl, Nat.le_of_ble_eq_true rfl⟩)) (fun r_2 hr_2 => ?_)
    subst hr_2
    refine lv_if_ne (tgt := 20) hx hb dX5_about_15 (by decide) (fun c_15 => ?_) (fun c_15 => ?_)
    · skip
      have v_15 : ((nI 0) ≤ q ∧ q ≤ (nI 8)) := hg_in_t c_15
      refine lv_iload_n hx hb dX5_about_20 rfl (lv_at hl 2 rfl) ?_
      obtain ⟨kw, kwh, rfl⟩ := hg_wel (by omega) v_5
      obtain ⟨kq, kql, kqh, rfl⟩ := hg_rng (by decide) (by decide) v_15
      rcases Nat.eq_or_lt_of_le (show 0 ≤ kq by omega) with rfl | kq0
      · skip
        refine lv_tableIn (off := 31) (tgt := 52) hx hb dX5_about_21 (by decide) (by decide) (by decide) (by decide) ?_
        refine lv_aload_n hx hb dX5_about_52 rfl (lv_at hl 0 rfl) ?_
        refine va_get (C := RX5) (T := TX5) (N := 6) (v := .ref (o 1)) hx hb hts hi5 hown hK hP 0 rfl rfl 0 (by decide) (hts (.fieldLink RX5 10 "HotGround" "wells" "LHotGround$Wells;") (by decide +kernel)) (fun _ h9 => h9) rfl dX5_about_53 ?_
        refine va_get (C := RX4) (T := TX4) (N := 6) (v := .ref (o 6)) hx hb hts hi4 hown hK hP 1 rfl rfl 1 (by decide) (hts (.fieldLink RX5 86 "HotGround$Wells" "kind" "[I") (by decide +kernel)) (fun _ h9 => h9) rfl dX5_about_56 ?_
        refine lv_iload_n hx hb dX5_about_59 rfl (lv_at hl 1 rfl) ?_
        refine h_iald (f := hg_i S 0) hx hb hK hP 6 0 rfl rfl kw (rfl) (by omega) (by decide) dX5_about_60 ?_
        exact W.iret (v := hg_i S 0 kw) hx hb hr (fun t ht hW => ⟨_, rfl, by show hg_i S 0 kw = a_about S (nI kw) (nI 0); unfold a_about; rw [if_pos (⟨v_5, v_15⟩)]; (try rw [nI_clamp (show kw < 2 ^ 31 by omega)]); rw [if_pos rfl], ht⟩) (fun _ h9 => nomatch h9) dX5_about_61
      · skip
        rcases Nat.eq_or_lt_of_le (show 1 ≤ kq by omega) with rfl | kq1
        · skip
          refine lv_tableIn (off := 41) (tgt := 62) hx hb dX5_about_21 (by decide) (by decide) (by decide) (by decide) ?_
          refine lv_aload_n hx hb dX5_about_62 rfl (lv_at hl 0 rfl) ?_
          refine va_get (C := RX5) (T := TX5) (N := 6) (v := .ref (o 1)) hx hb hts hi5 hown hK hP 0 rfl rfl 0 (by decide) (hts (.fieldLink RX5 10 "HotGround" "wells" "LHotGround$Wells;") (by decide +kernel)) (fun _ h9 => h9) rfl dX5_about_63 ?_
          refine va_get (C := RX4) (T := TX4) (N := 6) (v := .ref (o 7)) hx hb hts hi4 hown hK hP 1 rfl rfl 2 (by decide) (hts (.fieldLink RX5 89 "HotGround$Wells" "box" "[I") (by decide +kernel)) (fun _ h9 => h9) rfl dX5_about_66 ?_
          refine lv_iload_n hx hb dX5_about_69 rfl (lv_at hl 1 rfl) ?_
          refine h_iald (f := hg_i S 1) hx hb hK hP 7 0 rfl rfl kw (rfl) (by omega) (by decide) dX5_about_70 ?_
          exact W.iret (v := hg_i S 1 kw) hx hb hr (fun t ht hW => ⟨_, rfl, by show hg_i S 1 kw = a_about S (nI kw) (nI 1); unfold a_about; rw [if_pos (⟨v_5, v_15⟩)]; (try rw [nI_clamp (show kw < 2 ^ 31 by omega)]); rw [if_neg (by decide)]; rw [if_pos rfl], ht⟩) (fun _ h9 => nomatch h9) dX5_about_71
        · skip
          rcases Nat.eq_or_lt_of_le (show 2 ≤ kq by omega) with rfl | kq2
          · skip
            refine lv_tableIn (off := 51) (tgt := 72) hx hb dX5_about_21 (by decide) (by decide) (by decide) (by decide) ?_
            refine lv_aload_n hx hb dX5_about_72 rfl (lv_at hl 0 rfl) ?_
            refine va_get (C := RX5) (T := TX5) (N := 6) (v := .ref (o 1)) hx hb hts hi5 hown hK hP 0 rfl rfl 0 (by decide) (hts (.fieldLink RX5 10 "HotGround" "wells" "LHotGround$Wells;") (by decide +kernel)) (fun _ h9 => h9) rfl dX5_about_73 ?_
            refine va_get (C := RX4) (T := TX4) (N := 6) (v := .ref (o 8)) hx hb hts hi4 hown hK hP 1 rfl rfl 3 (by decide) (hts (.fieldLink RX5 72 "HotGround$Wells" "age" "[I") (by decide +kernel)) (fun _ h9 => h9) rfl dX5_about_76 ?_
            refine lv_iload_n hx hb dX5_about_79 rfl (lv_at hl 1 rfl) ?_
            refine h_iald (f := hg_i S 2) hx hb hK hP 8 0 rfl rfl kw (rfl) (by omega) (by decide) dX5_about_80 ?_
            exact W.iret (v := hg_i S 2 kw) hx hb hr (fun t ht hW => ⟨_, rfl, by show hg_i S 2 kw = a_about S (nI kw) (nI 2); unfold a_about; rw [if_pos (⟨v_5, v_15⟩)]; (try rw [nI_clamp (show kw < 2 ^ 31 by omega)]); rw [if_neg (by decide)]; rw [if_neg (by decide)]; rw [if_pos rfl], ht⟩) (fun _ h9 => nomatch h9) dX5_about_81
          · skip
            rcases Nat.eq_or_lt_of_le (show 3 ≤ kq by omega) with rfl | kq3
            · skip
              refine lv_tableIn (off := 61) (tgt := 82) hx hb dX5_about_21 (by decide) (by decide) (by decide) (by decide) ?_
              refine lv_aload_n hx hb dX5_about_82 rfl (lv_at hl 0 rfl) ?_
              refine va_get (C := RX5) (T := TX5) (N := 6) (v := .ref (o 1)) hx hb hts hi5 hown hK hP 0 rfl rfl 0 (by decide) (hts (.fieldLink RX5 10 "HotGround" "wells" "LHotGround$Wells;") (by decide +kernel)) (fun _ h9 => h9) rfl dX5_about_83 ?_
              refine va_get (C := RX4) (T := TX4) (N := 6) (v := .ref (o 9)) hx hb hts hi4 hown hK hP 1 rfl rfl 4 (by decide) (hts (.fieldLink RX5 68 "HotGround$Wells" "open" "[Z") (by decide +kernel)) (fun _ h9 => h9) rfl dX5_about_86 ?_
              refine lv_iload_n hx hb dX5_about_89 rfl (lv_at hl 1 rfl) ?_
              refine h_zald (f := hg_i S 3) hx hb hK hP 9 2 rfl rfl kw (rfl) (by omega) (by decide) dX5_about_90 ?_
              refine lv_if_eq (tgt := 98) hx hb dX5_about_91 (by decide) (fun c_91 => ?_) (fun c_91 => ?_)
              · skip
                refine lv_iconst (v := nI 0) hx hb dX5_about_98 (by decide) ?_
                exact W.iret (v := nI 0) hx hb hr (fun t ht hW => ⟨_, rfl, by show nI 0 = a_about S (nI kw) (nI 3); unfold a_about; rw [if_pos (⟨v_5, v_15⟩)]; (try rw [nI_clamp (show kw < 2 ^ 31 by omega)]); rw [if_neg (by decide)]; rw [if_neg (by decide)]; rw [if_neg (by decide)]; rw [if_pos rfl]; unfold f_01; rw [if_pos c_91], ht⟩) (fun _ h9 => nomatch h9) dX5_about_99
              · skip
                refine lv_iconst (v := nI 1) hx hb dX5_about_94 (by decide) ?_
                refine lv_goto (tgt := 99) hx hb dX5_about_95 (by decide) ?_
                exact W.iret (v := nI 1) hx hb hr (fun t ht hW => ⟨_, rfl, by show nI 1 = a_about S (nI kw) (nI 3); unfold a_about; rw [if_pos (⟨v_5, v_15⟩)]; (try rw [nI_clamp (show kw < 2 ^ 31 by omega)]); rw [if_neg (by decide)]; rw [if_neg (by decide)]; rw [if_neg (by decide)]; rw [if_pos rfl]; unfold f_01; rw [if_neg c_91], ht⟩) (fun _ h9 => nomatch h9) dX5_about_99
            · skip
              refine lv_tableOut (tgt := 100) hx hb dX5_about_21 (Or.inr (by rw [nI_toInt (by omega)]; omega)) (by decide) ?_
              refine lv_aload_n hx hb dX5_about_100 rfl (lv_at hl 0 rfl) ?_
              refine va_get (C := RX5) (T := TX5) (N := 6) (v := .ref (o 1)) hx hb hts hi5 hown hK hP 0 rfl rfl 0 (by decide) (hts (.fieldLink RX5 10 "HotGround" "wells" "LHotGround$Wells;") (by decide +kernel)) (fun _ h9 => h9) rfl dX5_about_101 ?_
              refine va_get (C := RX4) (T := TX4) (N := 6) (v := .ref (o 10)) hx hb hts hi4 hown hK hP 1 rfl rfl 5 (by decide) (hts (.fieldLink RX5 92 "HotGround$Wells" "corners" "[I") (by decide +kernel)) (fun _ h9 => h9) rfl dX5_about_104 ?_
              refine lv_iload_n hx hb dX5_about_107 rfl (lv_at hl 1 rfl) ?_
              refine lv_iconst (v := nI 5) hx hb dX5_about_108 (by decide) ?_
              refine lv_imul hx hb dX5_about_109 ?_
              refine h_topi (y := nI (kw * 5)) (pk_mul _ _) ?_
              refine lv_iload_n hx hb dX5_about_110 rfl (lv_at hl 2 rfl) ?_
              refine lv_iadd hx hb dX5_about_111 ?_
              refine h_topi (y := nI ((kw * 5) + kq)) (nI_add _ _) ?_
              refine lv_iconst (v := nI 4) hx hb dX5_about_112 (by decide) ?_
              refine lv_isub hx hb dX5_about_113 ?_
              refine h_topi (y := nI (((kw * 5) + kq) - 4)) (pk_sub (by omega)) ?_
              refine h_iald (f := hg_i S 4) hx hb hK hP 10 0 rfl rfl (((kw * 5) + kq) - 4) (rfl) (by omega) (by decide) dX5_about_114 ?_
              exact W.iret (v := hg_i S 4 (((kw * 5) + kq) - 4)) hx hb hr (fun t ht hW => ⟨_, rfl, by show hg_i S 4 (((kw * 5) + kq) - 4) = a_about S (nI kw) (nI kq); unfold a_about; rw [if_pos (⟨v_5, v_15⟩)]; (try rw [nI_clamp (show kw < 2 ^ 31 by omega)]); (try rw [nI_clamp (show kq < 2 ^ 31 by omega)]); rw [if_neg (fun h => by have := (nI_eq (by omega) (by decide)).mp h; omega)]; rw [if_neg (fun h => by have := (nI_eq (by omega) (by decide)).mp h; omega)]; rw [if_neg (fun h => by have := (nI_eq (by omega) (by decide)).mp h; omega)]; rw [if_neg (fun h => by have := (nI_eq (by omega) (by decide)).mp h; omega)], ht⟩) (fun _ h9 => nomatch h9) dX5_about_115
    · skip
      have v_15 : ¬ ((nI 0) ≤ q ∧ q ≤ (nI 8)) := hg_in_f c_15
      refine lv_iconst (v := -1) hx hb dX5_about_18 (by decide) ?_
      exact W.iret (v := (-1)) hx hb hr (fun t ht hW => ⟨_, rfl, by show (-1) = a_about S w q; unfold a_about; rw [if_neg (fun q => v_15 q.2)], ht⟩) (fun _ h9 => nomatch h9) dX5_about_19
set_option maxHeartbeats 4000000 in
set_option maxRecDepth 100000 in
/-- turbine -/
theorem m_X5_turbine (l : Launch) (D : va_G) (o : Nat → Nat) (cI cJ cZ : ClassId) (S : hg_S) (sz : Nat) (h1 : hg_n S 1 ≤ 4) (a b d : Int32) : Met l yX5_turbine wsX5_turbine ({ frames := 2, cells := 0, slots := 0, locals := 42 }) (va_Pc [.ref (o 0), .int a, .int b, .int d] (hg_Wr D (xW o cI cJ cZ S) (hg_ty cI cJ cZ) sz)) (va_Qi (fun (r : Int32) (_ : Unit) => r = (r_turb S a b d).1) (fun _ t => hg_At D (xW o cI cJ cZ ((r_turb S a b d).2)) (va_A (xW o cI cJ cZ S) sz) t) (va_A (xW o cI cJ cZ S) sz)) 0 0 (va_A (xW o cI cJ cZ S) sz) := by
  refine h_start (cc := cX5_turbine) (maxL := 4) (ret := (some .int)) (by decide) rfl (Nat.le_of_ble_eq_true rfl) ?_
  intro pg ev s mi args below meth cd ls hx hb hr hts hown hlocks hml hnm hpic hl
  obtain ⟨hsz, hP, hK, hD0⟩ := hpic
  subst hsz
  have hD := hD0.self (sz := s.heap.size)
  generalize hAe : va_A (xW o cI cJ cZ S) s.heap.size = A at hD ⊢
  have hA : ∀ q : Nat, s.heap.size ≤ q → A q := fun q h => by rw [← hAe]; exact Or.inr h
  have hS : va_S A s.heap s.heap [] := va_S.rf
  have hi3 : ∀ w ∈ u_ws RX3 TX3 5, w ∈ wsX5_turbine := by decide +kernel
  have hi5 : ∀ w ∈ u_ws RX5 TX5 6, w ∈ wsX5_turbine := by decide +kernel
  have hl : lv_has ls 4 [(0, .ref (o 0)), (1, .int a), (2, .int b), (3, .int d)] := hl
  refine lv_iload_n hx hb dX5_turbine_0 rfl (lv_at hl 1 rfl) ?_
  refine vp_callSi (va_Run.run (va_runS (As := [.int a]) (rest := []) ⟨hx, hb, hml, hown, hts⟩ (m_X5_isPressure l a) (va_cwS 1 hts gX5_turbine_X5_isPressure rfl rfl rfl (by decide +kernel) ⟨Nat.le_of_ble_eq_true rfl, Nat.le_of_ble_eq_true rfl⟩) (h_preS0) rfl rfl hl.1 rfl (lv_room (Nat.le_of_ble_eq_true rfl)) dX5_turbine_1 ⟨Nat.le_of_ble_eq_true rfl, Nat.le_of_ble_eq_true rfl⟩)) (fun r_1 hr_1 => ?_)
  subst hr_1
  refine lv_if_eq (tgt := 28) hx hb dX5_turbine_4 (by decide) (fun c_4 => ?_) (fun c_4 => ?_)
  · skip
    have v_4 : ¬ ((nI 0) ≤ a ∧ a ≤ (nI 20)) := hg_in_f c_4
    refine lv_iconst (v := -1) hx hb dX5_turbine_28 (by decide) ?_
    have hq : r_turb S a b d = ((-1), S) := by unfold r_turb; rw [if_neg (fun q => v_4 q.1)]
    rw [show (S : hg_S) = (r_turb S a b d).2 from by rw [hq]] at hP hD
    exact W.iret (v := (-1)) hx hb hr (fun t ht hW => ⟨⟨_, (), rfl, by rw [hq], ⟨by rw [ht]; exact hP, hD⟩⟩, hS.F ht⟩) hS.2.2 dX5_turbine_29
  · skip
    have v_4 : ((nI 0) ≤ a ∧ a ≤ (nI 20)) := hg_in_t c_4
    refine lv_iload_n hx hb dX5_turbine_7 rfl (lv_at hl 2 rfl) ?_
    refine lv_iconst (v := nI 1) hx hb dX5_turbine_8 (by decide) ?_
    refine lv_bipush (v := nI 40) hx hb dX5_turbine_9 (by decide) ?_
    refine vp_callSi (va_Run.run (va_runS (As := [.int b, .int (nI 1), .int (nI 40)]) (rest := []) ⟨hx, hb, hml, hown, hts⟩ (m_X5_within l b (nI 1) (nI 40)) (va_cwS 3 hts gX5_turbine_X5_within rfl rfl rfl (by decide +kernel) ⟨Nat.le_of_ble_eq_true rfl, Nat.le_of_ble_eq_true rfl⟩) (h_preS0) rfl rfl hl.1 rfl (lv_room (Nat.le_of_ble_eq_true rfl)) dX5_turbine_11 ⟨Nat.le_of_ble_eq_true rfl, Nat.le_of_ble_eq_true rfl⟩)) (fun r_2 hr_2 => ?_)
    subst hr_2
    refine lv_if_eq (tgt := 28) hx hb dX5_turbine_14 (by decide) (fun c_14 => ?_) (fun c_14 => ?_)
    · skip
      have v_14 : ¬ ((nI 1) ≤ b ∧ b ≤ (nI 40)) := hg_in_f c_14
      refine lv_iconst (v := -1) hx hb dX5_turbine_28 (by decide) ?_
      have hq : r_turb S a b d = ((-1), S) := by unfold r_turb; rw [if_neg (fun q => v_14 q.2.1)]
      rw [show (S : hg_S) = (r_turb S a b d).2 from by rw [hq]] at hP hD
      exact W.iret (v := (-1)) hx hb hr (fun t ht hW => ⟨⟨_, (), rfl, by rw [hq], ⟨by rw [ht]; exact hP, hD⟩⟩, hS.F ht⟩) hS.2.2 dX5_turbine_29
    · skip
      have v_14 : ((nI 1) ≤ b ∧ b ≤ (nI 40)) := hg_in_t c_14
      refine lv_iload_n hx hb dX5_turbine_17 rfl (lv_at hl 3 rfl) ?_
      refine lv_iconst (v := nI 1) hx hb dX5_turbine_18 (by decide) ?_
      refine lv_sipush (v := nI 2000) hx hb dX5_turbine_19 (by decide) ?_
      refine vp_callSi (va_Run.run (va_runS (As := [.int d, .int (nI 1), .int (nI 2000)]) (rest := []) ⟨hx, hb, hml, hown, hts⟩ (m_X5_within l d (nI 1) (nI 2000)) (va_cwS 3 hts gX5_turbine_X5_within rfl rfl rfl (by decide +kernel) ⟨Nat.le_of_ble_eq_true rfl, Nat.le_of_ble_eq_true rfl⟩) (h_preS0) rfl rfl hl.1 rfl (lv_room (Nat.le_of_ble_eq_true rfl)) dX5_turbine_22 ⟨Nat.le_of_ble_eq_true rfl, Nat.le_of_ble_eq_true rfl⟩)) (fun r_3 hr_3 => ?_)
      subst hr_3
      refine lv_if_ne (tgt := 30) hx hb dX5_turbine_25 (by decide) (fun c_25 => ?_) (fun c_25 => ?_)
      · skip
        have v_25 : ((nI 1) ≤ d ∧ d ≤ (nI 2000)) := hg_in_t c_25
        refine lv_aload_n hx hb dX5_turbine_30 rfl (lv_at hl 0 rfl) ?_
        refine va_get (C := RX5) (T := TX5) (N := 6) (v := .ref (o 2)) hx hb hts hi5 hown hK hP 0 rfl rfl 1 (by decide) (hts (.fieldLink RX5 19 "HotGround" "plant" "LHotGround$Plant;") (by decide +kernel)) (fun _ h9 => h9) rfl dX5_turbine_31 ?_
        refine va_get (C := RX3) (T := TX3) (N := 5) (v := .int (nI (hg_n S 1))) hx hb hts hi3 hown hK hP 2 rfl rfl 0 (by decide) (hts (.fieldLink RX5 95 "HotGround$Plant" "count" "I") (by decide +kernel)) (fun _ h9 => h9) rfl dX5_turbine_34 ?_
        refine lv_iconst (v := nI 4) hx hb dX5_turbine_37 (by decide) ?_
        refine lv_icmp_lt (tgt := 44) hx hb dX5_turbine_38 (by decide) (fun c_38 => ?_) (fun c_38 => ?_)
        · skip
          have hc : hg_n S 1 < 4 := (nI_ltI (by omega) (by omega)).mp c_38
          refine lv_aload_n hx hb dX5_turbine_44 rfl (lv_at hl 0 rfl) ?_
          refine va_get (C := RX5) (T := TX5) (N := 6) (v := .ref (o 2)) hx hb hts hi5 hown hK hP 0 rfl rfl 1 (by decide) (hts (.fieldLink RX5 19 "HotGround" "plant" "LHotGround$Plant;") (by decide +kernel)) (fun _ h9 => h9) rfl dX5_turbine_45 ?_
          refine lv_iload_n hx hb dX5_turbine_48 rfl (lv_at hl 1 rfl) ?_
          refine lv_iload_n hx hb dX5_turbine_49 rfl (lv_at hl 2 rfl) ?_
          refine lv_iload_n hx hb dX5_turbine_50 rfl (lv_at hl 3 rfl) ?_
          refine h_calli (w1 := xW o cI cJ cZ (s_turb S a b d)) (va_runV (As := [.int a, .int b, .int d]) (rest := []) ⟨hx, hb, hml, hown, hts⟩ (m_X3_add l D o cI cJ cZ S s.heap.size hc a b d) (cwV 3 hts gX5_turbine_X3_add rfl rfl rfl (by decide +kernel) ⟨Nat.le_of_ble_eq_true rfl, Nat.le_of_ble_eq_true rfl⟩) (h_preW hK hP hD 2 rfl rfl rfl) rfl rfl hl.1 rfl (lv_room (Nat.le_of_ble_eq_true rfl)) dX5_turbine_51 ⟨Nat.le_of_ble_eq_true rfl, Nat.le_of_ble_eq_true rfl⟩) hS (h_all hD hS hA) (fun r_4 H locs hr_4 hP hD hS => ?_)
          subst hr_4
          have hq : r_turb S a b d = (nI (hg_n S 1), s_turb S a b d) := by unfold r_turb; rw [if_pos (⟨v_4, v_14, v_25⟩)]; rw [if_pos (by omega)]
          rw [show (s_turb S a b d : hg_S) = (r_turb S a b d).2 from by rw [hq]] at hP hD
          exact W.iret (v := nI (hg_n S 1)) hx hb hr (fun t ht hW => ⟨⟨_, (), rfl, by rw [hq], ⟨by rw [ht]; exact hP, hD⟩⟩, hS.F ht⟩) hS.2.2 dX5_turbine_54
        · skip
          have hc : ¬ hg_n S 1 < 4 := fun h => c_38 ((nI_ltI (by omega) (by omega)).mpr h)
          refine lv_bipush (v := -3) hx hb dX5_turbine_41 (by decide) ?_
          have hq : r_turb S a b d = ((-3), S) := by unfold r_turb; rw [if_pos (⟨v_4, v_14, v_25⟩)]; rw [if_neg (by omega)]
          rw [show (S : hg_S) = (r_turb S a b d).2 from by rw [hq]] at hP hD
          exact W.iret (v := (-3)) hx hb hr (fun t ht hW => ⟨⟨_, (), rfl, by rw [hq], ⟨by rw [ht]; exact hP, hD⟩⟩, hS.F ht⟩) hS.2.2 dX5_turbine_43
      · skip
        have v_25 : ¬ ((nI 1) ≤ d ∧ d ≤ (nI 2000)) := hg_in_f c_25
        refine lv_iconst (v := -1) hx hb dX5_turbine_28 (by decide) ?_
        have hq : r_turb S a b d = ((-1), S) := by unfold r_turb; rw [if_neg (fun q => v_25 q.2.2)]
        rw [show (S : hg_S) = (r_turb S a b d).2 from by rw [hq]] at hP hD
        exact W.iret (v := (-1)) hx hb hr (fun t ht hW => ⟨⟨_, (), rfl, by rw [hq], ⟨by rw [ht]; exact hP, hD⟩⟩, hS.F ht⟩) hS.2.2 dX5_turbine_29
set_option maxHeartbeats 4000000 in
set_option maxRecDepth 100000 in
/-- on -/
theorem m_X5_on (l : Launch) (D : va_G) (o : Nat → Nat) (cI cJ cZ : ClassId) (S : hg_S) (sz : Nat) (h1 : hg_n S 1 ≤ 4) (w x : Int32) (hx01 : vp_nar .boolean x = x)  : Met l yX5_on wsX5_on ({ frames := 1, cells := 0, slots := 0, locals := 22 }) (va_Pc [.ref (o 0), .int w, .int x] (hg_Wr D (xW o cI cJ cZ S) (hg_ty cI cJ cZ) sz)) (va_Qi (fun (r : Int32) (_ : Unit) => r = (r_on S w x).1) (fun _ t => hg_At D (xW o cI cJ cZ ((r_on S w x).2)) (va_A (xW o cI cJ cZ S) sz) t) (va_A (xW o cI cJ cZ S) sz)) 0 0 (va_A (xW o cI cJ cZ S) sz) := by
  refine h_start (cc := cX5_on) (maxL := 4) (ret := (some .int)) (by decide) rfl (Nat.le_of_ble_eq_true rfl) ?_
  intro pg ev s mi args below meth cd ls hx hb hr hts hown hlocks hml hnm hpic hl
  obtain ⟨hsz, hP, hK, hD0⟩ := hpic
  subst hsz
  have hD := hD0.self (sz := s.heap.size)
  generalize hAe : va_A (xW o cI cJ cZ S) s.heap.size = A at hD ⊢
  have hA : ∀ q : Nat, s.heap.size ≤ q → A q := fun q h => by rw [← hAe]; exact Or.inr h
  have hS : va_S A s.heap s.heap [] := va_S.rf
  have hi3 : ∀ w ∈ u_ws RX3 TX3 5, w ∈ wsX5_on := by decide +kernel
  have hi5 : ∀ w ∈ u_ws RX5 TX5 6, w ∈ wsX5_on := by decide +kernel
  have hl : lv_has ls 4 [(0, .ref (o 0)), (1, .int w), (2, .int x)] := hl
  refine lv_iload_n hx hb dX5_on_0 rfl (lv_at hl 1 rfl) ?_
  refine lv_iconst (v := nI 0) hx hb dX5_on_1 (by decide) ?_
  refine lv_aload_n hx hb dX5_on_2 rfl (lv_at hl 0 rfl) ?_
  refine va_get (C := RX5) (T := TX5) (N := 6) (v := .ref (o 2)) hx hb hts hi5 hown hK hP 0 rfl rfl 1 (by decide) (hts (.fieldLink RX5 19 "HotGround" "plant" "LHotGround$Plant;") (by decide +kernel)) (fun _ h9 => h9) rfl dX5_on_3 ?_
  refine va_get (C := RX3) (T := TX3) (N := 5) (v := .int (nI (hg_n S 1))) hx hb hts hi3 hown hK hP 2 rfl rfl 0 (by decide) (hts (.fieldLink RX5 95 "HotGround$Plant" "count" "I") (by decide +kernel)) (fun _ h9 => h9) rfl dX5_on_6 ?_
  refine lv_iconst (v := nI 1) hx hb dX5_on_9 (by decide) ?_
  refine lv_isub hx hb dX5_on_10 ?_
  refine vp_callSi (va_Run.run (va_runS (As := [.int w, .int (nI 0), .int ((nI (hg_n S 1)) - (nI 1))]) (rest := []) ⟨hx, hb, hml, hown, hts⟩ (m_X5_within l w (nI 0) ((nI (hg_n S 1)) - (nI 1))) (va_cwS 3 hts gX5_on_X5_within rfl rfl rfl (by decide +kernel) ⟨Nat.le_of_ble_eq_true rfl, Nat.le_of_ble_eq_true rfl⟩) (h_preS0) rfl rfl hl.1 rfl (lv_room (Nat.le_of_ble_eq_true rfl)) dX5_on_11 ⟨Nat.le_of_ble_eq_true rfl, Nat.le_of_ble_eq_true rfl⟩)) (fun r_1 hr_1 => ?_)
  subst hr_1
  refine lv_if_ne (tgt := 19) hx hb dX5_on_14 (by decide) (fun c_14 => ?_) (fun c_14 => ?_)
  · skip
    have v_14 : ((nI 0) ≤ w ∧ w ≤ ((nI (hg_n S 1)) - (nI 1))) := hg_in_t c_14
    obtain ⟨kw, kwh, rfl⟩ := hg_wel (by omega) v_14
    refine lv_aload_n hx hb dX5_on_19 rfl (lv_at hl 0 rfl) ?_
    refine va_get (C := RX5) (T := TX5) (N := 6) (v := .ref (o 2)) hx hb hts hi5 hown hK hP 0 rfl rfl 1 (by decide) (hts (.fieldLink RX5 19 "HotGround" "plant" "LHotGround$Plant;") (by decide +kernel)) (fun _ h9 => h9) rfl dX5_on_20 ?_
    refine va_get (C := RX3) (T := TX3) (N := 5) (v := .ref (o 14)) hx hb hts hi3 hown hK hP 2 rfl rfl 4 (by decide) (hts (.fieldLink RX5 99 "HotGround$Plant" "on" "[Z") (by decide +kernel)) (fun _ h9 => h9) rfl dX5_on_23 ?_
    refine lv_iload_n hx hb dX5_on_26 rfl (lv_at hl 1 rfl) ?_
    refine h_zald (f := hg_i S 8) hx hb hK hP 14 2 rfl rfl kw (rfl) (by omega) (by decide) dX5_on_27 ?_
    refine lv_istore_n (lv' := [(3, .int (hg_i S 8 kw)), (0, .ref (o 0)), (1, .int (nI kw)), (2, .int x)]) hx hb dX5_on_28 rfl hl (by decide) rfl (fun ls hl => ?_)
    refine lv_aload_n hx hb dX5_on_29 rfl (lv_at hl 1 rfl) ?_
    refine va_get (C := RX5) (T := TX5) (N := 6) (v := .ref (o 2)) hx hb hts hi5 hown hK hP 0 rfl rfl 1 (by decide) (hts (.fieldLink RX5 19 "HotGround" "plant" "LHotGround$Plant;") (by decide +kernel)) (fun _ h9 => h9) rfl dX5_on_30 ?_
    refine va_get (C := RX3) (T := TX3) (N := 5) (v := .ref (o 14)) hx hb hts hi3 hown hK hP 2 rfl rfl 4 (by decide) (hts (.fieldLink RX5 99 "HotGround$Plant" "on" "[Z") (by decide +kernel)) (fun _ h9 => h9) rfl dX5_on_33 ?_
    refine lv_iload_n hx hb dX5_on_36 rfl (lv_at hl 2 rfl) ?_
    refine lv_iload_n hx hb dX5_on_37 rfl (lv_at hl 3 rfl) ?_
    refine h_zast (f := hg_i S 8) (ws' := xW o cI cJ cZ (hg_si S 8 (upd (hg_i S 8) kw x))) hx hb hK hP hD hS 14 2 rfl rfl kw (rfl) (by omega) (by decide) (hx01) rfl dX5_on_38 (fun H locs hP hD hS => ?_)
    refine lv_iload_n hx hb dX5_on_39 rfl (lv_at hl 0 rfl) ?_
    refine lv_if_eq (tgt := 47) hx hb dX5_on_40 (by decide) (fun c_40 => ?_) (fun c_40 => ?_)
    · skip
      refine lv_iconst (v := nI 0) hx hb dX5_on_47 (by decide) ?_
      have hq : r_on S (nI kw) x = (nI 0, hg_si S 8 (upd (hg_i S 8) kw x)) := by unfold r_on; rw [if_pos v_14]; (try rw [nI_clamp (show kw < 2 ^ 31 by omega)]); unfold f_01; rw [if_pos c_40]
      rw [show (hg_si S 8 (upd (hg_i S 8) kw x) : hg_S) = (r_on S (nI kw) x).2 from by rw [hq]] at hP hD
      exact W.iret (v := nI 0) hx hb hr (fun t ht hW => ⟨⟨_, (), rfl, by rw [hq], ⟨by rw [ht]; exact hP, hD⟩⟩, hS.F ht⟩) hS.2.2 dX5_on_48
    · skip
      refine lv_iconst (v := nI 1) hx hb dX5_on_43 (by decide) ?_
      refine lv_goto (tgt := 48) hx hb dX5_on_44 (by decide) ?_
      have hq : r_on S (nI kw) x = (nI 1, hg_si S 8 (upd (hg_i S 8) kw x)) := by unfold r_on; rw [if_pos v_14]; (try rw [nI_clamp (show kw < 2 ^ 31 by omega)]); unfold f_01; rw [if_neg c_40]
      rw [show (hg_si S 8 (upd (hg_i S 8) kw x) : hg_S) = (r_on S (nI kw) x).2 from by rw [hq]] at hP hD
      exact W.iret (v := nI 1) hx hb hr (fun t ht hW => ⟨⟨_, (), rfl, by rw [hq], ⟨by rw [ht]; exact hP, hD⟩⟩, hS.F ht⟩) hS.2.2 dX5_on_48
  · skip
    have v_14 : ¬ ((nI 0) ≤ w ∧ w ≤ ((nI (hg_n S 1)) - (nI 1))) := hg_in_f c_14
    refine lv_iconst (v := -1) hx hb dX5_on_17 (by decide) ?_
    have hq : r_on S w x = ((-1), S) := by unfold r_on; rw [if_neg (fun q => v_14 q)]
    rw [show (S : hg_S) = (r_on S w x).2 from by rw [hq]] at hP hD
    exact W.iret (v := (-1)) hx hb hr (fun t ht hW => ⟨⟨_, (), rfl, by rw [hq], ⟨by rw [ht]; exact hP, hD⟩⟩, hS.F ht⟩) hS.2.2 dX5_on_18
set_option maxHeartbeats 4000000 in
set_option maxRecDepth 100000 in
/-- the point -/
theorem m_X5_meeting (l : Launch) (D : va_G) (o : Nat → Nat) (cI cJ cZ : ClassId) (S : hg_S) (h0 : hg_n S 0 ≤ 8) (h1 : hg_n S 1 ≤ 4)  : Met l yX5_meeting wsX5_meeting ({ frames := 4, cells := 0, slots := 0, locals := 79 }) (va_Pc [.ref (o 0)] (hg_R D (xW o cI cJ cZ S) (hg_ty cI cJ cZ))) (vp_Si (fun r => r = f_point S)) 0 0 (fun _ => False) := by
  refine h_start (cc := cX5_meeting) (maxL := 2) (ret := (some .int)) (by decide) rfl (Nat.le_of_ble_eq_true rfl) ?_
  intro pg ev s mi args below meth cd ls hx hb hr hts hown hlocks hml hnm hpic hl
  obtain ⟨hP, hK⟩ := hpic
  have hi5 : ∀ w ∈ u_ws RX5 TX5 6, w ∈ wsX5_meeting := by decide +kernel
  have hl : lv_has ls 2 [(0, .ref (o 0))] := hl
  refine lv_bipush (v := nI 20) hx hb dX5_meeting_0 (by decide) ?_
  refine h_topi (y := nI 20 - nI 0) (by decide) ?_
  refine lv_istore_n (lv' := [(1, .int (nI 20 - nI 0)), (0, .ref (o 0))]) hx hb dX5_meeting_2 rfl hl (by decide) rfl (fun ls hl => ?_)
  refine h_forI (nL := 2) 21 (fun i => [(1, .int (nI 20 - nI i)), (0, .ref (o 0))]) (fun i => f_point S = f_meet S (21 - i)) ?_ ?_ rfl (lv_sub hl [0, 1] rfl)
  · intro i ls hi hI hl ih
    have hl : lv_has ls 2 [(1, .int (nI 20 - nI i)), (0, .ref (o 0))] := hl
    rw [show nI 20 - nI i = nI (20 - i) from pk_sub (by omega)] at hl
    have hl : lv_has ls 2 [(1, .int (nI (20 - i))), (0, .ref (o 0))] := hl
    have hm : f_meet S (21 - i) = if f_draw S (20 - i) ≤ f_supply S (20 - i) then nI (20 - i) else f_meet S (20 - i) := by rw [show 21 - i = (20 - i) + 1 from by omega]; rfl
    refine lv_iload_n hx hb dX5_meeting_3 rfl (lv_at hl 0 rfl) ?_
    refine lv_if_lt (tgt := 34) hx hb dX5_meeting_4 (by decide) (fun c_4 => absurd c_4 (nI_pos (by omega))) (fun c_4 => ?_)
    refine lv_aload_n hx hb dX5_meeting_7 rfl (lv_at hl 1 rfl) ?_
    refine va_get (C := RX5) (T := TX5) (N := 6) (v := .ref (o 1)) hx hb hts hi5 hown hK hP 0 rfl rfl 0 (by decide) (hts (.fieldLink RX5 10 "HotGround" "wells" "LHotGround$Wells;") (by decide +kernel)) (fun _ h9 => h9) rfl dX5_meeting_8 ?_
    refine lv_iload_n hx hb dX5_meeting_11 rfl (lv_at hl 0 rfl) ?_
    refine vp_callSi (va_Run.run (va_runV (As := [.int (nI (20 - i))]) (rest := []) ⟨hx, hb, hml, hown, hts⟩ (m_X4_supply l D o cI cJ cZ S h0 (20 - i) (by omega)) (cwV 1 hts gX5_meeting_X4_supply rfl rfl rfl (by decide +kernel) ⟨Nat.le_of_ble_eq_true rfl, Nat.le_of_ble_eq_true rfl⟩) (h_preR hK hP 1 rfl rfl rfl) rfl rfl hl.1 rfl (lv_room (Nat.le_of_ble_eq_true rfl)) dX5_meeting_12 ⟨Nat.le_of_ble_eq_true rfl, Nat.le_of_ble_eq_true rfl⟩)) (fun r_1 hr_1 => ?_)
    subst hr_1
    refine lv_aload_n hx hb dX5_meeting_15 rfl (lv_at hl 1 rfl) ?_
    refine va_get (C := RX5) (T := TX5) (N := 6) (v := .ref (o 2)) hx hb hts hi5 hown hK hP 0 rfl rfl 1 (by decide) (hts (.fieldLink RX5 19 "HotGround" "plant" "LHotGround$Plant;") (by decide +kernel)) (fun _ h9 => h9) rfl dX5_meeting_16 ?_
    refine lv_iload_n hx hb dX5_meeting_19 rfl (lv_at hl 0 rfl) ?_
    refine vp_callSi (va_Run.run (va_runV (As := [.int (nI (20 - i))]) (rest := [.int (f_supply S (20 - i))]) ⟨hx, hb, hml, hown, hts⟩ (m_X3_draw l D o cI cJ cZ S h1 (20 - i) (by omega)) (cwV 1 hts gX5_meeting_X3_draw rfl rfl rfl (by decide +kernel) ⟨Nat.le_of_ble_eq_true rfl, Nat.le_of_ble_eq_true rfl⟩) (h_preR hK hP 2 rfl rfl rfl) rfl rfl hl.1 rfl (lv_room (Nat.le_of_ble_eq_true rfl)) dX5_meeting_20 ⟨Nat.le_of_ble_eq_true rfl, Nat.le_of_ble_eq_true rfl⟩)) (fun r_2 hr_2 => ?_)
    subst hr_2
    refine lv_icmp_lt (tgt := 28) hx hb dX5_meeting_23 (by decide) (fun c_23 => ?_) (fun c_23 => ?_)
    · skip
      refine lv_iinc (v := nI 20 - nI (i + 1)) (lv' := [(1, .int (nI 20 - nI (i + 1))), (0, .ref (o 0))]) hx hb dX5_meeting_28 hl (k := 0) rfl (hg_dec20 hi) (by decide) rfl (fun ls hl => ?_)
      refine lv_goto (tgt := 3) hx hb dX5_meeting_31 (by decide) ?_
      exact ih ls (by rw [hI, hm, if_neg (hg_nle.mpr c_23)]; congr 1; omega) (lv_sub hl [0, 1] rfl)
    · skip
      refine lv_iload_n hx hb dX5_meeting_26 rfl (lv_at hl 0 rfl) ?_
      exact W.iret (v := nI (20 - i)) hx hb hr (fun t ht hW => ⟨_, rfl, by rw [hI, hm, if_pos (hg_nlt.mp c_23)], ht⟩) (fun _ h9 => nomatch h9) dX5_meeting_27
  · intro ls hI hl
    have hl : lv_has ls 2 [(1, .int (nI 20 - nI 21)), (0, .ref (o 0))] := hl
    refine lv_iload_n hx hb dX5_meeting_3 rfl (lv_at hl 0 rfl) ?_
    refine lv_if_lt (tgt := 34) hx hb dX5_meeting_4 (by decide) (fun c_4 => ?_) (fun c_4 => absurd (by decide) c_4)
    refine lv_bipush (v := -9) hx hb dX5_meeting_34 (by decide) ?_
    exact W.iret (v := (-9)) hx hb hr (fun t ht hW => ⟨_, rfl, by rw [hI]; rfl, ht⟩) (fun _ h9 => nomatch h9) dX5_meeting_36
set_option maxHeartbeats 4000000 in
set_option maxRecDepth 100000 in
/-- point -/
theorem m_X5_point (l : Launch) (D : va_G) (o : Nat → Nat) (cI cJ cZ : ClassId) (S : hg_S) (h0 : hg_n S 0 ≤ 8) (h1 : hg_n S 1 ≤ 4)  : Met l yX5_point wsX5_point ({ frames := 5, cells := 0, slots := 0, locals := 100 }) (va_Pc [.ref (o 0)] (hg_R D (xW o cI cJ cZ S) (hg_ty cI cJ cZ))) (vp_Si (fun r => r = f_point S)) 0 0 (fun _ => False) := by
  refine h_start (cc := cX5_point) (maxL := 1) (ret := (some .int)) (by decide) rfl (Nat.le_of_ble_eq_true rfl) ?_
  intro pg ev s mi args below meth cd ls hx hb hr hts hown hlocks hml hnm hpic hl
  obtain ⟨hP, hK⟩ := hpic
  have hl : lv_has ls 1 [(0, .ref (o 0))] := hl
  refine lv_aload_n hx hb dX5_point_0 rfl (lv_at hl 0 rfl) ?_
  refine vp_callSi (va_Run.run (va_runV (As := []) (rest := []) ⟨hx, hb, hml, hown, hts⟩ (m_X5_meeting l D o cI cJ cZ S h0 h1) (cwV 0 hts gX5_point_X5_meeting rfl rfl rfl (by decide +kernel) ⟨Nat.le_of_ble_eq_true rfl, Nat.le_of_ble_eq_true rfl⟩) (h_preR hK hP 0 rfl rfl rfl) rfl rfl hl.1 rfl (lv_room (Nat.le_of_ble_eq_true rfl)) dX5_point_1 ⟨Nat.le_of_ble_eq_true rfl, Nat.le_of_ble_eq_true rfl⟩)) (fun r_1 hr_1 => ?_)
  subst hr_1
  exact W.iret (v := f_point S) hx hb hr (fun t ht hW => ⟨_, rfl, rfl, ht⟩) (fun _ h9 => nomatch h9) dX5_point_4
set_option maxHeartbeats 4000000 in
set_option maxRecDepth 100000 in
/-- at -/
theorem m_X5_at (l : Launch) (D : va_G) (o : Nat → Nat) (cI cJ cZ : ClassId) (S : hg_S) (h0 : hg_n S 0 ≤ 8) (h1 : hg_n S 1 ≤ 4) (q a : Int32) : Met l yX5_at wsX5_at ({ frames := 4, cells := 0, slots := 0, locals := 80 }) (va_Pc [.ref (o 0), .int q, .int a] (hg_R D (xW o cI cJ cZ S) (hg_ty cI cJ cZ))) (vp_Si (fun r => r = a_at S q a)) 0 0 (fun _ => False) := by
  refine h_start (cc := cX5_at) (maxL := 3) (ret := (some .int)) (by decide) rfl (Nat.le_of_ble_eq_true rfl) ?_
  intro pg ev s mi args below meth cd ls hx hb hr hts hown hlocks hml hnm hpic hl
  obtain ⟨hP, hK⟩ := hpic
  have hi5 : ∀ w ∈ u_ws RX5 TX5 6, w ∈ wsX5_at := by decide +kernel
  have hl : lv_has ls 3 [(0, .ref (o 0)), (1, .int q), (2, .int a)] := hl
  refine lv_iload_n hx hb dX5_at_0 rfl (lv_at hl 1 rfl) ?_
  refine lv_iconst (v := nI 0) hx hb dX5_at_1 (by decide) ?_
  refine lv_iconst (v := nI 2) hx hb dX5_at_2 (by decide) ?_
  refine vp_callSi (va_Run.run (va_runS (As := [.int q, .int (nI 0), .int (nI 2)]) (rest := []) ⟨hx, hb, hml, hown, hts⟩ (m_X5_within l q (nI 0) (nI 2)) (va_cwS 3 hts gX5_at_X5_within rfl rfl rfl (by decide +kernel) ⟨Nat.le_of_ble_eq_true rfl, Nat.le_of_ble_eq_true rfl⟩) (h_preS0) rfl rfl hl.1 rfl (lv_room (Nat.le_of_ble_eq_true rfl)) dX5_at_3 ⟨Nat.le_of_ble_eq_true rfl, Nat.le_of_ble_eq_true rfl⟩)) (fun r_1 hr_1 => ?_)
  subst hr_1
  refine lv_if_eq (tgt := 16) hx hb dX5_at_6 (by decide) (fun c_6 => ?_) (fun c_6 => ?_)
  · skip
    have v_6 : ¬ ((nI 0) ≤ q ∧ q ≤ (nI 2)) := hg_in_f c_6
    refine lv_iconst (v := -1) hx hb dX5_at_16 (by decide) ?_
    exact W.iret (v := (-1)) hx hb hr (fun t ht hW => ⟨_, rfl, by show (-1) = a_at S q a; unfold a_at; rw [if_neg (fun q => v_6 q.1)], ht⟩) (fun _ h9 => nomatch h9) dX5_at_17
  · skip
    have v_6 : ((nI 0) ≤ q ∧ q ≤ (nI 2)) := hg_in_t c_6
    refine lv_iload_n hx hb dX5_at_9 rfl (lv_at hl 2 rfl) ?_
    refine vp_callSi (va_Run.run (va_runS (As := [.int a]) (rest := []) ⟨hx, hb, hml, hown, hts⟩ (m_X5_isPressure l a) (va_cwS 1 hts gX5_at_X5_isPressure rfl rfl rfl (by decide +kernel) ⟨Nat.le_of_ble_eq_true rfl, Nat.le_of_ble_eq_true rfl⟩) (h_preS0) rfl rfl hl.1 rfl (lv_room (Nat.le_of_ble_eq_true rfl)) dX5_at_10 ⟨Nat.le_of_ble_eq_true rfl, Nat.le_of_ble_eq_true rfl⟩)) (fun r_2 hr_2 => ?_)
    subst hr_2
    refine lv_if_ne (tgt := 18) hx hb dX5_at_13 (by decide) (fun c_13 => ?_) (fun c_13 => ?_)
    · skip
      have v_13 : ((nI 0) ≤ a ∧ a ≤ (nI 20)) := hg_in_t c_13
      refine lv_iload_n hx hb dX5_at_18 rfl (lv_at hl 1 rfl) ?_
      obtain ⟨kq, kql, kqh, rfl⟩ := hg_rng (by decide) (by decide) v_6
      obtain ⟨ka, kal, kah, rfl⟩ := hg_rng (by decide) (by decide) v_13
      rcases Nat.eq_or_lt_of_le (show 0 ≤ kq by omega) with rfl | kq0
      · skip
        refine lv_lookup (off := 25) (tgt := 44) hx hb dX5_at_19 (by decide) (by decide) (by decide) ?_
        refine lv_aload_n hx hb dX5_at_44 rfl (lv_at hl 0 rfl) ?_
        refine va_get (C := RX5) (T := TX5) (N := 6) (v := .ref (o 1)) hx hb hts hi5 hown hK hP 0 rfl rfl 0 (by decide) (hts (.fieldLink RX5 10 "HotGround" "wells" "LHotGround$Wells;") (by decide +kernel)) (fun _ h9 => h9) rfl dX5_at_45 ?_
        refine lv_iload_n hx hb dX5_at_48 rfl (lv_at hl 2 rfl) ?_
        refine vp_callSi (va_Run.run (va_runV (As := [.int (nI ka)]) (rest := []) ⟨hx, hb, hml, hown, hts⟩ (m_X4_supply l D o cI cJ cZ S h0 ka (by omega)) (cwV 1 hts gX5_at_X4_supply rfl rfl rfl (by decide +kernel) ⟨Nat.le_of_ble_eq_true rfl, Nat.le_of_ble_eq_true rfl⟩) (h_preR hK hP 1 rfl rfl rfl) rfl rfl hl.1 rfl (lv_room (Nat.le_of_ble_eq_true rfl)) dX5_at_49 ⟨Nat.le_of_ble_eq_true rfl, Nat.le_of_ble_eq_true rfl⟩)) (fun r_3 hr_3 => ?_)
        subst hr_3
        exact W.iret (v := f_supply S ka) hx hb hr (fun t ht hW => ⟨_, rfl, by show f_supply S ka = a_at S (nI 0) (nI ka); unfold a_at; rw [if_pos (⟨v_6, v_13⟩)]; (try rw [nI_clamp (show ka < 2 ^ 31 by omega)]); rw [if_pos rfl], ht⟩) (fun _ h9 => nomatch h9) dX5_at_52
      · skip
        rcases Nat.eq_or_lt_of_le (show 1 ≤ kq by omega) with rfl | kq1
        · skip
          refine lv_lookup (off := 34) (tgt := 53) hx hb dX5_at_19 (by decide) (by decide) (by decide) ?_
          refine lv_aload_n hx hb dX5_at_53 rfl (lv_at hl 0 rfl) ?_
          refine va_get (C := RX5) (T := TX5) (N := 6) (v := .ref (o 2)) hx hb hts hi5 hown hK hP 0 rfl rfl 1 (by decide) (hts (.fieldLink RX5 19 "HotGround" "plant" "LHotGround$Plant;") (by decide +kernel)) (fun _ h9 => h9) rfl dX5_at_54 ?_
          refine lv_iload_n hx hb dX5_at_57 rfl (lv_at hl 2 rfl) ?_
          refine vp_callSi (va_Run.run (va_runV (As := [.int (nI ka)]) (rest := []) ⟨hx, hb, hml, hown, hts⟩ (m_X3_draw l D o cI cJ cZ S h1 ka (by omega)) (cwV 1 hts gX5_at_X3_draw rfl rfl rfl (by decide +kernel) ⟨Nat.le_of_ble_eq_true rfl, Nat.le_of_ble_eq_true rfl⟩) (h_preR hK hP 2 rfl rfl rfl) rfl rfl hl.1 rfl (lv_room (Nat.le_of_ble_eq_true rfl)) dX5_at_58 ⟨Nat.le_of_ble_eq_true rfl, Nat.le_of_ble_eq_true rfl⟩)) (fun r_4 hr_4 => ?_)
          subst hr_4
          exact W.iret (v := f_draw S ka) hx hb hr (fun t ht hW => ⟨_, rfl, by show f_draw S ka = a_at S (nI 1) (nI ka); unfold a_at; rw [if_pos (⟨v_6, v_13⟩)]; (try rw [nI_clamp (show ka < 2 ^ 31 by omega)]); rw [if_neg (by decide)]; rw [if_pos rfl], ht⟩) (fun _ h9 => nomatch h9) dX5_at_61
        · skip
          obtain rfl : kq = 2 := by omega
          refine lv_lookup (off := 43) (tgt := 62) hx hb dX5_at_19 (by decide) (by decide) (by decide) ?_
          refine lv_aload_n hx hb dX5_at_62 rfl (lv_at hl 0 rfl) ?_
          refine va_get (C := RX5) (T := TX5) (N := 6) (v := .ref (o 1)) hx hb hts hi5 hown hK hP 0 rfl rfl 0 (by decide) (hts (.fieldLink RX5 10 "HotGround" "wells" "LHotGround$Wells;") (by decide +kernel)) (fun _ h9 => h9) rfl dX5_at_63 ?_
          refine lv_iload_n hx hb dX5_at_66 rfl (lv_at hl 2 rfl) ?_
          refine vp_callSi (va_Run.run (va_runV (As := [.int (nI ka)]) (rest := []) ⟨hx, hb, hml, hown, hts⟩ (m_X4_water l D o cI cJ cZ S h0 ka (by omega)) (cwV 1 hts gX5_at_X4_water rfl rfl rfl (by decide +kernel) ⟨Nat.le_of_ble_eq_true rfl, Nat.le_of_ble_eq_true rfl⟩) (h_preR hK hP 1 rfl rfl rfl) rfl rfl hl.1 rfl (lv_room (Nat.le_of_ble_eq_true rfl)) dX5_at_67 ⟨Nat.le_of_ble_eq_true rfl, Nat.le_of_ble_eq_true rfl⟩)) (fun r_5 hr_5 => ?_)
          subst hr_5
          exact W.iret (v := f_water S ka) hx hb hr (fun t ht hW => ⟨_, rfl, by show f_water S ka = a_at S (nI 2) (nI ka); unfold a_at; rw [if_pos (⟨v_6, v_13⟩)]; (try rw [nI_clamp (show ka < 2 ^ 31 by omega)]); rw [if_neg (by decide)]; rw [if_neg (by decide)], ht⟩) (fun _ h9 => nomatch h9) dX5_at_70
    · skip
      have v_13 : ¬ ((nI 0) ≤ a ∧ a ≤ (nI 20)) := hg_in_f c_13
      refine lv_iconst (v := -1) hx hb dX5_at_16 (by decide) ?_
      exact W.iret (v := (-1)) hx hb hr (fun t ht hW => ⟨_, rfl, by show (-1) = a_at S q a; unfold a_at; rw [if_neg (fun q => v_13 q.2)], ht⟩) (fun _ h9 => nomatch h9) dX5_at_17
