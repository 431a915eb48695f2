set_option maxHeartbeats 4000000 in
set_option maxRecDepth 100000 in
/-- DRAW -/
theorem m_X3_draw (l : Launch) (D : va_G) (o : Nat → Nat) (cI cJ cZ : ClassId) (S : hg_S) (h1 : hg_n S 1 ≤ 4) (p : Nat) (hp : p ≤ 20) : Met l yX3_draw wsX3_draw ({ frames := 1, cells := 0, slots := 0, locals := 14 }) (va_Pc [.ref (o 2), .int (nI p)] (hg_R D (xW o cI cJ cZ S) (hg_ty cI cJ cZ))) (vp_Si (fun r => r = f_draw S p)) 0 0 (fun _ => False) := by
  refine h_start (cc := cX3_draw) (maxL := 4) (ret := (some .int)) (by decide) rfl (Nat.le_of_ble_eq_true rfl) ?_
  intro pg ev s mi args below meth cd ls hx hb hr hts hown hlocks hml hnm hpic hl
  obtain ⟨hP, hK⟩ := hpic
  have hi3 : ∀ w ∈ u_ws RX3 TX3 5, w ∈ wsX3_draw := by decide +kernel
  have hl : lv_has ls 4 [(0, .ref (o 2)), (1, .int (nI p))] := hl
  refine lv_iconst (v := nI 0) hx hb dX3_draw_0 (by decide) ?_
  refine h_topi (y := hg_sum (f_draw1 S p) 0) (hg_sum_0) ?_
  refine lv_istore_n (lv' := [(2, .int (hg_sum (f_draw1 S p) 0)), (0, .ref (o 2)), (1, .int (nI p))]) hx hb dX3_draw_1 rfl hl (by decide) rfl (fun ls hl => ?_)
  refine lv_iconst (v := nI 0) hx hb dX3_draw_2 (by decide) ?_
  refine lv_istore_n (lv' := [(3, .int (nI 0)), (2, .int (hg_sum (f_draw1 S p) 0)), (0, .ref (o 2)), (1, .int (nI p))]) hx hb dX3_draw_3 rfl hl (by decide) rfl (fun ls hl => ?_)
  refine h_for (nL := 4) (hg_n S 1) (fun i => [(3, .int (nI i)), (2, .int (hg_sum (f_draw1 S p) i)), (0, .ref (o 2)), (1, .int (nI p))]) ?_ ?_ (lv_sub hl [0, 1, 2, 3] rfl)
  · intro i ls hi hl ih
    have hl : lv_has ls 4 [(3, .int (nI i)), (2, .int (hg_sum (f_draw1 S p) i)), (0, .ref (o 2)), (1, .int (nI p))] := hl
    refine lv_iload_n hx hb dX3_draw_4 rfl (lv_at hl 0 rfl) ?_
    refine lv_aload_n hx hb dX3_draw_5 rfl (lv_at hl 2 rfl) ?_
    refine va_get (C := RX3) (T := TX3) (N := 5) (v := .int (nI (hg_n S 1))) hx hb hts hi3 hown hK hP 2 rfl rfl 0 (by decide) (hts (.fieldLink RX3 23 "HotGround$Plant" "count" "I") (by decide +kernel)) (fun _ h9 => h9) rfl dX3_draw_6 ?_
    refine lv_icmp_ge (tgt := 59) hx hb dX3_draw_9 (by decide) (fun c_9 => absurd c_9 (nI_ge hi (by omega))) (fun c_9 => ?_)
    refine lv_aload_n hx hb dX3_draw_12 rfl (lv_at hl 2 rfl) ?_
    refine va_get (C := RX3) (T := TX3) (N := 5) (v := .ref (o 14)) hx hb hts hi3 hown hK hP 2 rfl rfl 4 (by decide) (hts (.fieldLink RX3 19 "HotGround$Plant" "on" "[Z") (by decide +kernel)) (fun _ h9 => h9) rfl dX3_draw_13 ?_
    refine lv_iload_n hx hb dX3_draw_16 rfl (lv_at hl 0 rfl) ?_
    refine h_zald (f := hg_i S 8) hx hb hK hP 14 2 rfl rfl i (rfl) (by omega) (by decide) dX3_draw_17 ?_
    refine lv_if_eq (tgt := 53) hx hb dX3_draw_18 (by decide) (fun c_18 => ?_) (fun c_18 => ?_)
    · skip
      rw [show hg_sum (f_draw1 S p) i = hg_sum (f_draw1 S p) (i + 1) from hg_sum_keep (g := f_draw1 S p) (n := i) (by unfold f_draw1; rw [if_pos c_18])] at hl
      have hl : lv_has ls 4 [(3, .int (nI i)), (2, .int (hg_sum (f_draw1 S p) (i + 1))), (0, .ref (o 2)), (1, .int (nI p))] := hl
      refine lv_iinc (v := nI (i + 1)) (lv' := [(3, .int (nI (i + 1))), (2, .int (hg_sum (f_draw1 S p) (i + 1))), (0, .ref (o 2)), (1, .int (nI p))]) hx hb dX3_draw_53 hl (k := 0) rfl (nI_1 _) (by decide) rfl (fun ls hl => ?_)
      refine lv_goto (tgt := 4) hx hb dX3_draw_56 (by decide) ?_
      exact ih ls (lv_sub hl [0, 1, 2, 3] rfl)
    · skip
      refine lv_iload_n hx hb dX3_draw_21 rfl (lv_at hl 3 rfl) ?_
      refine lv_aload_n hx hb dX3_draw_22 rfl (lv_at hl 2 rfl) ?_
      refine va_get (C := RX3) (T := TX3) (N := 5) (v := .ref (o 11)) hx hb hts hi3 hown hK hP 2 rfl rfl 1 (by decide) (hts (.fieldLink RX3 9 "HotGround$Plant" "least" "[I") (by decide +kernel)) (fun _ h9 => h9) rfl dX3_draw_23 ?_
      refine lv_iload_n hx hb dX3_draw_26 rfl (lv_at hl 0 rfl) ?_
      refine h_iald (f := hg_i S 5) hx hb hK hP 11 0 rfl rfl i (rfl) (by omega) (by decide) dX3_draw_27 ?_
      refine lv_icmp_lt (tgt := 53) hx hb dX3_draw_28 (by decide) (fun c_28 => ?_) (fun c_28 => ?_)
      · skip
        rw [show hg_sum (f_draw1 S p) i = hg_sum (f_draw1 S p) (i + 1) from hg_sum_keep (g := f_draw1 S p) (n := i) (by unfold f_draw1; rw [if_neg c_18, if_pos c_28])] at hl
        have hl : lv_has ls 4 [(3, .int (nI i)), (2, .int (hg_sum (f_draw1 S p) (i + 1))), (0, .ref (o 2)), (1, .int (nI p))] := hl
        refine lv_iinc (v := nI (i + 1)) (lv' := [(3, .int (nI (i + 1))), (2, .int (hg_sum (f_draw1 S p) (i + 1))), (0, .ref (o 2)), (1, .int (nI p))]) hx hb dX3_draw_53 hl (k := 0) rfl (nI_1 _) (by decide) rfl (fun ls hl => ?_)
        refine lv_goto (tgt := 4) hx hb dX3_draw_56 (by decide) ?_
        exact ih ls (lv_sub hl [0, 1, 2, 3] rfl)
      · skip
        refine lv_iload_n hx hb dX3_draw_31 rfl (lv_at hl 1 rfl) ?_
        refine lv_aload_n hx hb dX3_draw_32 rfl (lv_at hl 2 rfl) ?_
        refine va_get (C := RX3) (T := TX3) (N := 5) (v := .ref (o 12)) hx hb hts hi3 hown hK hP 2 rfl rfl 2 (by decide) (hts (.fieldLink RX3 13 "HotGround$Plant" "rate" "[I") (by decide +kernel)) (fun _ h9 => h9) rfl dX3_draw_33 ?_
        refine lv_iload_n hx hb dX3_draw_36 rfl (lv_at hl 0 rfl) ?_
        refine h_iald (f := hg_i S 6) hx hb hK hP 12 0 rfl rfl i (rfl) (by omega) (by decide) dX3_draw_37 ?_
        refine lv_iload_n hx hb dX3_draw_38 rfl (lv_at hl 3 rfl) ?_
        refine lv_iconst (v := nI 1) hx hb dX3_draw_39 (by decide) ?_
        refine lv_iadd hx hb dX3_draw_40 ?_
        refine h_topi (y := nI (p + 1)) (nI_add _ _) ?_
        refine lv_imul hx hb dX3_draw_41 ?_
        refine lv_aload_n hx hb dX3_draw_42 rfl (lv_at hl 2 rfl) ?_
        refine va_get (C := RX3) (T := TX3) (N := 5) (v := .ref (o 13)) hx hb hts hi3 hown hK hP 2 rfl rfl 3 (by decide) (hts (.fieldLink RX3 16 "HotGround$Plant" "most" "[I") (by decide +kernel)) (fun _ h9 => h9) rfl dX3_draw_43 ?_
        refine lv_iload_n hx hb dX3_draw_46 rfl (lv_at hl 0 rfl) ?_
        refine h_iald (f := hg_i S 7) hx hb hK hP 13 0 rfl rfl i (rfl) (by omega) (by decide) dX3_draw_47 ?_
        refine va_mmin hx hb (by rw [hml]; exact hl.1.symm) hown (hts (.methodLink RX3 27 Lib.Math.min.name) (by decide +kernel)) (hts (.static Lib.Math.min.name) (by decide +kernel)) (hts (.initialized "java/lang/Math") (by decide +kernel)) (hts (.code Lib.Math.min.name Lib.Math.min.code 2 (some .int)) (by decide +kernel)) (Nat.le_of_ble_eq_true rfl) (Nat.le_of_ble_eq_true rfl) (Nat.zero_le _) (Nat.zero_le _) dX3_draw_48 ?_
        refine lv_iadd hx hb dX3_draw_51 ?_
        refine h_topi (y := hg_sum (f_draw1 S p) (i + 1)) (by show _ + _ = _ + f_draw1 S p i; unfold f_draw1 f_dr; rw [if_neg c_18, if_neg c_28]) ?_
        refine lv_istore_n (lv' := [(2, .int (hg_sum (f_draw1 S p) (i + 1))), (3, .int (nI i)), (0, .ref (o 2)), (1, .int (nI p))]) hx hb dX3_draw_52 rfl hl (by decide) rfl (fun ls hl => ?_)
        refine lv_iinc (v := nI (i + 1)) (lv' := [(3, .int (nI (i + 1))), (2, .int (hg_sum (f_draw1 S p) (i + 1))), (0, .ref (o 2)), (1, .int (nI p))]) hx hb dX3_draw_53 hl (k := 1) rfl (nI_1 _) (by decide) rfl (fun ls hl => ?_)
        refine lv_goto (tgt := 4) hx hb dX3_draw_56 (by decide) ?_
        exact ih ls (lv_sub hl [0, 1, 2, 3] rfl)
  · intro ls hl
    have hl : lv_has ls 4 [(3, .int (nI (hg_n S 1))), (2, .int (hg_sum (f_draw1 S p) (hg_n S 1))), (0, .ref (o 2)), (1, .int (nI p))] := hl
    refine lv_iload_n hx hb dX3_draw_4 rfl (lv_at hl 0 rfl) ?_
    refine lv_aload_n hx hb dX3_draw_5 rfl (lv_at hl 2 rfl) ?_
    refine va_get (C := RX3) (T := TX3) (N := 5) (v := .int (nI (hg_n S 1))) hx hb hts hi3 hown hK hP 2 rfl rfl 0 (by decide) (hts (.fieldLink RX3 23 "HotGround$Plant" "count" "I") (by decide +kernel)) (fun _ h9 => h9) rfl dX3_draw_6 ?_
    refine lv_icmp_ge (tgt := 59) hx hb dX3_draw_9 (by decide) (fun c_9 => ?_) (fun c_9 => absurd (nI_le (Nat.le_refl _) (by omega)) c_9)
    refine lv_iload_n hx hb dX3_draw_59 rfl (lv_at hl 1 rfl) ?_
    exact W.iret (v := hg_sum (f_draw1 S p) (hg_n S 1)) hx hb hr (fun t ht hW => ⟨_, rfl, rfl, ht⟩) (fun _ h9 => nomatch h9) dX3_draw_60
set_option maxHeartbeats 4000000 in
set_option maxRecDepth 100000 in
/-- a turbine more -/
theorem m_X3_add (l : Launch) (D : va_G) (o : Nat → Nat) (cI cJ cZ : ClassId) (S : hg_S) (sz : Nat) (hc : hg_n S 1 < 4) (a b d : Int32) : Met l yX3_add wsX3_add ({ frames := 0, cells := 0, slots := 0, locals := 0 }) (va_Pc [.ref (o 2), .int a, .int b, .int d] (hg_Wr D (xW o cI cJ cZ S) (hg_ty cI cJ cZ) sz)) (va_Qi (fun (r : Int32) (_ : Unit) => r = nI (hg_n S 1)) (fun _ t => hg_At D (xW o cI cJ cZ (hg_sn (hg_si (hg_si (hg_si (hg_si S 5 (upd (hg_i S 5) (hg_n S 1) a)) 6 (upd (hg_i S 6) (hg_n S 1) b)) 7 (upd (hg_i S 7) (hg_n S 1) d)) 8 (upd (hg_i S 8) (hg_n S 1) (nI 1))) 1 (hg_n S 1 + 1))) (va_A (xW o cI cJ cZ S) sz) t) (va_A (xW o cI cJ cZ S) sz)) 0 0 (va_A (xW o cI cJ cZ S) sz) := by
  refine h_start (cc := cX3_add) (maxL := 5) (ret := (some .int)) (by decide) rfl (Nat.le_of_ble_eq_true rfl) ?_
  intro pg ev s mi args below meth cd ls hx hb hr hts hown hlocks hml hnm hpic hl
  obtain ⟨hsz, hP, hK, hD0⟩ := hpic
  subst hsz
  have hD := hD0.self (sz := s.heap.size)
  generalize hAe : va_A (xW o cI cJ cZ S) s.heap.size = A at hD ⊢
  have hA : ∀ q : Nat, s.heap.size ≤ q → A q := fun q h => by rw [← hAe]; exact Or.inr h
  have hS : va_S A s.heap s.heap [] := va_S.rf
  have hi3 : ∀ w ∈ u_ws RX3 TX3 5, w ∈ wsX3_add := by decide +kernel
  have hl : lv_has ls 5 [(0, .ref (o 2)), (1, .int a), (2, .int b), (3, .int d)] := hl
  refine lv_aload_n hx hb dX3_add_0 rfl (lv_at hl 0 rfl) ?_
  refine va_get (C := RX3) (T := TX3) (N := 5) (v := .int (nI (hg_n S 1))) hx hb hts hi3 hown hK hP 2 rfl rfl 0 (by decide) (hts (.fieldLink RX3 23 "HotGround$Plant" "count" "I") (by decide +kernel)) (fun _ h9 => h9) rfl dX3_add_1 ?_
  refine lv_istore (lv' := [(4, .int (nI (hg_n S 1))), (0, .ref (o 2)), (1, .int a), (2, .int b), (3, .int d)]) hx hb dX3_add_4 hl (by decide) rfl (fun ls hl => ?_)
  refine lv_aload_n hx hb dX3_add_6 rfl (lv_at hl 1 rfl) ?_
  refine va_get (C := RX3) (T := TX3) (N := 5) (v := .ref (o 11)) hx hb hts hi3 hown hK hP 2 rfl rfl 1 (by decide) (hts (.fieldLink RX3 9 "HotGround$Plant" "least" "[I") (by decide +kernel)) (fun _ h9 => h9) rfl dX3_add_7 ?_
  refine lv_iload hx hb dX3_add_10 (lv_at hl 0 rfl) ?_
  refine lv_iload_n hx hb dX3_add_12 rfl (lv_at hl 2 rfl) ?_
  refine h_iast (f := hg_i S 5) (ws' := xW o cI cJ cZ (hg_si S 5 (upd (hg_i S 5) (hg_n S 1) a))) hx hb hK hP hD hS 11 0 rfl rfl (hg_n S 1) (rfl) (by omega) (by decide) rfl dX3_add_13 (fun H locs hP hD hS => ?_)
  refine lv_aload_n hx hb dX3_add_14 rfl (lv_at hl 1 rfl) ?_
  refine va_get (C := RX3) (T := TX3) (N := 5) (v := .ref (o 12)) hx hb hts hi3 hown hK hP 2 rfl rfl 2 (by decide) (hts (.fieldLink RX3 13 "HotGround$Plant" "rate" "[I") (by decide +kernel)) (fun _ h9 => h9) rfl dX3_add_15 ?_
  refine lv_iload hx hb dX3_add_18 (lv_at hl 0 rfl) ?_
  refine lv_iload_n hx hb dX3_add_20 rfl (lv_at hl 3 rfl) ?_
  refine h_iast (f := hg_i S 6) (ws' := xW o cI cJ cZ (hg_si (hg_si S 5 (upd (hg_i S 5) (hg_n S 1) a)) 6 (upd (hg_i S 6) (hg_n S 1) b))) hx hb hK hP hD hS 12 0 rfl rfl (hg_n S 1) (rfl) (by omega) (by decide) rfl dX3_add_21 (fun H locs hP hD hS => ?_)
  refine lv_aload_n hx hb dX3_add_22 rfl (lv_at hl 1 rfl) ?_
  refine va_get (C := RX3) (T := TX3) (N := 5) (v := .ref (o 13)) hx hb hts hi3 hown hK hP 2 rfl rfl 3 (by decide) (hts (.fieldLink RX3 16 "HotGround$Plant" "most" "[I") (by decide +kernel)) (fun _ h9 => h9) rfl dX3_add_23 ?_
  refine lv_iload hx hb dX3_add_26 (lv_at hl 0 rfl) ?_
  refine lv_iload_n hx hb dX3_add_28 rfl (lv_at hl 4 rfl) ?_
  refine h_iast (f := hg_i S 7) (ws' := xW o cI cJ cZ (hg_si (hg_si (hg_si S 5 (upd (hg_i S 5) (hg_n S 1) a)) 6 (upd (hg_i S 6) (hg_n S 1) b)) 7 (upd (hg_i S 7) (hg_n S 1) d))) hx hb hK hP hD hS 13 0 rfl rfl (hg_n S 1) (rfl) (by omega) (by decide) rfl dX3_add_29 (fun H locs hP hD hS => ?_)
  refine lv_aload_n hx hb dX3_add_30 rfl (lv_at hl 1 rfl) ?_
  refine va_get (C := RX3) (T := TX3) (N := 5) (v := .ref (o 14)) hx hb hts hi3 hown hK hP 2 rfl rfl 4 (by decide) (hts (.fieldLink RX3 19 "HotGround$Plant" "on" "[Z") (by decide +kernel)) (fun _ h9 => h9) rfl dX3_add_31 ?_
  refine lv_iload hx hb dX3_add_34 (lv_at hl 0 rfl) ?_
  refine lv_iconst (v := nI 1) hx hb dX3_add_36 (by decide) ?_
  refine h_zast (f := hg_i S 8) (ws' := xW o cI cJ cZ (hg_si (hg_si (hg_si (hg_si S 5 (upd (hg_i S 5) (hg_n S 1) a)) 6 (upd (hg_i S 6) (hg_n S 1) b)) 7 (upd (hg_i S 7) (hg_n S 1) d)) 8 (upd (hg_i S 8) (hg_n S 1) (nI 1)))) hx hb hK hP hD hS 14 2 rfl rfl (hg_n S 1) (rfl) (by omega) (by decide) (by decide) rfl dX3_add_37 (fun H locs hP hD hS => ?_)
  refine lv_aload_n hx hb dX3_add_38 rfl (lv_at hl 1 rfl) ?_
  refine lv_dup hx hb dX3_add_39 rfl ?_
  refine va_get (C := RX3) (T := TX3) (N := 5) (v := .int (nI (hg_n S 1))) hx hb hts hi3 hown hK hP 2 rfl rfl 0 (by decide) (hts (.fieldLink RX3 23 "HotGround$Plant" "count" "I") (by decide +kernel)) (fun _ h9 => h9) rfl dX3_add_40 ?_
  refine lv_iconst (v := nI 1) hx hb dX3_add_43 (by decide) ?_
  refine lv_iadd hx hb dX3_add_44 ?_
  refine h_topi (y := nI ((hg_n S 1) + 1)) (nI_add _ _) ?_
  refine h_put (C := RX3) (T := TX3) (N := 5) (v := .int (nI ((hg_n S 1) + 1))) (ty := .int) (ws' := xW o cI cJ cZ (hg_sn (hg_si (hg_si (hg_si (hg_si S 5 (upd (hg_i S 5) (hg_n S 1) a)) 6 (upd (hg_i S 6) (hg_n S 1) b)) 7 (upd (hg_i S 7) (hg_n S 1) d)) 8 (upd (hg_i S 8) (hg_n S 1) (nI 1))) 1 ((hg_n S 1) + 1))) hx hb hts hi3 tyX3 tyX3_ok nmX3 hown hK hP hD hS 2 rfl rfl 0 (by decide) (hts (.fieldLink RX3 23 "HotGround$Plant" "count" "I") (by decide +kernel)) (fun _ h9 => h9) rfl (by decide +kernel) rfl rfl (Nat.le_of_ble_eq_true rfl) rfl dX3_add_45 (fun H locs hP hD hS => ?_)
  refine lv_iload hx hb dX3_add_48 (lv_at hl 0 rfl) ?_
  exact W.iret (v := nI (hg_n S 1)) hx hb hr (fun t ht hW => ⟨⟨_, (), rfl, rfl, ⟨by rw [ht]; exact hP, hD⟩⟩, hS.F ht⟩) hS.2.2 dX3_add_50
set_option maxHeartbeats 4000000 in
set_option maxRecDepth 100000 in
/-- the shares together -/
theorem m_X1_together (l : Launch) (D : va_G) (o : Nat → Nat) (cI cJ cZ : ClassId) (S : hg_S)  : Met l yX1_together wsX1_together ({ frames := 0, cells := 0, slots := 0, locals := 0 }) (va_Pc [.ref (o 4)] (hg_R D (xW o cI cJ cZ S) (hg_ty cI cJ cZ))) (vp_Si (fun r => r = hg_sum (hg_i S 11) 6)) 0 0 (fun _ => False) := by
  refine h_start (cc := cX1_together) (maxL := 3) (ret := (some .int)) (by decide) rfl (Nat.le_of_ble_eq_true rfl) ?_
  intro pg ev s mi args below meth cd ls hx hb hr hts hown hlocks hml hnm hpic hl
  obtain ⟨hP, hK⟩ := hpic
  have hi1 : ∀ w ∈ u_ws RX1 TX1 3, w ∈ wsX1_together := by decide +kernel
  have hl : lv_has ls 3 [(0, .ref (o 4))] := hl
  refine lv_iconst (v := nI 0) hx hb dX1_together_0 (by decide) ?_
  refine h_topi (y := hg_sum (hg_i S 11) 0) (hg_sum_0) ?_
  refine lv_istore_n (lv' := [(1, .int (hg_sum (hg_i S 11) 0)), (0, .ref (o 4))]) hx hb dX1_together_1 rfl hl (by decide) rfl (fun ls hl => ?_)
  refine lv_iconst (v := nI 0) hx hb dX1_together_2 (by decide) ?_
  refine lv_istore_n (lv' := [(2, .int (nI 0)), (1, .int (hg_sum (hg_i S 11) 0)), (0, .ref (o 4))]) hx hb dX1_together_3 rfl hl (by decide) rfl (fun ls hl => ?_)
  refine h_for (nL := 3) (6) (fun i => [(2, .int (nI i)), (1, .int (hg_sum (hg_i S 11) i)), (0, .ref (o 4))]) ?_ ?_ (lv_sub hl [0, 1, 2] rfl)
  · intro i ls hi hl ih
    have hl : lv_has ls 3 [(2, .int (nI i)), (1, .int (hg_sum (hg_i S 11) i)), (0, .ref (o 4))] := hl
    refine lv_iload_n hx hb dX1_together_4 rfl (lv_at hl 0 rfl) ?_
    refine lv_bipush (v := nI 6) hx hb dX1_together_5 (by decide) ?_
    refine lv_icmp_ge (tgt := 25) hx hb dX1_together_7 (by decide) (fun c_7 => absurd c_7 (nI_ge hi (by omega))) (fun c_7 => ?_)
    refine lv_iload_n hx hb dX1_together_10 rfl (lv_at hl 1 rfl) ?_
    refine lv_aload_n hx hb dX1_together_11 rfl (lv_at hl 2 rfl) ?_
    refine va_get (C := RX1) (T := TX1) (N := 3) (v := .ref (o 20)) hx hb hts hi1 hown hK hP 4 rfl rfl 1 (by decide) (hts (.fieldLink RX1 9 "HotGround$Kernel" "shares" "[I") (by decide +kernel)) (fun _ h9 => h9) rfl dX1_together_12 ?_
    refine lv_iload_n hx hb dX1_together_15 rfl (lv_at hl 0 rfl) ?_
    refine h_iald (f := hg_i S 11) hx hb hK hP 20 0 rfl rfl i (rfl) (by omega) (by decide) dX1_together_16 ?_
    refine lv_iadd hx hb dX1_together_17 ?_
    refine h_topi (y := hg_sum (hg_i S 11) (i + 1)) (rfl) ?_
    refine lv_istore_n (lv' := [(1, .int (hg_sum (hg_i S 11) (i + 1))), (2, .int (nI i)), (0, .ref (o 4))]) hx hb dX1_together_18 rfl hl (by decide) rfl (fun ls hl => ?_)
    refine lv_iinc (v := nI (i + 1)) (lv' := [(2, .int (nI (i + 1))), (1, .int (hg_sum (hg_i S 11) (i + 1))), (0, .ref (o 4))]) hx hb dX1_together_19 hl (k := 1) rfl (nI_1 _) (by decide) rfl (fun ls hl => ?_)
    refine lv_goto (tgt := 4) hx hb dX1_together_22 (by decide) ?_
    exact ih ls (lv_sub hl [0, 1, 2] rfl)
  · intro ls hl
    have hl : lv_has ls 3 [(2, .int (nI 6)), (1, .int (hg_sum (hg_i S 11) 6)), (0, .ref (o 4))] := hl
    refine lv_iload_n hx hb dX1_together_4 rfl (lv_at hl 0 rfl) ?_
    refine lv_bipush (v := nI 6) hx hb dX1_together_5 (by decide) ?_
    refine lv_icmp_ge (tgt := 25) hx hb dX1_together_7 (by decide) (fun c_7 => ?_) (fun c_7 => absurd (nI_le (Nat.le_refl _) (by omega)) c_7)
    refine lv_iload_n hx hb dX1_together_25 rfl (lv_at hl 1 rfl) ?_
    exact W.iret (v := hg_sum (hg_i S 11) 6) hx hb hr (fun t ht hW => ⟨_, rfl, rfl, ht⟩) (fun _ h9 => nomatch h9) dX1_together_26
set_option maxHeartbeats 4000000 in
set_option maxRecDepth 100000 in
/-- what comes back -/
theorem m_X1_comes (l : Launch) (D : va_G) (o : Nat → Nat) (cI cJ cZ : ClassId) (S : hg_S) (h4 : hg_n S 4 ≤ 12) (y : Nat) (hy : y ≤ 16) : Met l yX1_comes wsX1_comes ({ frames := 0, cells := 0, slots := 0, locals := 0 }) (va_Pc [.ref (o 4), .int (nI y)] (hg_R D (xW o cI cJ cZ S) (hg_ty cI cJ cZ))) (vp_Si (fun r => r = f_comes S y)) 0 0 (fun _ => False) := by
  refine h_start (cc := cX1_comes) (maxL := 5) (ret := (some .int)) (by decide) rfl (Nat.le_of_ble_eq_true rfl) ?_
  intro pg ev s mi args below meth cd ls hx hb hr hts hown hlocks hml hnm hpic hl
  obtain ⟨hP, hK⟩ := hpic
  have hi1 : ∀ w ∈ u_ws RX1 TX1 3, w ∈ wsX1_comes := by decide +kernel
  have hl : lv_has ls 5 [(0, .ref (o 4)), (1, .int (nI y))] := hl
  refine lv_iconst (v := nI 0) hx hb dX1_comes_0 (by decide) ?_
  refine h_topi (y := hg_sum (f_com1 S y) 0) (hg_sum_0) ?_
  refine lv_istore_n (lv' := [(2, .int (hg_sum (f_com1 S y) 0)), (0, .ref (o 4)), (1, .int (nI y))]) hx hb dX1_comes_1 rfl hl (by decide) rfl (fun ls hl => ?_)
  refine lv_iconst (v := nI 0) hx hb dX1_comes_2 (by decide) ?_
  refine lv_istore_n (lv' := [(3, .int (nI 0)), (2, .int (hg_sum (f_com1 S y) 0)), (0, .ref (o 4)), (1, .int (nI y))]) hx hb dX1_comes_3 rfl hl (by decide) rfl (fun ls hl => ?_)
  refine h_for (nL := 5) (6) (fun i => [(3, .int (nI i)), (2, .int (hg_sum (f_com1 S y) i)), (0, .ref (o 4)), (1, .int (nI y))]) ?_ ?_ (lv_sub hl [0, 1, 2, 3] rfl)
  · intro i ls hi hl ih
    have hl : lv_has ls 5 [(3, .int (nI i)), (2, .int (hg_sum (f_com1 S y) i)), (0, .ref (o 4)), (1, .int (nI y))] := hl
    refine lv_iload_n hx hb dX1_comes_4 rfl (lv_at hl 0 rfl) ?_
    refine lv_bipush (v := nI 6) hx hb dX1_comes_5 (by decide) ?_
    refine lv_icmp_ge (tgt := 56) hx hb dX1_comes_7 (by decide) (fun c_7 => absurd c_7 (nI_ge hi (by omega))) (fun c_7 => ?_)
    refine lv_iload_n hx hb dX1_comes_10 rfl (lv_at hl 3 rfl) ?_
    refine lv_iload_n hx hb dX1_comes_11 rfl (lv_at hl 0 rfl) ?_
    refine lv_isub hx hb dX1_comes_12 ?_
    refine lv_istore (lv' := [(4, .int ((nI y) - (nI i))), (3, .int (nI i)), (2, .int (hg_sum (f_com1 S y) i)), (0, .ref (o 4)), (1, .int (nI y))]) hx hb dX1_comes_13 hl (by decide) rfl (fun ls hl => ?_)
    refine lv_iload hx hb dX1_comes_15 (lv_at hl 0 rfl) ?_
    refine lv_if_lt (tgt := 50) hx hb dX1_comes_17 (by decide) (fun c_17 => ?_) (fun c_17 => ?_)
    · skip
      rw [show hg_sum (f_com1 S y) i = hg_sum (f_com1 S y) (i + 1) from hg_sum_keep (g := f_com1 S y) (n := i) (by unfold f_com1; rw [if_pos ((hg_subneg (by omega) (by omega)).mp c_17)])] at hl
      have hl : lv_has ls 5 [(4, .int ((nI y) - (nI i))), (3, .int (nI i)), (2, .int (hg_sum (f_com1 S y) (i + 1))), (0, .ref (o 4)), (1, .int (nI y))] := hl
      refine lv_iinc (v := nI (i + 1)) (lv' := [(3, .int (nI (i + 1))), (4, .int ((nI y) - (nI i))), (2, .int (hg_sum (f_com1 S y) (i + 1))), (0, .ref (o 4)), (1, .int (nI y))]) hx hb dX1_comes_50 hl (k := 1) rfl (nI_1 _) (by decide) rfl (fun ls hl => ?_)
      refine lv_goto (tgt := 4) hx hb dX1_comes_53 (by decide) ?_
      exact ih ls (lv_sub hl [0, 2, 3, 4] rfl)
    · skip
      have hik : i ≤ y := Nat.not_lt.mp (fun h => c_17 ((hg_subneg (by omega) (by omega)).mpr h))
      rw [show (nI y) - (nI i) = nI (y - i) from pk_sub hik] at hl
      have hl : lv_has ls 5 [(4, .int (nI (y - i))), (3, .int (nI i)), (2, .int (hg_sum (f_com1 S y) i)), (0, .ref (o 4)), (1, .int (nI y))] := hl
      refine lv_iload hx hb dX1_comes_20 (lv_at hl 0 rfl) ?_
      refine lv_aload_n hx hb dX1_comes_22 rfl (lv_at hl 3 rfl) ?_
      refine va_get (C := RX1) (T := TX1) (N := 3) (v := .int (nI (hg_n S 4))) hx hb hts hi1 hown hK hP 4 rfl rfl 0 (by decide) (hts (.fieldLink RX1 16 "HotGround$Kernel" "count" "I") (by decide +kernel)) (fun _ h9 => h9) rfl dX1_comes_23 ?_
      refine lv_icmp_ge (tgt := 50) hx hb dX1_comes_26 (by decide) (fun c_26 => ?_) (fun c_26 => ?_)
      · skip
        have c26 := (nI_leI (by omega) (by omega)).mp c_26
        rw [show hg_sum (f_com1 S y) i = hg_sum (f_com1 S y) (i + 1) from hg_sum_keep (g := f_com1 S y) (n := i) (by unfold f_com1; rw [if_neg (by omega), if_neg (by omega)])] at hl
        have hl : lv_has ls 5 [(4, .int (nI (y - i))), (3, .int (nI i)), (2, .int (hg_sum (f_com1 S y) (i + 1))), (0, .ref (o 4)), (1, .int (nI y))] := hl
        refine lv_iinc (v := nI (i + 1)) (lv' := [(3, .int (nI (i + 1))), (4, .int (nI (y - i))), (2, .int (hg_sum (f_com1 S y) (i + 1))), (0, .ref (o 4)), (1, .int (nI y))]) hx hb dX1_comes_50 hl (k := 1) rfl (nI_1 _) (by decide) rfl (fun ls hl => ?_)
        refine lv_goto (tgt := 4) hx hb dX1_comes_53 (by decide) ?_
        exact ih ls (lv_sub hl [0, 2, 3, 4] rfl)
      · skip
        have c26 : y - i < hg_n S 4 := Nat.not_le.mp (fun h => c_26 ((nI_leI (by omega) (by omega)).mpr h))
        refine lv_iload_n hx hb dX1_comes_29 rfl (lv_at hl 2 rfl) ?_
        refine lv_aload_n hx hb dX1_comes_30 rfl (lv_at hl 3 rfl) ?_
        refine va_get (C := RX1) (T := TX1) (N := 3) (v := .ref (o 21)) hx hb hts hi1 hown hK hP 4 rfl rfl 2 (by decide) (hts (.fieldLink RX1 13 "HotGround$Kernel" "amounts" "[I") (by decide +kernel)) (fun _ h9 => h9) rfl dX1_comes_31 ?_
        refine lv_iload hx hb dX1_comes_34 (lv_at hl 0 rfl) ?_
        refine h_iald (f := hg_i S 12) hx hb hK hP 21 0 rfl rfl (y - i) (rfl) (by omega) (by decide) dX1_comes_36 ?_
        refine lv_aload_n hx hb dX1_comes_37 rfl (lv_at hl 3 rfl) ?_
        refine va_get (C := RX1) (T := TX1) (N := 3) (v := .ref (o 20)) hx hb hts hi1 hown hK hP 4 rfl rfl 1 (by decide) (hts (.fieldLink RX1 9 "HotGround$Kernel" "shares" "[I") (by decide +kernel)) (fun _ h9 => h9) rfl dX1_comes_38 ?_
        refine lv_iload_n hx hb dX1_comes_41 rfl (lv_at hl 1 rfl) ?_
        refine h_iald (f := hg_i S 11) hx hb hK hP 20 0 rfl rfl i (rfl) (by omega) (by decide) dX1_comes_42 ?_
        refine lv_imul hx hb dX1_comes_43 ?_
        refine lv_sipush (v := nI 1000) hx hb dX1_comes_44 (by decide) ?_
        refine lv_idiv hx hb dX1_comes_47 (by decide) ?_
        refine lv_iadd hx hb dX1_comes_48 ?_
        refine h_topi (y := hg_sum (f_com1 S y) (i + 1)) (by show _ + _ = _ + f_com1 S y i; unfold f_com1; rw [if_neg (by omega), if_pos c26]) ?_
        refine lv_istore_n (lv' := [(2, .int (hg_sum (f_com1 S y) (i + 1))), (4, .int (nI (y - i))), (3, .int (nI i)), (0, .ref (o 4)), (1, .int (nI y))]) hx hb dX1_comes_49 rfl hl (by decide) rfl (fun ls hl => ?_)
        refine lv_iinc (v := nI (i + 1)) (lv' := [(3, .int (nI (i + 1))), (2, .int (hg_sum (f_com1 S y) (i + 1))), (4, .int (nI (y - i))), (0, .ref (o 4)), (1, .int (nI y))]) hx hb dX1_comes_50 hl (k := 2) rfl (nI_1 _) (by decide) rfl (fun ls hl => ?_)
        refine lv_goto (tgt := 4) hx hb dX1_comes_53 (by decide) ?_
        exact ih ls (lv_sub hl [0, 1, 3, 4] rfl)
  · intro ls hl
    have hl : lv_has ls 5 [(3, .int (nI 6)), (2, .int (hg_sum (f_com1 S y) 6)), (0, .ref (o 4)), (1, .int (nI y))] := hl
    refine lv_iload_n hx hb dX1_comes_4 rfl (lv_at hl 0 rfl) ?_
    refine lv_bipush (v := nI 6) hx hb dX1_comes_5 (by decide) ?_
    refine lv_icmp_ge (tgt := 56) hx hb dX1_comes_7 (by decide) (fun c_7 => ?_) (fun c_7 => absurd (nI_le (Nat.le_refl _) (by omega)) c_7)
    refine lv_iload_n hx hb dX1_comes_56 rfl (lv_at hl 1 rfl) ?_
    exact W.iret (v := hg_sum (f_com1 S y) 6) hx hb hr (fun t ht hW => ⟨_, rfl, rfl, ht⟩) (fun _ h9 => nomatch h9) dX1_comes_57
set_option maxHeartbeats 4000000 in
set_option maxRecDepth 100000 in
/-- a candidate more -/
theorem m_X2_add (l : Launch) (D : va_G) (o : Nat → Nat) (cI cJ cZ : ClassId) (S : hg_S) (sz : Nat) (hc : hg_n S 5 < 8) (a b d : Int32) : Met l yX2_add wsX2_add ({ frames := 0, cells := 0, slots := 0, locals := 0 }) (va_Pc [.ref (o 5), .int a, .int b, .int d] (hg_Wr D (xW o cI cJ cZ S) (hg_ty cI cJ cZ) sz)) (va_Qi (fun (r : Int32) (_ : Unit) => r = nI (hg_n S 5)) (fun _ t => hg_At D (xW o cI cJ cZ (hg_sn (hg_si (hg_si (hg_si S 13 (upd (hg_i S 13) (hg_n S 5) a)) 14 (upd (hg_i S 14) (hg_n S 5) b)) 15 (upd (hg_i S 15) (hg_n S 5) d)) 5 (hg_n S 5 + 1))) (va_A (xW o cI cJ cZ S) sz) t) (va_A (xW o cI cJ cZ S) sz)) 0 0 (va_A (xW o cI cJ cZ S) sz) := by
  refine h_start (cc := cX2_add) (maxL := 5) (ret := (some .int)) (by decide) rfl (Nat.le_of_ble_eq_true rfl) ?_
  intro pg ev s mi args below meth cd ls hx hb hr hts hown hlocks hml hnm hpic hl
  obtain ⟨hsz, hP, hK, hD0⟩ := hpic
  subst hsz
  have hD := hD0.self (sz := s.heap.size)
  generalize hAe : va_A (xW o cI cJ cZ S) s.heap.size = A at hD ⊢
  have hA : ∀ q : Nat, s.heap.size ≤ q → A q := fun q h => by rw [← hAe]; exact Or.inr h
  have hS : va_S A s.heap s.heap [] := va_S.rf
  have hi2 : ∀ w ∈ u_ws RX2 TX2 5, w ∈ wsX2_add := by decide +kernel
  have hl : lv_has ls 5 [(0, .ref (o 5)), (1, .int a), (2, .int b), (3, .int d)] := hl
  refine lv_aload_n hx hb dX2_add_0 rfl (lv_at hl 0 rfl) ?_
  refine va_get (C := RX2) (T := TX2) (N := 5) (v := .int (nI (hg_n S 5))) hx hb hts hi2 hown hK hP 5 rfl rfl 0 (by decide) (hts (.fieldLink RX2 24 "HotGround$Offers" "count" "I") (by decide +kernel)) (fun _ h9 => h9) rfl dX2_add_1 ?_
  refine lv_istore (lv' := [(4, .int (nI (hg_n S 5))), (0, .ref (o 5)), (1, .int a), (2, .int b), (3, .int d)]) hx hb dX2_add_4 hl (by decide) rfl (fun ls hl => ?_)
  refine lv_aload_n hx hb dX2_add_6 rfl (lv_at hl 1 rfl) ?_
  refine va_get (C := RX2) (T := TX2) (N := 5) (v := .ref (o 22)) hx hb hts hi2 hown hK hP 5 rfl rfl 1 (by decide) (hts (.fieldLink RX2 11 "HotGround$Offers" "cost" "[I") (by decide +kernel)) (fun _ h9 => h9) rfl dX2_add_7 ?_
  refine lv_iload hx hb dX2_add_10 (lv_at hl 0 rfl) ?_
  refine lv_iload_n hx hb dX2_add_12 rfl (lv_at hl 2 rfl) ?_
  refine h_iast (f := hg_i S 13) (ws' := xW o cI cJ cZ (hg_si S 13 (upd (hg_i S 13) (hg_n S 5) a))) hx hb hK hP hD hS 22 0 rfl rfl (hg_n S 5) (rfl) (by omega) (by decide) rfl dX2_add_13 (fun H locs hP hD hS => ?_)
  refine lv_aload_n hx hb dX2_add_14 rfl (lv_at hl 1 rfl) ?_
  refine va_get (C := RX2) (T := TX2) (N := 5) (v := .ref (o 23)) hx hb hts hi2 hown hK hP 5 rfl rfl 2 (by decide) (hts (.fieldLink RX2 15 "HotGround$Offers" "from" "[I") (by decide +kernel)) (fun _ h9 => h9) rfl dX2_add_15 ?_
  refine lv_iload hx hb dX2_add_18 (lv_at hl 0 rfl) ?_
  refine lv_iload_n hx hb dX2_add_20 rfl (lv_at hl 3 rfl) ?_
  refine h_iast (f := hg_i S 14) (ws' := xW o cI cJ cZ (hg_si (hg_si S 13 (upd (hg_i S 13) (hg_n S 5) a)) 14 (upd (hg_i S 14) (hg_n S 5) b))) hx hb hK hP hD hS 23 0 rfl rfl (hg_n S 5) (rfl) (by omega) (by decide) rfl dX2_add_21 (fun H locs hP hD hS => ?_)
  refine lv_aload_n hx hb dX2_add_22 rfl (lv_at hl 1 rfl) ?_
  refine va_get (C := RX2) (T := TX2) (N := 5) (v := .ref (o 24)) hx hb hts hi2 hown hK hP 5 rfl rfl 3 (by decide) (hts (.fieldLink RX2 18 "HotGround$Offers" "steam" "[I") (by decide +kernel)) (fun _ h9 => h9) rfl dX2_add_23 ?_
  refine lv_iload hx hb dX2_add_26 (lv_at hl 0 rfl) ?_
  refine lv_iload_n hx hb dX2_add_28 rfl (lv_at hl 4 rfl) ?_
  refine h_iast (f := hg_i S 15) (ws' := xW o cI cJ cZ (hg_si (hg_si (hg_si S 13 (upd (hg_i S 13) (hg_n S 5) a)) 14 (upd (hg_i S 14) (hg_n S 5) b)) 15 (upd (hg_i S 15) (hg_n S 5) d))) hx hb hK hP hD hS 24 0 rfl rfl (hg_n S 5) (rfl) (by omega) (by decide) rfl dX2_add_29 (fun H locs hP hD hS => ?_)
  refine lv_aload_n hx hb dX2_add_30 rfl (lv_at hl 1 rfl) ?_
  refine lv_dup hx hb dX2_add_31 rfl ?_
  refine va_get (C := RX2) (T := TX2) (N := 5) (v := .int (nI (hg_n S 5))) hx hb hts hi2 hown hK hP 5 rfl rfl 0 (by decide) (hts (.fieldLink RX2 24 "HotGround$Offers" "count" "I") (by decide +kernel)) (fun _ h9 => h9) rfl dX2_add_32 ?_
  refine lv_iconst (v := nI 1) hx hb dX2_add_35 (by decide) ?_
  refine lv_iadd hx hb dX2_add_36 ?_
  refine h_topi (y := nI ((hg_n S 5) + 1)) (nI_add _ _) ?_
  refine h_put (C := RX2) (T := TX2) (N := 5) (v := .int (nI ((hg_n S 5) + 1))) (ty := .int) (ws' := xW o cI cJ cZ (hg_sn (hg_si (hg_si (hg_si S 13 (upd (hg_i S 13) (hg_n S 5) a)) 14 (upd (hg_i S 14) (hg_n S 5) b)) 15 (upd (hg_i S 15) (hg_n S 5) d)) 5 ((hg_n S 5) + 1))) hx hb hts hi2 tyX2 tyX2_ok nmX2 hown hK hP hD hS 5 rfl rfl 0 (by decide) (hts (.fieldLink RX2 24 "HotGround$Offers" "count" "I") (by decide +kernel)) (fun _ h9 => h9) rfl (by decide +kernel) rfl rfl (Nat.le_of_ble_eq_true rfl) rfl dX2_add_37 (fun H locs hP hD hS => ?_)
  refine lv_iload hx hb dX2_add_40 (lv_at hl 0 rfl) ?_
  exact W.iret (v := nI (hg_n S 5)) hx hb hr (fun t ht hW => ⟨⟨_, (), rfl, rfl, ⟨by rw [ht]; exact hP, hD⟩⟩, hS.F ht⟩) hS.2.2 dX2_add_42
set_option maxHeartbeats 4000000 in
set_option maxRecDepth 100000 in
/-- how many sets -/
theorem m_X2_sets (l : Launch) (D : va_G) (o : Nat → Nat) (cI cJ cZ : ClassId) (S : hg_S) (h5 : hg_n S 5 ≤ 8)  : Met l yX2_sets wsX2_sets ({ frames := 0, cells := 0, slots := 0, locals := 0 }) (va_Pc [.ref (o 5)] (hg_R D (xW o cI cJ cZ S) (hg_ty cI cJ cZ))) (vp_Si (fun r => r = nI (2 ^ hg_n S 5))) 0 0 (fun _ => False) := by
  refine h_start (cc := cX2_sets) (maxL := 1) (ret := (some .int)) (by decide) rfl (Nat.le_of_ble_eq_true rfl) ?_
  intro pg ev s mi args below meth cd ls hx hb hr hts hown hlocks hml hnm hpic hl
  obtain ⟨hP, hK⟩ := hpic
  have hi2 : ∀ w ∈ u_ws RX2 TX2 5, w ∈ wsX2_sets := by decide +kernel
  have hl : lv_has ls 1 [(0, .ref (o 5))] := hl
  refine lv_iconst (v := nI 1) hx hb dX2_sets_0 (by decide) ?_
  refine lv_aload_n hx hb dX2_sets_1 rfl (lv_at hl 0 rfl) ?_
  refine va_get (C := RX2) (T := TX2) (N := 5) (v := .int (nI (hg_n S 5))) hx hb hts hi2 hown hK hP 5 rfl rfl 0 (by decide) (hts (.fieldLink RX2 24 "HotGround$Offers" "count" "I") (by decide +kernel)) (fun _ h9 => h9) rfl dX2_sets_2 ?_
  refine lv_ishl hx hb dX2_sets_5 ?_
  refine h_topi (y := nI (2 ^ hg_n S 5)) (hg_shl8 _ h5) ?_
  exact W.iret (v := nI (2 ^ hg_n S 5)) hx hb hr (fun t ht hW => ⟨_, rfl, rfl, ht⟩) (fun _ h9 => nomatch h9) dX2_sets_6
set_option maxHeartbeats 4000000 in
set_option maxRecDepth 100000 in
/-- what a set costs -/
theorem m_X2_price (l : Launch) (D : va_G) (o : Nat → Nat) (cI cJ cZ : ClassId) (S : hg_S) (h5 : hg_n S 5 ≤ 8) (a : Int32) : Met l yX2_price wsX2_price ({ frames := 0, cells := 0, slots := 0, locals := 0 }) (va_Pc [.ref (o 5), .int a] (hg_R D (xW o cI cJ cZ S) (hg_ty cI cJ cZ))) (vp_Si (fun r => r = f_cost S a)) 0 0 (fun _ => False) := by
  refine h_start (cc := cX2_price) (maxL := 4) (ret := (some .int)) (by decide) rfl (Nat.le_of_ble_eq_true rfl) ?_
  intro pg ev s mi args below meth cd ls hx hb hr hts hown hlocks hml hnm hpic hl
  obtain ⟨hP, hK⟩ := hpic
  have hi2 : ∀ w ∈ u_ws RX2 TX2 5, w ∈ wsX2_price := by decide +kernel
  have hl : lv_has ls 4 [(0, .ref (o 5)), (1, .int a)] := hl
  refine lv_iconst (v := nI 0) hx hb dX2_price_0 (by decide) ?_
  refine h_topi (y := hg_sum (f_cost1 S a) 0) (hg_sum_0) ?_
  refine lv_istore_n (lv' := [(2, .int (hg_sum (f_cost1 S a) 0)), (0, .ref (o 5)), (1, .int a)]) hx hb dX2_price_1 rfl hl (by decide) rfl (fun ls hl => ?_)
  refine lv_iconst (v := nI 0) hx hb dX2_price_2 (by decide) ?_
  refine lv_istore_n (lv' := [(3, .int (nI 0)), (2, .int (hg_sum (f_cost1 S a) 0)), (0, .ref (o 5)), (1, .int a)]) hx hb dX2_price_3 rfl hl (by decide) rfl (fun ls hl => ?_)
  refine h_for (nL := 4) (hg_n S 5) (fun i => [(3, .int (nI i)), (2, .int (hg_sum (f_cost1 S a) i)), (0, .ref (o 5)), (1, .int a)]) ?_ ?_ (lv_sub hl [0, 1, 2, 3] rfl)
  · intro i ls hi hl ih
    have hl : lv_has ls 4 [(3, .int (nI i)), (2, .int (hg_sum (f_cost1 S a) i)), (0, .ref (o 5)), (1, .int a)] := hl
    refine lv_iload_n hx hb dX2_price_4 rfl (lv_at hl 0 rfl) ?_
    refine lv_aload_n hx hb dX2_price_5 rfl (lv_at hl 2 rfl) ?_
    refine va_get (C := RX2) (T := TX2) (N := 5) (v := .int (nI (hg_n S 5))) hx hb hts hi2 hown hK hP 5 rfl rfl 0 (by decide) (hts (.fieldLink RX2 24 "HotGround$Offers" "count" "I") (by decide +kernel)) (fun _ h9 => h9) rfl dX2_price_6 ?_
    refine lv_icmp_ge (tgt := 36) hx hb dX2_price_9 (by decide) (fun c_9 => absurd c_9 (nI_ge hi (by omega))) (fun c_9 => ?_)
    refine lv_iload_n hx hb dX2_price_12 rfl (lv_at hl 3 rfl) ?_
    refine lv_iload_n hx hb dX2_price_13 rfl (lv_at hl 0 rfl) ?_
    refine lv_ishr hx hb dX2_price_14 ?_
    refine lv_iconst (v := nI 1) hx hb dX2_price_15 (by decide) ?_
    refine lv_iand hx hb dX2_price_16 ?_
    refine lv_iconst (v := nI 1) hx hb dX2_price_17 (by decide) ?_
    refine lv_icmp_ne (tgt := 30) hx hb dX2_price_18 (by decide) (fun c_18 => ?_) (fun c_18 => ?_)
    · skip
      rw [show hg_sum (f_cost1 S a) i = hg_sum (f_cost1 S a) (i + 1) from hg_sum_keep (g := f_cost1 S a) (n := i) (by unfold f_cost1; rw [if_neg c_18])] at hl
      have hl : lv_has ls 4 [(3, .int (nI i)), (2, .int (hg_sum (f_cost1 S a) (i + 1))), (0, .ref (o 5)), (1, .int a)] := hl
      refine lv_iinc (v := nI (i + 1)) (lv' := [(3, .int (nI (i + 1))), (2, .int (hg_sum (f_cost1 S a) (i + 1))), (0, .ref (o 5)), (1, .int a)]) hx hb dX2_price_30 hl (k := 0) rfl (nI_1 _) (by decide) rfl (fun ls hl => ?_)
      refine lv_goto (tgt := 4) hx hb dX2_price_33 (by decide) ?_
      exact ih ls (lv_sub hl [0, 1, 2, 3] rfl)
    · skip
      refine lv_iload_n hx hb dX2_price_21 rfl (lv_at hl 1 rfl) ?_
      refine lv_aload_n hx hb dX2_price_22 rfl (lv_at hl 2 rfl) ?_
      refine va_get (C := RX2) (T := TX2) (N := 5) (v := .ref (o 22)) hx hb hts hi2 hown hK hP 5 rfl rfl 1 (by decide) (hts (.fieldLink RX2 11 "HotGround$Offers" "cost" "[I") (by decide +kernel)) (fun _ h9 => h9) rfl dX2_price_23 ?_
      refine lv_iload_n hx hb dX2_price_26 rfl (lv_at hl 0 rfl) ?_
      refine h_iald (f := hg_i S 13) hx hb hK hP 22 0 rfl rfl i (rfl) (by omega) (by decide) dX2_price_27 ?_
      refine lv_iadd hx hb dX2_price_28 ?_
      refine h_topi (y := hg_sum (f_cost1 S a) (i + 1)) (by show _ + _ = _ + f_cost1 S a i; unfold f_cost1; rw [if_pos c_18]) ?_
      refine lv_istore_n (lv' := [(2, .int (hg_sum (f_cost1 S a) (i + 1))), (3, .int (nI i)), (0, .ref (o 5)), (1, .int a)]) hx hb dX2_price_29 rfl hl (by decide) rfl (fun ls hl => ?_)
      refine lv_iinc (v := nI (i + 1)) (lv' := [(3, .int (nI (i + 1))), (2, .int (hg_sum (f_cost1 S a) (i + 1))), (0, .ref (o 5)), (1, .int a)]) hx hb dX2_price_30 hl (k := 1) rfl (nI_1 _) (by decide) rfl (fun ls hl => ?_)
      refine lv_goto (tgt := 4) hx hb dX2_price_33 (by decide) ?_
      exact ih ls (lv_sub hl [0, 1, 2, 3] rfl)
  · intro ls hl
    have hl : lv_has ls 4 [(3, .int (nI (hg_n S 5))), (2, .int (hg_sum (f_cost1 S a) (hg_n S 5))), (0, .ref (o 5)), (1, .int a)] := hl
    refine lv_iload_n hx hb dX2_price_4 rfl (lv_at hl 0 rfl) ?_
    refine lv_aload_n hx hb dX2_price_5 rfl (lv_at hl 2 rfl) ?_
    refine va_get (C := RX2) (T := TX2) (N := 5) (v := .int (nI (hg_n S 5))) hx hb hts hi2 hown hK hP 5 rfl rfl 0 (by decide) (hts (.fieldLink RX2 24 "HotGround$Offers" "count" "I") (by decide +kernel)) (fun _ h9 => h9) rfl dX2_price_6 ?_
    refine lv_icmp_ge (tgt := 36) hx hb dX2_price_9 (by decide) (fun c_9 => ?_) (fun c_9 => absurd (nI_le (Nat.le_refl _) (by omega)) c_9)
    refine lv_iload_n hx hb dX2_price_36 rfl (lv_at hl 1 rfl) ?_
    exact W.iret (v := hg_sum (f_cost1 S a) (hg_n S 5)) hx hb hr (fun t ht hW => ⟨_, rfl, rfl, ht⟩) (fun _ h9 => nomatch h9) dX2_price_37
set_option maxHeartbeats 4000000 in
set_option maxRecDepth 100000 in
/-- by how much a set falls short -/
theorem m_X2_missing (l : Launch) (D : va_G) (o : Nat → Nat) (cI cJ cZ : ClassId) (S : hg_S) (h5 : hg_n S 5 ≤ 8) (a : Int32) (y : Nat) (hy : y < 6) : Met l yX2_missing wsX2_missing ({ frames := 1, cells := 0, slots := 0, locals := 13 }) (va_Pc [.ref (o 5), .int a, .int (nI y)] (hg_R D (xW o cI cJ cZ S) (hg_ty cI cJ cZ))) (vp_Si (fun r => r = f_lack S a y)) 0 0 (fun _ => False) := by
  refine h_start (cc := cX2_missing) (maxL := 5) (ret := (some .int)) (by decide) rfl (Nat.le_of_ble_eq_true rfl) ?_
  intro pg ev s mi args below meth cd ls hx hb hr hts hown hlocks hml hnm hpic hl
  obtain ⟨hP, hK⟩ := hpic
  have hi2 : ∀ w ∈ u_ws RX2 TX2 5, w ∈ wsX2_missing := by decide +kernel
  have hl : lv_has ls 5 [(0, .ref (o 5)), (1, .int a), (2, .int (nI y))] := hl
  refine lv_iconst (v := nI 0) hx hb dX2_missing_0 (by decide) ?_
  refine h_topi (y := hg_sum (f_gives1 S a y) 0) (hg_sum_0) ?_
  refine lv_istore_n (lv' := [(3, .int (hg_sum (f_gives1 S a y) 0)), (0, .ref (o 5)), (1, .int a), (2, .int (nI y))]) hx hb dX2_missing_1 rfl hl (by decide) rfl (fun ls hl => ?_)
  refine lv_iconst (v := nI 0) hx hb dX2_missing_2 (by decide) ?_
  refine lv_istore (lv' := [(4, .int (nI 0)), (3, .int (hg_sum (f_gives1 S a y) 0)), (0, .ref (o 5)), (1, .int a), (2, .int (nI y))]) hx hb dX2_missing_3 hl (by decide) rfl (fun ls hl => ?_)
  refine h_for (nL := 5) (hg_n S 5) (fun i => [(4, .int (nI i)), (3, .int (hg_sum (f_gives1 S a y) i)), (0, .ref (o 5)), (1, .int a), (2, .int (nI y))]) ?_ ?_ (lv_sub hl [0, 1, 2, 3, 4] rfl)
  · intro i ls hi hl ih
    have hl : lv_has ls 5 [(4, .int (nI i)), (3, .int (hg_sum (f_gives1 S a y) i)), (0, .ref (o 5)), (1, .int a), (2, .int (nI y))] := hl
    refine lv_iload hx hb dX2_missing_5 (lv_at hl 0 rfl) ?_
    refine lv_aload_n hx hb dX2_missing_7 rfl (lv_at hl 2 rfl) ?_
    refine va_get (C := RX2) (T := TX2) (N := 5) (v := .int (nI (hg_n S 5))) hx hb hts hi2 hown hK hP 5 rfl rfl 0 (by decide) (hts (.fieldLink RX2 24 "HotGround$Offers" "count" "I") (by decide +kernel)) (fun _ h9 => h9) rfl dX2_missing_8 ?_
    refine lv_icmp_ge (tgt := 51) hx hb dX2_missing_11 (by decide) (fun c_11 => absurd c_11 (nI_ge hi (by omega))) (fun c_11 => ?_)
    refine lv_iload_n hx hb dX2_missing_14 rfl (lv_at hl 3 rfl) ?_
    refine lv_iload hx hb dX2_missing_15 (lv_at hl 0 rfl) ?_
    refine lv_ishr hx hb dX2_missing_17 ?_
    refine lv_iconst (v := nI 1) hx hb dX2_missing_18 (by decide) ?_
    refine lv_iand hx hb dX2_missing_19 ?_
    refine lv_iconst (v := nI 1) hx hb dX2_missing_20 (by decide) ?_
    refine lv_icmp_ne (tgt := 45) hx hb dX2_missing_21 (by decide) (fun c_21 => ?_) (fun c_21 => ?_)
    · skip
      rw [show hg_sum (f_gives1 S a y) i = hg_sum (f_gives1 S a y) (i + 1) from hg_sum_keep (g := f_gives1 S a y) (n := i) (by unfold f_gives1; rw [if_neg c_21])] at hl
      have hl : lv_has ls 5 [(4, .int (nI i)), (3, .int (hg_sum (f_gives1 S a y) (i + 1))), (0, .ref (o 5)), (1, .int a), (2, .int (nI y))] := hl
      refine lv_iinc (v := nI (i + 1)) (lv' := [(4, .int (nI (i + 1))), (3, .int (hg_sum (f_gives1 S a y) (i + 1))), (0, .ref (o 5)), (1, .int a), (2, .int (nI y))]) hx hb dX2_missing_45 hl (k := 0) rfl (nI_1 _) (by decide) rfl (fun ls hl => ?_)
      refine lv_goto (tgt := 5) hx hb dX2_missing_48 (by decide) ?_
      exact ih ls (lv_sub hl [0, 1, 2, 3, 4] rfl)
    · skip
      refine lv_aload_n hx hb dX2_missing_24 rfl (lv_at hl 2 rfl) ?_
      refine va_get (C := RX2) (T := TX2) (N := 5) (v := .ref (o 23)) hx hb hts hi2 hown hK hP 5 rfl rfl 2 (by decide) (hts (.fieldLink RX2 15 "HotGround$Offers" "from" "[I") (by decide +kernel)) (fun _ h9 => h9) rfl dX2_missing_25 ?_
      refine lv_iload hx hb dX2_missing_28 (lv_at hl 0 rfl) ?_
      refine h_iald (f := hg_i S 14) hx hb hK hP 23 0 rfl rfl i (rfl) (by omega) (by decide) dX2_missing_30 ?_
      refine lv_iload_n hx hb dX2_missing_31 rfl (lv_at hl 4 rfl) ?_
      refine lv_icmp_gt (tgt := 45) hx hb dX2_missing_32 (by decide) (fun c_32 => ?_) (fun c_32 => ?_)
      · skip
        rw [show hg_sum (f_gives1 S a y) i = hg_sum (f_gives1 S a y) (i + 1) from hg_sum_keep (g := f_gives1 S a y) (n := i) (by unfold f_gives1; rw [if_pos c_21, if_pos c_32])] at hl
        have hl : lv_has ls 5 [(4, .int (nI i)), (3, .int (hg_sum (f_gives1 S a y) (i + 1))), (0, .ref (o 5)), (1, .int a), (2, .int (nI y))] := hl
        refine lv_iinc (v := nI (i + 1)) (lv' := [(4, .int (nI (i + 1))), (3, .int (hg_sum (f_gives1 S a y) (i + 1))), (0, .ref (o 5)), (1, .int a), (2, .int (nI y))]) hx hb dX2_missing_45 hl (k := 0) rfl (nI_1 _) (by decide) rfl (fun ls hl => ?_)
        refine lv_goto (tgt := 5) hx hb dX2_missing_48 (by decide) ?_
        exact ih ls (lv_sub hl [0, 1, 2, 3, 4] rfl)
      · skip
        refine lv_iload_n hx hb dX2_missing_35 rfl (lv_at hl 1 rfl) ?_
        refine lv_aload_n hx hb dX2_missing_36 rfl (lv_at hl 2 rfl) ?_
        refine va_get (C := RX2) (T := TX2) (N := 5) (v := .ref (o 24)) hx hb hts hi2 hown hK hP 5 rfl rfl 3 (by decide) (hts (.fieldLink RX2 18 "HotGround$Offers" "steam" "[I") (by decide +kernel)) (fun _ h9 => h9) rfl dX2_missing_37 ?_
        refine lv_iload hx hb dX2_missing_40 (lv_at hl 0 rfl) ?_
        refine h_iald (f := hg_i S 15) hx hb hK hP 24 0 rfl rfl i (rfl) (by omega) (by decide) dX2_missing_42 ?_
        refine lv_iadd hx hb dX2_missing_43 ?_
        refine h_topi (y := hg_sum (f_gives1 S a y) (i + 1)) (by show _ + _ = _ + f_gives1 S a y i; unfold f_gives1; rw [if_pos c_21, if_neg c_32]) ?_
        refine lv_istore_n (lv' := [(3, .int (hg_sum (f_gives1 S a y) (i + 1))), (4, .int (nI i)), (0, .ref (o 5)), (1, .int a), (2, .int (nI y))]) hx hb dX2_missing_44 rfl hl (by decide) rfl (fun ls hl => ?_)
        refine lv_iinc (v := nI (i + 1)) (lv' := [(4, .int (nI (i + 1))), (3, .int (hg_sum (f_gives1 S a y) (i + 1))), (0, .ref (o 5)), (1, .int a), (2, .int (nI y))]) hx hb dX2_missing_45 hl (k := 1) rfl (nI_1 _) (by decide) rfl (fun ls hl => ?_)
        refine lv_goto (tgt := 5) hx hb dX2_missing_48 (by decide) ?_
        exact ih ls (lv_sub hl [0, 1, 2, 3, 4] rfl)
  · intro ls hl
    have hl : lv_has ls 5 [(4, .int (nI (hg_n S 5))), (3, .int (hg_sum (f_gives1 S a y) (hg_n S 5))), (0, .ref (o 5)), (1, .int a), (2, .int (nI y))] := hl
    refine lv_iload hx hb dX2_missing_5 (lv_at hl 0 rfl) ?_
    refine lv_aload_n hx hb dX2_missing_7 rfl (lv_at hl 2 rfl) ?_
    refine va_get (C := RX2) (T := TX2) (N := 5) (v := .int (nI (hg_n S 5))) hx hb hts hi2 hown hK hP 5 rfl rfl 0 (by decide) (hts (.fieldLink RX2 24 "HotGround$Offers" "count" "I") (by decide +kernel)) (fun _ h9 => h9) rfl dX2_missing_8 ?_
    refine lv_icmp_ge (tgt := 51) hx hb dX2_missing_11 (by decide) (fun c_11 => ?_) (fun c_11 => absurd (nI_le (Nat.le_refl _) (by omega)) c_11)
    refine lv_aload_n hx hb dX2_missing_51 rfl (lv_at hl 2 rfl) ?_
    refine va_get (C := RX2) (T := TX2) (N := 5) (v := .ref (o 25)) hx hb hts hi2 hown hK hP 5 rfl rfl 4 (by decide) (hts (.fieldLink RX2 21 "HotGround$Offers" "promised" "[I") (by decide +kernel)) (fun _ h9 => h9) rfl dX2_missing_52 ?_
    refine lv_iload_n hx hb dX2_missing_55 rfl (lv_at hl 4 rfl) ?_
    refine h_iald (f := hg_i S 16) hx hb hK hP 25 0 rfl rfl y (rfl) (by omega) (by decide) dX2_missing_56 ?_
    refine lv_iload_n hx hb dX2_missing_57 rfl (lv_at hl 1 rfl) ?_
    refine lv_isub hx hb dX2_missing_58 ?_
    refine lv_iconst (v := nI 0) hx hb dX2_missing_59 (by decide) ?_
    refine va_mmax hx hb (by rw [hml]; exact hl.1.symm) hown (hts (.methodLink RX2 28 Lib.Math.max.name) (by decide +kernel)) (hts (.static Lib.Math.max.name) (by decide +kernel)) (hts (.initialized "java/lang/Math") (by decide +kernel)) (hts (.code Lib.Math.max.name Lib.Math.max.code 2 (some .int)) (by decide +kernel)) (Nat.le_of_ble_eq_true rfl) (Nat.le_of_ble_eq_true rfl) (Nat.zero_le _) (Nat.zero_le _) dX2_missing_60 ?_
    exact W.iret (v := if (hg_i S 16 y) - (hg_sum (f_gives1 S a y) (hg_n S 5)) < nI 0 then nI 0 else (hg_i S 16 y) - (hg_sum (f_gives1 S a y) (hg_n S 5))) hx hb hr (fun t ht hW => ⟨_, rfl, rfl, ht⟩) (fun _ h9 => nomatch h9) dX2_missing_63
set_option maxHeartbeats 4000000 in
set_option maxRecDepth 100000 in
/-- a set keeps the promises -/
theorem m_X2_keeps (l : Launch) (D : va_G) (o : Nat → Nat) (cI cJ cZ : ClassId) (S : hg_S) (h5 : hg_n S 5 ≤ 8) (a : Int32) : Met l yX2_keeps wsX2_keeps ({ frames := 2, cells := 0, slots := 0, locals := 37 }) (va_Pc [.ref (o 5), .int a] (hg_R D (xW o cI cJ cZ S) (hg_ty cI cJ cZ))) (vp_Si (fun r => r = if f_keeps S a then nI 1 else nI 0)) 0 0 (fun _ => False) := by
  refine h_start (cc := cX2_keeps) (maxL := 3) (ret := (some .boolean)) (by decide) rfl (Nat.le_of_ble_eq_true rfl) ?_
  intro pg ev s mi args below meth cd ls hx hb hr hts hown hlocks hml hnm hpic hl
  obtain ⟨hP, hK⟩ := hpic
  have hl : lv_has ls 3 [(0, .ref (o 5)), (1, .int a)] := hl
  refine lv_iconst (v := nI 0) hx hb dX2_keeps_0 (by decide) ?_
  refine lv_istore_n (lv' := [(2, .int (nI 0)), (0, .ref (o 5)), (1, .int a)]) hx hb dX2_keeps_1 rfl hl (by decide) rfl (fun ls hl => ?_)
  refine h_forI (nL := 3) (6) (fun i => [(2, .int (nI i)), (0, .ref (o 5)), (1, .int a)]) (fun i => ∀ y, y < i → ¬ 0 < f_lack S a y) ?_ ?_ (fun y h => absurd h (Nat.not_lt_zero _)) (lv_sub hl [0, 1, 2] rfl)
  · intro i ls hi hI hl ih
    have hl : lv_has ls 3 [(2, .int (nI i)), (0, .ref (o 5)), (1, .int a)] := hl
    refine lv_iload_n hx hb dX2_keeps_2 rfl (lv_at hl 0 rfl) ?_
    refine lv_bipush (v := nI 6) hx hb dX2_keeps_3 (by decide) ?_
    refine lv_icmp_ge (tgt := 25) hx hb dX2_keeps_5 (by decide) (fun c_5 => absurd c_5 (nI_ge hi (by omega))) (fun c_5 => ?_)
    refine lv_aload_n hx hb dX2_keeps_8 rfl (lv_at hl 1 rfl) ?_
    refine lv_iload_n hx hb dX2_keeps_9 rfl (lv_at hl 2 rfl) ?_
    refine lv_iload_n hx hb dX2_keeps_10 rfl (lv_at hl 0 rfl) ?_
    refine vp_callSi (va_Run.run (va_runV (As := [.int a, .int (nI i)]) (rest := []) ⟨hx, hb, hml, hown, hts⟩ (m_X2_missing l D o cI cJ cZ S h5 a i (by omega)) (cwV 2 hts gX2_keeps_X2_missing rfl rfl rfl (by decide +kernel) ⟨Nat.le_of_ble_eq_true rfl, Nat.le_of_ble_eq_true rfl⟩) (h_preR hK hP 5 rfl rfl rfl) rfl rfl hl.1 rfl (lv_room (Nat.le_of_ble_eq_true rfl)) dX2_keeps_11 ⟨Nat.le_of_ble_eq_true rfl, Nat.le_of_ble_eq_true rfl⟩)) (fun r_1 hr_1 => ?_)
    subst hr_1
    refine lv_if_le (tgt := 19) hx hb dX2_keeps_14 (by decide) (fun c_14 => ?_) (fun c_14 => ?_)
    · skip
      refine lv_iinc (v := nI (i + 1)) (lv' := [(2, .int (nI (i + 1))), (0, .ref (o 5)), (1, .int a)]) hx hb dX2_keeps_19 hl (k := 0) rfl (nI_1 _) (by decide) rfl (fun ls hl => ?_)
      refine lv_goto (tgt := 2) hx hb dX2_keeps_22 (by decide) ?_
      exact ih ls (fun y h => by rcases Nat.lt_succ_iff_lt_or_eq.mp h with q | q; exact hI y q; rw [q]; exact hg_nlt.mpr c_14) (lv_sub hl [0, 1, 2] rfl)
    · skip
      refine lv_iconst (v := nI 0) hx hb dX2_keeps_17 (by decide) ?_
      exact W.zret (v := nI 0) hx hb hr (by decide) (fun t ht hW => ⟨_, rfl, (if_neg (fun q => q i hi (hg_nle.mp c_14))).symm, ht⟩) (fun _ h9 => nomatch h9) dX2_keeps_18
  · intro ls hI hl
    have hl : lv_has ls 3 [(2, .int (nI 6)), (0, .ref (o 5)), (1, .int a)] := hl
    refine lv_iload_n hx hb dX2_keeps_2 rfl (lv_at hl 0 rfl) ?_
    refine lv_bipush (v := nI 6) hx hb dX2_keeps_3 (by decide) ?_
    refine lv_icmp_ge (tgt := 25) hx hb dX2_keeps_5 (by decide) (fun c_5 => ?_) (fun c_5 => absurd (nI_le (Nat.le_refl _) (by omega)) c_5)
    refine lv_iconst (v := nI 1) hx hb dX2_keeps_25 (by decide) ?_
    exact W.zret (v := nI 1) hx hb hr (by decide) (fun t ht hW => ⟨_, rfl, (if_pos hI).symm, ht⟩) (fun _ h9 => nomatch h9) dX2_keeps_26
set_option maxHeartbeats 4000000 in
set_option maxRecDepth 100000 in
/-- the plan -/
theorem m_X2_cheapest (l : Launch) (D : va_G) (o : Nat → Nat) (cI cJ cZ : ClassId) (S : hg_S) (h5 : hg_n S 5 ≤ 8)  : Met l yX2_cheapest wsX2_cheapest ({ frames := 3, cells := 0, slots := 0, locals := 59 }) (va_Pc [.ref (o 5)] (hg_R D (xW o cI cJ cZ S) (hg_ty cI cJ cZ))) (vp_Si (fun r => r = (f_best S (2 ^ hg_n S 5)).1)) 0 0 (fun _ => False) := by
  refine h_start (cc := cX2_cheapest) (maxL := 5) (ret := (some .int)) (by decide) rfl (Nat.le_of_ble_eq_true rfl) ?_
  intro pg ev s mi args below meth cd ls hx hb hr hts hown hlocks hml hnm hpic hl
  obtain ⟨hP, hK⟩ := hpic
  have hl : lv_has ls 5 [(0, .ref (o 5))] := hl
  refine lv_bipush (v := -9) hx hb dX2_cheapest_0 (by decide) ?_
  refine h_topi (y := (f_best S 0).1) (rfl) ?_
  refine lv_istore_n (lv' := [(1, .int ((f_best S 0).1)), (0, .ref (o 5))]) hx hb dX2_cheapest_2 rfl hl (by decide) rfl (fun ls hl => ?_)
  refine lv_iconst (v := nI 0) hx hb dX2_cheapest_3 (by decide) ?_
  refine h_topi (y := (f_best S 0).2) (nI_0) ?_
  refine lv_istore_n (lv' := [(2, .int ((f_best S 0).2)), (1, .int ((f_best S 0).1)), (0, .ref (o 5))]) hx hb dX2_cheapest_4 rfl hl (by decide) rfl (fun ls hl => ?_)
  refine lv_iconst (v := nI 0) hx hb dX2_cheapest_5 (by decide) ?_
  refine lv_istore_n (lv' := [(3, .int (nI 0)), (2, .int ((f_best S 0).2)), (1, .int ((f_best S 0).1)), (0, .ref (o 5))]) hx hb dX2_cheapest_6 rfl hl (by decide) rfl (fun ls hl => ?_)
  refine h_for (nL := 5) (2 ^ hg_n S 5) (fun i => [(3, .int (nI i)), (2, .int ((f_best S i).2)), (1, .int ((f_best S i).1)), (0, .ref (o 5))]) ?_ ?_ (lv_sub hl [0, 1, 2, 3] rfl)
  · intro i ls hi hl ih
    have hl : lv_has ls 5 [(3, .int (nI i)), (2, .int ((f_best S i).2)), (1, .int ((f_best S i).1)), (0, .ref (o 5))] := hl
    refine lv_iload_n hx hb dX2_cheapest_7 rfl (lv_at hl 0 rfl) ?_
    refine lv_aload_n hx hb dX2_cheapest_8 rfl (lv_at hl 3 rfl) ?_
    refine vp_callSi (va_Run.run (va_runV (As := []) (rest := [.int (nI i)]) ⟨hx, hb, hml, hown, hts⟩ (m_X2_sets l D o cI cJ cZ S h5) (cwV 0 hts gX2_cheapest_X2_sets rfl rfl rfl (by decide +kernel) ⟨Nat.le_of_ble_eq_true rfl, Nat.le_of_ble_eq_true rfl⟩) (h_preR hK hP 5 rfl rfl rfl) rfl rfl hl.1 rfl (lv_room (Nat.le_of_ble_eq_true rfl)) dX2_cheapest_9 ⟨Nat.le_of_ble_eq_true rfl, Nat.le_of_ble_eq_true rfl⟩)) (fun r_1 hr_1 => ?_)
    subst hr_1
    refine lv_icmp_ge (tgt := 53) hx hb dX2_cheapest_12 (by decide) (fun c_12 => absurd c_12 (nI_ge hi (hg_pow8 h5))) (fun c_12 => ?_)
    refine lv_aload_n hx hb dX2_cheapest_15 rfl (lv_at hl 3 rfl) ?_
    refine lv_iload_n hx hb dX2_cheapest_16 rfl (lv_at hl 0 rfl) ?_
    refine vp_callSi (va_Run.run (va_runV (As := [.int (nI i)]) (rest := []) ⟨hx, hb, hml, hown, hts⟩ (m_X2_price l D o cI cJ cZ S h5 (nI i)) (cwV 1 hts gX2_cheapest_X2_price rfl rfl rfl (by decide +kernel) ⟨Nat.le_of_ble_eq_true rfl, Nat.le_of_ble_eq_true rfl⟩) (h_preR hK hP 5 rfl rfl rfl) rfl rfl hl.1 rfl (lv_room (Nat.le_of_ble_eq_true rfl)) dX2_cheapest_17 ⟨Nat.le_of_ble_eq_true rfl, Nat.le_of_ble_eq_true rfl⟩)) (fun r_2 hr_2 => ?_)
    subst hr_2
    refine lv_istore (lv' := [(4, .int (f_cost S (nI i))), (3, .int (nI i)), (2, .int ((f_best S i).2)), (1, .int ((f_best S i).1)), (0, .ref (o 5))]) hx hb dX2_cheapest_20 hl (by decide) rfl (fun ls hl => ?_)
    refine lv_iload_n hx hb dX2_cheapest_22 rfl (lv_at hl 3 rfl) ?_
    refine lv_bipush (v := -9) hx hb dX2_cheapest_23 (by decide) ?_
    refine lv_icmp_eq (tgt := 34) hx hb dX2_cheapest_25 (by decide) (fun c_25 => ?_) (fun c_25 => ?_)
    · skip
      refine lv_aload_n hx hb dX2_cheapest_34 rfl (lv_at hl 4 rfl) ?_
      refine lv_iload_n hx hb dX2_cheapest_35 rfl (lv_at hl 1 rfl) ?_
      refine vp_callSi (va_Run.run (va_runV (As := [.int (nI i)]) (rest := []) ⟨hx, hb, hml, hown, hts⟩ (m_X2_keeps l D o cI cJ cZ S h5 (nI i)) (cwV 1 hts gX2_cheapest_X2_keeps rfl rfl rfl (by decide +kernel) ⟨Nat.le_of_ble_eq_true rfl, Nat.le_of_ble_eq_true rfl⟩) (h_preR hK hP 5 rfl rfl rfl) rfl rfl hl.1 rfl (lv_room (Nat.le_of_ble_eq_true rfl)) dX2_cheapest_36 ⟨Nat.le_of_ble_eq_true rfl, Nat.le_of_ble_eq_true rfl⟩)) (fun r_3 hr_3 => ?_)
      subst hr_3
      refine lv_if_eq (tgt := 47) hx hb dX2_cheapest_39 (by decide) (fun c_39 => ?_) (fun c_39 => ?_)
      · skip
        have k_39 : ¬ f_keeps S (nI i) := fun q => by rw [if_pos q] at c_39; exact absurd c_39 (by decide)
        have hb1 : f_best S (i + 1) = f_best S i := if_neg (fun q => k_39 q.2)
        rw [show (f_best S i).1 = (f_best S (i + 1)).1 from by rw [hb1]] at hl
        have hl : lv_has ls 5 [(4, .int (f_cost S (nI i))), (3, .int (nI i)), (2, .int ((f_best S i).2)), (1, .int ((f_best S (i + 1)).1)), (0, .ref (o 5))] := hl
        rw [show (f_best S i).2 = (f_best S (i + 1)).2 from by rw [hb1]] at hl
        have hl : lv_has ls 5 [(4, .int (f_cost S (nI i))), (3, .int (nI i)), (2, .int ((f_best S (i + 1)).2)), (1, .int ((f_best S (i + 1)).1)), (0, .ref (o 5))] := hl
        refine lv_iinc (v := nI (i + 1)) (lv' := [(3, .int (nI (i + 1))), (4, .int (f_cost S (nI i))), (2, .int ((f_best S (i + 1)).2)), (1, .int ((f_best S (i + 1)).1)), (0, .ref (o 5))]) hx hb dX2_cheapest_47 hl (k := 1) rfl (nI_1 _) (by decide) rfl (fun ls hl => ?_)
        refine lv_goto (tgt := 7) hx hb dX2_cheapest_50 (by decide) ?_
        exact ih ls (lv_sub hl [0, 2, 3, 4] rfl)
      · skip
        have k_39 : f_keeps S (nI i) := Classical.byContradiction (fun q => c_39 (by rw [if_neg q]; decide))
        have hb1 : f_best S (i + 1) = (nI i, f_cost S (nI i)) := if_pos ⟨Or.inl c_25, k_39⟩
        refine lv_iload_n hx hb dX2_cheapest_42 rfl (lv_at hl 1 rfl) ?_
        refine h_topi (y := (f_best S (i + 1)).1) (by rw [hb1]) ?_
        refine lv_istore_n (lv' := [(1, .int ((f_best S (i + 1)).1)), (4, .int (f_cost S (nI i))), (3, .int (nI i)), (2, .int ((f_best S i).2)), (0, .ref (o 5))]) hx hb dX2_cheapest_43 rfl hl (by decide) rfl (fun ls hl => ?_)
        refine lv_iload hx hb dX2_cheapest_44 (lv_at hl 1 rfl) ?_
        refine h_topi (y := (f_best S (i + 1)).2) (by rw [hb1]) ?_
        refine lv_istore_n (lv' := [(2, .int ((f_best S (i + 1)).2)), (1, .int ((f_best S (i + 1)).1)), (4, .int (f_cost S (nI i))), (3, .int (nI i)), (0, .ref (o 5))]) hx hb dX2_cheapest_46 rfl hl (by decide) rfl (fun ls hl => ?_)
        refine lv_iinc (v := nI (i + 1)) (lv' := [(3, .int (nI (i + 1))), (2, .int ((f_best S (i + 1)).2)), (1, .int ((f_best S (i + 1)).1)), (4, .int (f_cost S (nI i))), (0, .ref (o 5))]) hx hb dX2_cheapest_47 hl (k := 3) rfl (nI_1 _) (by decide) rfl (fun ls hl => ?_)
        refine lv_goto (tgt := 7) hx hb dX2_cheapest_50 (by decide) ?_
        exact ih ls (lv_sub hl [0, 1, 2, 4] rfl)
    · skip
      refine lv_iload hx hb dX2_cheapest_28 (lv_at hl 0 rfl) ?_
      refine lv_iload_n hx hb dX2_cheapest_30 rfl (lv_at hl 2 rfl) ?_
      refine lv_icmp_ge (tgt := 47) hx hb dX2_cheapest_31 (by decide) (fun c_31 => ?_) (fun c_31 => ?_)
      · skip
        have hb1 : f_best S (i + 1) = f_best S i := if_neg (fun q => q.1.elim c_25 (fun q => hg_nle.mpr q c_31))
        rw [show (f_best S i).1 = (f_best S (i + 1)).1 from by rw [hb1]] at hl
        have hl : lv_has ls 5 [(4, .int (f_cost S (nI i))), (3, .int (nI i)), (2, .int ((f_best S i).2)), (1, .int ((f_best S (i + 1)).1)), (0, .ref (o 5))] := hl
        rw [show (f_best S i).2 = (f_best S (i + 1)).2 from by rw [hb1]] at hl
        have hl : lv_has ls 5 [(4, .int (f_cost S (nI i))), (3, .int (nI i)), (2, .int ((f_best S (i + 1)).2)), (1, .int ((f_best S (i + 1)).1)), (0, .ref (o 5))] := hl
        refine lv_iinc (v := nI (i + 1)) (lv' := [(3, .int (nI (i + 1))), (4, .int (f_cost S (nI i))), (2, .int ((f_best S (i + 1)).2)), (1, .int ((f_best S (i + 1)).1)), (0, .ref (o 5))]) hx hb dX2_cheapest_47 hl (k := 1) rfl (nI_1 _) (by decide) rfl (fun ls hl => ?_)
        refine lv_goto (tgt := 7) hx hb dX2_cheapest_50 (by decide) ?_
        exact ih ls (lv_sub hl [0, 2, 3, 4] rfl)
      · skip
        refine lv_aload_n hx hb dX2_cheapest_34 rfl (lv_at hl 4 rfl) ?_
        refine lv_iload_n hx hb dX2_cheapest_35 rfl (lv_at hl 1 rfl) ?_
        refine vp_callSi (va_Run.run (va_runV (As := [.int (nI i)]) (rest := []) ⟨hx, hb, hml, hown, hts⟩ (m_X2_keeps l D o cI cJ cZ S h5 (nI i)) (cwV 1 hts gX2_cheapest_X2_keeps rfl rfl rfl (by decide +kernel) ⟨Nat.le_of_ble_eq_true rfl, Nat.le_of_ble_eq_true rfl⟩) (h_preR hK hP 5 rfl rfl rfl) rfl rfl hl.1 rfl (lv_room (Nat.le_of_ble_eq_true rfl)) dX2_cheapest_36 ⟨Nat.le_of_ble_eq_true rfl, Nat.le_of_ble_eq_true rfl⟩)) (fun r_4 hr_4 => ?_)
        subst hr_4
        refine lv_if_eq (tgt := 47) hx hb dX2_cheapest_39 (by decide) (fun c_39 => ?_) (fun c_39 => ?_)
        · skip
          have k_39 : ¬ f_keeps S (nI i) := fun q => by rw [if_pos q] at c_39; exact absurd c_39 (by decide)
          have hb1 : f_best S (i + 1) = f_best S i := if_neg (fun q => k_39 q.2)
          rw [show (f_best S i).1 = (f_best S (i + 1)).1 from by rw [hb1]] at hl
          have hl : lv_has ls 5 [(4, .int (f_cost S (nI i))), (3, .int (nI i)), (2, .int ((f_best S i).2)), (1, .int ((f_best S (i + 1)).1)), (0, .ref (o 5))] := hl
          rw [show (f_best S i).2 = (f_best S (i + 1)).2 from by rw [hb1]] at hl
          have hl : lv_has ls 5 [(4, .int (f_cost S (nI i))), (3, .int (nI i)), (2, .int ((f_best S (i + 1)).2)), (1, .int ((f_best S (i + 1)).1)), (0, .ref (o 5))] := hl
          refine lv_iinc (v := nI (i + 1)) (lv' := [(3, .int (nI (i + 1))), (4, .int (f_cost S (nI i))), (2, .int ((f_best S (i + 1)).2)), (1, .int ((f_best S (i + 1)).1)), (0, .ref (o 5))]) hx hb dX2_cheapest_47 hl (k := 1) rfl (nI_1 _) (by decide) rfl (fun ls hl => ?_)
          refine lv_goto (tgt := 7) hx hb dX2_cheapest_50 (by decide) ?_
          exact ih ls (lv_sub hl [0, 2, 3, 4] rfl)
        · skip
          have k_39 : f_keeps S (nI i) := Classical.byContradiction (fun q => c_39 (by rw [if_neg q]; decide))
          have hb1 : f_best S (i + 1) = (nI i, f_cost S (nI i)) := if_pos ⟨Or.inr (hg_nle.mp c_31), k_39⟩
          refine lv_iload_n hx hb dX2_cheapest_42 rfl (lv_at hl 1 rfl) ?_
          refine h_topi (y := (f_best S (i + 1)).1) (by rw [hb1]) ?_
          refine lv_istore_n (lv' := [(1, .int ((f_best S (i + 1)).1)), (4, .int (f_cost S (nI i))), (3, .int (nI i)), (2, .int ((f_best S i).2)), (0, .ref (o 5))]) hx hb dX2_cheapest_43 rfl hl (by decide) rfl (fun ls hl => ?_)
          refine lv_iload hx hb dX2_cheapest_44 (lv_at hl 1 rfl) ?_
          refine h_topi (y := (f_best S (i + 1)).2) (by rw [hb1]) ?_
          refine lv_istore_n (lv' := [(2, .int ((f_best S (i + 1)).2)), (1, .int ((f_best S (i + 1)).1)), (4, .int (f_cost S (nI i))), (3, .int (nI i)), (0, .ref (o 5))]) hx hb dX2_cheapest_46 rfl hl (by decide) rfl (fun ls hl => ?_)
          refine lv_iinc (v := nI (i + 1)) (lv' := [(3, .int (nI (i + 1))), (2, .int ((f_best S (i + 1)).2)), (1, .int ((f_best S (i + 1)).1)), (4, .int (f_cost S (nI i))), (0, .ref (o 5))]) hx hb dX2_cheapest_47 hl (k := 3) rfl (nI_1 _) (by decide) rfl (fun ls hl => ?_)
          refine lv_goto (tgt := 7) hx hb dX2_cheapest_50 (by decide) ?_
          exact ih ls (lv_sub hl [0, 1, 2, 4] rfl)
  · intro ls hl
    have hl : lv_has ls 5 [(3, .int (nI (2 ^ hg_n S 5))), (2, .int ((f_best S (2 ^ hg_n S 5)).2)), (1, .int ((f_best S (2 ^ hg_n S 5)).1)), (0, .ref (o 5))] := hl
    refine lv_iload_n hx hb dX2_cheapest_7 rfl (lv_at hl 0 rfl) ?_
    refine lv_aload_n hx hb dX2_cheapest_8 rfl (lv_at hl 3 rfl) ?_
    refine vp_callSi (va_Run.run (va_runV (As := []) (rest := [.int (nI (2 ^ hg_n S 5))]) ⟨hx, hb, hml, hown, hts⟩ (m_X2_sets l D o cI cJ cZ S h5) (cwV 0 hts gX2_cheapest_X2_sets rfl rfl rfl (by decide +kernel) ⟨Nat.le_of_ble_eq_true rfl, Nat.le_of_ble_eq_true rfl⟩) (h_preR hK hP 5 rfl rfl rfl) rfl rfl hl.1 rfl (lv_room (Nat.le_of_ble_eq_true rfl)) dX2_cheapest_9 ⟨Nat.le_of_ble_eq_true rfl, Nat.le_of_ble_eq_true rfl⟩)) (fun r_5 hr_5 => ?_)
    subst hr_5
    refine lv_icmp_ge (tgt := 53) hx hb dX2_cheapest_12 (by decide) (fun c_12 => ?_) (fun c_12 => absurd (nI_le (Nat.le_refl _) (hg_pow8 h5)) c_12)
    refine lv_iload_n hx hb dX2_cheapest_53 rfl (lv_at hl 2 rfl) ?_
    exact W.iret (v := (f_best S (2 ^ hg_n S 5)).1) hx hb hr (fun t ht hW => ⟨_, rfl, rfl, ht⟩) (fun _ h9 => nomatch h9) dX2_cheapest_54
