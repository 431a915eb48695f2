set_option maxHeartbeats 4000000 in
set_option maxRecDepth 100000 in
/-- fill -/
theorem m_X6_fill (l : Launch) (D : va_G) (o : Nat → Nat) (cI cJ cZ : ClassId) (S : hg_S) (sz : Nat) (b a d : Int32) : Met l yX6_fill wsX6_fill ({ frames := 2, cells := 0, slots := 0, locals := 42 }) (va_Pc [.ref (o 0), .int b, .int a, .int d] (hg_Wr D (mW o cI cJ cZ S) (hg_ty cI cJ cZ) sz)) (va_Qi (fun (r : Int32) (_ : Unit) => r = (r_fill S b a d).1) (fun _ t => hg_At D (mW o cI cJ cZ ((r_fill S b a d).2)) (va_A (mW o cI cJ cZ S) sz) t) (va_A (mW o cI cJ cZ S) sz)) 0 0 (va_A (mW o cI cJ cZ S) sz) := by
  refine h_start (cc := cX6_fill) (maxL := 4) (ret := (some .int)) (by decide) rfl (Nat.le_of_ble_eq_true rfl) ?_
  intro pg ev s mi args below meth cd ls hx hb hr hts hown hlocks hml hnm hpic hl
  obtain ⟨hsz, hP, hK, hD0⟩ := hpic
  subst hsz
  have hD := hD0.self (sz := s.heap.size)
  generalize hAe : va_A (mW o cI cJ cZ S) s.heap.size = A at hD ⊢
  have hA : ∀ q : Nat, s.heap.size ≤ q → A q := fun q h => by rw [← hAe]; exact Or.inr h
  have hS : va_S A s.heap s.heap [] := va_S.rf
  have hi6 : ∀ w ∈ u_ws RX6 TX6 27, w ∈ wsX6_fill := by decide +kernel
  have hl : lv_has ls 4 [(0, .ref (o 0)), (1, .int b), (2, .int a), (3, .int d)] := hl
  refine lv_iload_n hx hb dX6_fill_0 rfl (lv_at hl 1 rfl) ?_
  refine vp_callSi (va_Run.run (va_runS (As := [.int b]) (rest := []) ⟨hx, hb, hml, hown, hts⟩ (m_X6_isBox l b) (va_cwS 1 hts gX6_fill_X6_isBox rfl rfl rfl (by decide +kernel) ⟨Nat.le_of_ble_eq_true rfl, Nat.le_of_ble_eq_true rfl⟩) (h_preS0) rfl rfl hl.1 rfl (lv_room (Nat.le_of_ble_eq_true rfl)) dX6_fill_1 ⟨Nat.le_of_ble_eq_true rfl, Nat.le_of_ble_eq_true rfl⟩)) (fun r_1 hr_1 => ?_)
  subst hr_1
  refine lv_if_eq (tgt := 27) hx hb dX6_fill_4 (by decide) (fun c_4 => ?_) (fun c_4 => ?_)
  · skip
    have v_4 : ¬ ((nI 0) ≤ b ∧ b ≤ (nI 3)) := hg_in_f c_4
    refine lv_iconst (v := -1) hx hb dX6_fill_27 (by decide) ?_
    have hq : r_fill S b a d = ((-1), S) := by unfold r_fill; rw [if_neg (fun q => v_4 q.1)]
    rw [show (S : hg_S) = (r_fill S b a d).2 from by rw [hq]] at hP hD
    exact W.iret (v := (-1)) hx hb hr (fun t ht hW => ⟨⟨_, (), rfl, by rw [hq], ⟨by rw [ht]; exact hP, hD⟩⟩, hS.F ht⟩) hS.2.2 dX6_fill_28
  · skip
    have v_4 : ((nI 0) ≤ b ∧ b ≤ (nI 3)) := hg_in_t c_4
    refine lv_iload_n hx hb dX6_fill_7 rfl (lv_at hl 2 rfl) ?_
    refine lv_iconst (v := nI 0) hx hb dX6_fill_8 (by decide) ?_
    refine lv_ldc (v := 10000000) hx hb hown (hts (.constant RX6 112 (10000000)) (by decide +kernel)) dX6_fill_9 ?_
    refine h_topi (y := nI 10000000) (by decide) ?_
    refine vp_callSi (va_Run.run (va_runS (As := [.int a, .int (nI 0), .int (nI 10000000)]) (rest := []) ⟨hx, hb, hml, hown, hts⟩ (m_X6_in l a (nI 0) (nI 10000000)) (va_cwS 3 hts gX6_fill_X6_in rfl rfl rfl (by decide +kernel) ⟨Nat.le_of_ble_eq_true rfl, Nat.le_of_ble_eq_true rfl⟩) (h_preS0) rfl rfl hl.1 rfl (lv_room (Nat.le_of_ble_eq_true rfl)) dX6_fill_11 ⟨Nat.le_of_ble_eq_true rfl, Nat.le_of_ble_eq_true rfl⟩)) (fun r_2 hr_2 => ?_)
    subst hr_2
    refine lv_if_eq (tgt := 27) hx hb dX6_fill_14 (by decide) (fun c_14 => ?_) (fun c_14 => ?_)
    · skip
      have v_14 : ¬ ((nI 0) ≤ a ∧ a ≤ (nI 10000000)) := hg_in_f c_14
      refine lv_iconst (v := -1) hx hb dX6_fill_27 (by decide) ?_
      have hq : r_fill S b a d = ((-1), S) := by unfold r_fill; rw [if_neg (fun q => v_14 q.2.1)]
      rw [show (S : hg_S) = (r_fill S b a d).2 from by rw [hq]] at hP hD
      exact W.iret (v := (-1)) hx hb hr (fun t ht hW => ⟨⟨_, (), rfl, by rw [hq], ⟨by rw [ht]; exact hP, hD⟩⟩, hS.F ht⟩) hS.2.2 dX6_fill_28
    · skip
      have v_14 : ((nI 0) ≤ a ∧ a ≤ (nI 10000000)) := hg_in_t c_14
      refine lv_iload_n hx hb dX6_fill_17 rfl (lv_at hl 3 rfl) ?_
      refine lv_iconst (v := nI 0) hx hb dX6_fill_18 (by decide) ?_
      refine lv_ldc (v := 10000000) hx hb hown (hts (.constant RX6 112 (10000000)) (by decide +kernel)) dX6_fill_19 ?_
      refine h_topi (y := nI 10000000) (by decide) ?_
      refine vp_callSi (va_Run.run (va_runS (As := [.int d, .int (nI 0), .int (nI 10000000)]) (rest := []) ⟨hx, hb, hml, hown, hts⟩ (m_X6_in l d (nI 0) (nI 10000000)) (va_cwS 3 hts gX6_fill_X6_in rfl rfl rfl (by decide +kernel) ⟨Nat.le_of_ble_eq_true rfl, Nat.le_of_ble_eq_true rfl⟩) (h_preS0) rfl rfl hl.1 rfl (lv_room (Nat.le_of_ble_eq_true rfl)) dX6_fill_21 ⟨Nat.le_of_ble_eq_true rfl, Nat.le_of_ble_eq_true rfl⟩)) (fun r_3 hr_3 => ?_)
      subst hr_3
      refine lv_if_ne (tgt := 29) hx hb dX6_fill_24 (by decide) (fun c_24 => ?_) (fun c_24 => ?_)
      · skip
        have v_24 : ((nI 0) ≤ d ∧ d ≤ (nI 10000000)) := hg_in_t c_24
        obtain ⟨kb, kbl, kbh, rfl⟩ := hg_rng (by decide) (by decide) v_4
        refine lv_aload_n hx hb dX6_fill_29 rfl (lv_at hl 0 rfl) ?_
        refine va_get (C := RX6) (T := TX6) (N := 27) (v := .ref (o 10)) hx hb hts hi6 hown hK hP 0 rfl rfl 12 (by decide) (hts (.fieldLink RX6 38 "HotGroundModel" "mass" "[J") (by decide +kernel)) (fun _ h9 => h9) rfl dX6_fill_30 ?_
        refine lv_iload_n hx hb dX6_fill_33 rfl (lv_at hl 1 rfl) ?_
        refine lv_iload_n hx hb dX6_fill_34 rfl (lv_at hl 2 rfl) ?_
        refine lv_i2l (v := Int32.toInt64 a) hx hb dX6_fill_35 rfl ?_
        refine lv_topl (fun z_4 ez_4 => ?_)
        refine h_last (f := hg_l S 0) (ws' := mW o cI cJ cZ (hg_sl S 0 (vp_updL (hg_l S 0) kb z_4))) hx hb hK hP hD hS 10 1 rfl rfl kb (rfl) (by omega) (by decide) rfl dX6_fill_36 (fun H locs hP hD hS => ?_)
        refine lv_aload_n hx hb dX6_fill_37 rfl (lv_at hl 0 rfl) ?_
        refine va_get (C := RX6) (T := TX6) (N := 27) (v := .ref (o 11)) hx hb hts hi6 hown hK hP 0 rfl rfl 13 (by decide) (hts (.fieldLink RX6 42 "HotGroundModel" "heat" "[J") (by decide +kernel)) (fun _ h9 => h9) rfl dX6_fill_38 ?_
        refine lv_iload_n hx hb dX6_fill_41 rfl (lv_at hl 1 rfl) ?_
        refine lv_iload_n hx hb dX6_fill_42 rfl (lv_at hl 3 rfl) ?_
        refine lv_i2l (v := Int32.toInt64 d) hx hb dX6_fill_43 rfl ?_
        refine lv_topl (fun z_5 ez_5 => ?_)
        refine h_last (f := hg_l S 1) (ws' := mW o cI cJ cZ (hg_sl (hg_sl S 0 (vp_updL (hg_l S 0) kb z_4)) 1 (vp_updL (hg_l S 1) kb z_5))) hx hb hK hP hD hS 11 1 rfl rfl kb (rfl) (by omega) (by decide) rfl dX6_fill_44 (fun H locs hP hD hS => ?_)
        refine lv_iconst (v := nI 1) hx hb dX6_fill_45 (by decide) ?_
        subst ez_5
        subst ez_4
        have hq : r_fill S (nI kb) a d = (nI 1, hg_sl (hg_sl S 0 (vp_updL (hg_l S 0) kb (Int32.toInt64 a))) 1 (vp_updL (hg_l S 1) kb (Int32.toInt64 d))) := by unfold r_fill; rw [if_pos (⟨v_4, v_14, v_24⟩)]; (try rw [nI_clamp (show kb < 2 ^ 31 by omega)])
        rw [show (hg_sl (hg_sl S 0 (vp_updL (hg_l S 0) kb (Int32.toInt64 a))) 1 (vp_updL (hg_l S 1) kb (Int32.toInt64 d)) : hg_S) = (r_fill S (nI kb) a d).2 from by rw [hq]] at hP hD
        exact W.iret (v := nI 1) hx hb hr (fun t ht hW => ⟨⟨_, (), rfl, by rw [hq], ⟨by rw [ht]; exact hP, hD⟩⟩, hS.F ht⟩) hS.2.2 dX6_fill_46
      · skip
        have v_24 : ¬ ((nI 0) ≤ d ∧ d ≤ (nI 10000000)) := hg_in_f c_24
        refine lv_iconst (v := -1) hx hb dX6_fill_27 (by decide) ?_
        have hq : r_fill S b a d = ((-1), S) := by unfold r_fill; rw [if_neg (fun q => v_24 q.2.2)]
        rw [show (S : hg_S) = (r_fill S b a d).2 from by rw [hq]] at hP hD
        exact W.iret (v := (-1)) hx hb hr (fun t ht hW => ⟨⟨_, (), rfl, by rw [hq], ⟨by rw [ht]; exact hP, hD⟩⟩, hS.F ht⟩) hS.2.2 dX6_fill_28
set_option maxHeartbeats 4000000 in
set_option maxRecDepth 100000 in
/-- set -/
theorem m_X6_set (l : Launch) (D : va_G) (o : Nat → Nat) (cI cJ cZ : ClassId) (S : hg_S) (sz : Nat) (q w v : Int32) : Met l yX6_set wsX6_set ({ frames := 2, cells := 0, slots := 0, locals := 42 }) (va_Pc [.ref (o 0), .int q, .int w, .int v] (hg_Wr D (mW o cI cJ cZ S) (hg_ty cI cJ cZ) sz)) (va_Qi (fun (r : Int32) (_ : Unit) => r = (r_set S q w v).1) (fun _ t => hg_At D (mW o cI cJ cZ ((r_set S q w v).2)) (va_A (mW o cI cJ cZ S) sz) t) (va_A (mW o cI cJ cZ S) sz)) 0 0 (va_A (mW o cI cJ cZ S) sz) := by
  refine h_start (cc := cX6_set) (maxL := 5) (ret := (some .int)) (by decide) rfl (Nat.le_of_ble_eq_true rfl) ?_
  intro pg ev s mi args below meth cd ls hx hb hr hts hown hlocks hml hnm hpic hl
  obtain ⟨hsz, hP, hK, hD0⟩ := hpic
  subst hsz
  have hD := hD0.self (sz := s.heap.size)
  generalize hAe : va_A (mW o cI cJ cZ S) s.heap.size = A at hD ⊢
  have hA : ∀ q : Nat, s.heap.size ≤ q → A q := fun q h => by rw [← hAe]; exact Or.inr h
  have hS : va_S A s.heap s.heap [] := va_S.rf
  have hi6 : ∀ w ∈ u_ws RX6 TX6 27, w ∈ wsX6_set := by decide +kernel
  have hl : lv_has ls 5 [(0, .ref (o 0)), (1, .int q), (2, .int w), (3, .int v)] := hl
  by_cases e0 : q = nI 0
  · subst e0
    refine lv_iconst (v := -1) hx hb dX6_set_0 (by decide) ?_
    refine lv_istore (lv' := [(4, .int (-1)), (0, .ref (o 0)), (1, .int (nI 0)), (2, .int w), (3, .int v)]) hx hb dX6_set_1 hl (by decide) rfl (fun ls hl => ?_)
    refine lv_iload_n hx hb dX6_set_3 rfl (lv_at hl 2 rfl) ?_
    refine lv_if_ne (tgt := 45) hx hb dX6_set_4 (by decide) (fun c_4 => absurd (by decide) c_4) (fun c_4 => ?_)
    refine lv_iload_n hx hb dX6_set_7 rfl (lv_at hl 3 rfl) ?_
    refine lv_iconst (v := nI 0) hx hb dX6_set_8 (by decide) ?_
    refine lv_iconst (v := nI 2) hx hb dX6_set_9 (by decide) ?_
    refine vp_callSi (va_Run.run (va_runS (As := [.int w, .int (nI 0), .int (nI 2)]) (rest := []) ⟨hx, hb, hml, hown, hts⟩ (m_X6_in l w (nI 0) (nI 2)) (va_cwS 3 hts gX6_set_X6_in rfl rfl rfl (by decide +kernel) ⟨Nat.le_of_ble_eq_true rfl, Nat.le_of_ble_eq_true rfl⟩) (h_preS0) rfl rfl hl.1 rfl (lv_room (Nat.le_of_ble_eq_true rfl)) dX6_set_10 ⟨Nat.le_of_ble_eq_true rfl, Nat.le_of_ble_eq_true rfl⟩)) (fun r_1 hr_1 => ?_)
    subst hr_1
    refine lv_if_eq (tgt := 45) hx hb dX6_set_13 (by decide) (fun c_13 => ?_) (fun c_13 => ?_)
    · skip
      have v_13 : ¬ ((nI 0) ≤ w ∧ w ≤ (nI 2)) := hg_in_f c_13
      refine lv_iload_n hx hb dX6_set_45 rfl (lv_at hl 2 rfl) ?_
      refine lv_iconst (v := nI 1) hx hb dX6_set_46 (by decide) ?_
      refine lv_icmp_ne (tgt := 86) hx hb dX6_set_47 (by decide) (fun c_47 => ?_) (fun c_47 => absurd c_47 (by decide))
      refine lv_iload_n hx hb dX6_set_86 rfl (lv_at hl 2 rfl) ?_
      refine lv_iconst (v := nI 2) hx hb dX6_set_87 (by decide) ?_
      refine lv_icmp_ne (tgt := 120) hx hb dX6_set_88 (by decide) (fun c_88 => ?_) (fun c_88 => absurd c_88 (by decide))
      refine lv_iload_n hx hb dX6_set_120 rfl (lv_at hl 2 rfl) ?_
      refine lv_iconst (v := nI 2) hx hb dX6_set_121 (by decide) ?_
      refine lv_icmp_ne (tgt := 148) hx hb dX6_set_122 (by decide) (fun c_122 => ?_) (fun c_122 => absurd c_122 (by decide))
      refine lv_iload hx hb dX6_set_148 (lv_at hl 0 rfl) ?_
      have hq : r_set S (nI 0) w v = ((-1), S) := by unfold r_set; rw [if_pos rfl]; unfold r_leak; rw [if_neg (fun q => v_13 q.1)]
      rw [show (S : hg_S) = (r_set S (nI 0) w v).2 from by rw [hq]] at hP hD
      exact W.iret (v := (-1)) hx hb hr (fun t ht hW => ⟨⟨_, (), rfl, by rw [hq], ⟨by rw [ht]; exact hP, hD⟩⟩, hS.F ht⟩) hS.2.2 dX6_set_150
    · skip
      have v_13 : ((nI 0) ≤ w ∧ w ≤ (nI 2)) := hg_in_t c_13
      refine lv_iload_n hx hb dX6_set_16 rfl (lv_at hl 4 rfl) ?_
      refine lv_iconst (v := nI 2) hx hb dX6_set_17 (by decide) ?_
      refine lv_sipush (v := nI 1000) hx hb dX6_set_18 (by decide) ?_
      refine vp_callSi (va_Run.run (va_runS (As := [.int v, .int (nI 2), .int (nI 1000)]) (rest := []) ⟨hx, hb, hml, hown, hts⟩ (m_X6_in l v (nI 2) (nI 1000)) (va_cwS 3 hts gX6_set_X6_in rfl rfl rfl (by decide +kernel) ⟨Nat.le_of_ble_eq_true rfl, Nat.le_of_ble_eq_true rfl⟩) (h_preS0) rfl rfl hl.1 rfl (lv_room (Nat.le_of_ble_eq_true rfl)) dX6_set_21 ⟨Nat.le_of_ble_eq_true rfl, Nat.le_of_ble_eq_true rfl⟩)) (fun r_2 hr_2 => ?_)
      subst hr_2
      refine lv_if_eq (tgt := 45) hx hb dX6_set_24 (by decide) (fun c_24 => ?_) (fun c_24 => ?_)
      · skip
        have v_24 : ¬ ((nI 2) ≤ v ∧ v ≤ (nI 1000)) := hg_in_f c_24
        refine lv_iload_n hx hb dX6_set_45 rfl (lv_at hl 2 rfl) ?_
        refine lv_iconst (v := nI 1) hx hb dX6_set_46 (by decide) ?_
        refine lv_icmp_ne (tgt := 86) hx hb dX6_set_47 (by decide) (fun c_47 => ?_) (fun c_47 => absurd c_47 (by decide))
        refine lv_iload_n hx hb dX6_set_86 rfl (lv_at hl 2 rfl) ?_
        refine lv_iconst (v := nI 2) hx hb dX6_set_87 (by decide) ?_
        refine lv_icmp_ne (tgt := 120) hx hb dX6_set_88 (by decide) (fun c_88 => ?_) (fun c_88 => absurd c_88 (by decide))
        refine lv_iload_n hx hb dX6_set_120 rfl (lv_at hl 2 rfl) ?_
        refine lv_iconst (v := nI 2) hx hb dX6_set_121 (by decide) ?_
        refine lv_icmp_ne (tgt := 148) hx hb dX6_set_122 (by decide) (fun c_122 => ?_) (fun c_122 => absurd c_122 (by decide))
        refine lv_iload hx hb dX6_set_148 (lv_at hl 0 rfl) ?_
        have hq : r_set S (nI 0) w v = ((-1), S) := by unfold r_set; rw [if_pos rfl]; unfold r_leak; rw [if_neg (fun q => v_24 q.2)]
        rw [show (S : hg_S) = (r_set S (nI 0) w v).2 from by rw [hq]] at hP hD
        exact W.iret (v := (-1)) hx hb hr (fun t ht hW => ⟨⟨_, (), rfl, by rw [hq], ⟨by rw [ht]; exact hP, hD⟩⟩, hS.F ht⟩) hS.2.2 dX6_set_150
      · skip
        have v_24 : ((nI 2) ≤ v ∧ v ≤ (nI 1000)) := hg_in_t c_24
        obtain ⟨kw, kwl, kwh, rfl⟩ := hg_rng (by decide) (by decide) v_13
        refine lv_aload_n hx hb dX6_set_27 rfl (lv_at hl 1 rfl) ?_
        refine va_get (C := RX6) (T := TX6) (N := 27) (v := .ref (o 12)) hx hb hts hi6 hown hK hP 0 rfl rfl 14 (by decide) (hts (.fieldLink RX6 45 "HotGroundModel" "leak" "[I") (by decide +kernel)) (fun _ h9 => h9) rfl dX6_set_28 ?_
        refine lv_iload_n hx hb dX6_set_31 rfl (lv_at hl 3 rfl) ?_
        refine h_iald (f := hg_i S 9) hx hb hK hP 12 0 rfl rfl kw (rfl) (by omega) (by decide) dX6_set_32 ?_
        refine lv_istore (lv' := [(4, .int (hg_i S 9 kw)), (0, .ref (o 0)), (1, .int (nI 0)), (2, .int (nI kw)), (3, .int v)]) hx hb dX6_set_33 hl (by decide) rfl (fun ls hl => ?_)
        refine lv_aload_n hx hb dX6_set_35 rfl (lv_at hl 1 rfl) ?_
        refine va_get (C := RX6) (T := TX6) (N := 27) (v := .ref (o 12)) hx hb hts hi6 hown hK hP 0 rfl rfl 14 (by decide) (hts (.fieldLink RX6 45 "HotGroundModel" "leak" "[I") (by decide +kernel)) (fun _ h9 => h9) rfl dX6_set_36 ?_
        refine lv_iload_n hx hb dX6_set_39 rfl (lv_at hl 3 rfl) ?_
        refine lv_iload_n hx hb dX6_set_40 rfl (lv_at hl 4 rfl) ?_
        refine h_iast (f := hg_i S 9) (ws' := mW o cI cJ cZ (hg_si S 9 (upd (hg_i S 9) kw v))) hx hb hK hP hD hS 12 0 rfl rfl kw (rfl) (by omega) (by decide) rfl dX6_set_41 (fun H locs hP hD hS => ?_)
        refine lv_goto (tgt := 148) hx hb dX6_set_42 (by decide) ?_
        refine lv_iload hx hb dX6_set_148 (lv_at hl 0 rfl) ?_
        have hq : r_set S (nI 0) (nI kw) v = (hg_i S 9 kw, hg_si S 9 (upd (hg_i S 9) kw v)) := by unfold r_set; rw [if_pos rfl]; unfold r_leak; rw [if_pos ⟨v_13, v_24⟩]; (try rw [nI_clamp (show kw < 2 ^ 31 by omega)])
        rw [show (hg_si S 9 (upd (hg_i S 9) kw v) : hg_S) = (r_set S (nI 0) (nI kw) v).2 from by rw [hq]] at hP hD
        exact W.iret (v := hg_i S 9 kw) hx hb hr (fun t ht hW => ⟨⟨_, (), rfl, by rw [hq], ⟨by rw [ht]; exact hP, hD⟩⟩, hS.F ht⟩) hS.2.2 dX6_set_150
  · skip
    by_cases e1 : q = nI 1
    · subst e1
      refine lv_iconst (v := -1) hx hb dX6_set_0 (by decide) ?_
      refine lv_istore (lv' := [(4, .int (-1)), (0, .ref (o 0)), (1, .int (nI 1)), (2, .int w), (3, .int v)]) hx hb dX6_set_1 hl (by decide) rfl (fun ls hl => ?_)
      refine lv_iload_n hx hb dX6_set_3 rfl (lv_at hl 2 rfl) ?_
      refine lv_if_ne (tgt := 45) hx hb dX6_set_4 (by decide) (fun c_4 => ?_) (fun c_4 => absurd c_4 (by decide))
      refine lv_iload_n hx hb dX6_set_45 rfl (lv_at hl 2 rfl) ?_
      refine lv_iconst (v := nI 1) hx hb dX6_set_46 (by decide) ?_
      refine lv_icmp_ne (tgt := 86) hx hb dX6_set_47 (by decide) (fun c_47 => absurd (by decide) c_47) (fun c_47 => ?_)
      refine lv_iload_n hx hb dX6_set_50 rfl (lv_at hl 3 rfl) ?_
      refine vp_callSi (va_Run.run (va_runS (As := [.int w]) (rest := []) ⟨hx, hb, hml, hown, hts⟩ (m_X6_isBox l w) (va_cwS 1 hts gX6_set_X6_isBox rfl rfl rfl (by decide +kernel) ⟨Nat.le_of_ble_eq_true rfl, Nat.le_of_ble_eq_true rfl⟩) (h_preS0) rfl rfl hl.1 rfl (lv_room (Nat.le_of_ble_eq_true rfl)) dX6_set_51 ⟨Nat.le_of_ble_eq_true rfl, Nat.le_of_ble_eq_true rfl⟩)) (fun r_3 hr_3 => ?_)
      subst hr_3
      refine lv_if_eq (tgt := 86) hx hb dX6_set_54 (by decide) (fun c_54 => ?_) (fun c_54 => ?_)
      · skip
        have v_54 : ¬ ((nI 0) ≤ w ∧ w ≤ (nI 3)) := hg_in_f c_54
        refine lv_iload_n hx hb dX6_set_86 rfl (lv_at hl 2 rfl) ?_
        refine lv_iconst (v := nI 2) hx hb dX6_set_87 (by decide) ?_
        refine lv_icmp_ne (tgt := 120) hx hb dX6_set_88 (by decide) (fun c_88 => ?_) (fun c_88 => absurd c_88 (by decide))
        refine lv_iload_n hx hb dX6_set_120 rfl (lv_at hl 2 rfl) ?_
        refine lv_iconst (v := nI 2) hx hb dX6_set_121 (by decide) ?_
        refine lv_icmp_ne (tgt := 148) hx hb dX6_set_122 (by decide) (fun c_122 => ?_) (fun c_122 => absurd c_122 (by decide))
        refine lv_iload hx hb dX6_set_148 (lv_at hl 0 rfl) ?_
        have hq : r_set S (nI 1) w v = ((-1), S) := by unfold r_set; rw [if_neg (by decide), if_pos rfl]; unfold r_feed; rw [if_neg (fun q => v_54 q.1)]
        rw [show (S : hg_S) = (r_set S (nI 1) w v).2 from by rw [hq]] at hP hD
        exact W.iret (v := (-1)) hx hb hr (fun t ht hW => ⟨⟨_, (), rfl, by rw [hq], ⟨by rw [ht]; exact hP, hD⟩⟩, hS.F ht⟩) hS.2.2 dX6_set_150
      · skip
        have v_54 : ((nI 0) ≤ w ∧ w ≤ (nI 3)) := hg_in_t c_54
        refine lv_iload_n hx hb dX6_set_57 rfl (lv_at hl 4 rfl) ?_
        refine lv_iconst (v := nI 0) hx hb dX6_set_58 (by decide) ?_
        refine lv_sipush (v := nI 1000) hx hb dX6_set_59 (by decide) ?_
        refine vp_callSi (va_Run.run (va_runS (As := [.int v, .int (nI 0), .int (nI 1000)]) (rest := []) ⟨hx, hb, hml, hown, hts⟩ (m_X6_in l v (nI 0) (nI 1000)) (va_cwS 3 hts gX6_set_X6_in rfl rfl rfl (by decide +kernel) ⟨Nat.le_of_ble_eq_true rfl, Nat.le_of_ble_eq_true rfl⟩) (h_preS0) rfl rfl hl.1 rfl (lv_room (Nat.le_of_ble_eq_true rfl)) dX6_set_62 ⟨Nat.le_of_ble_eq_true rfl, Nat.le_of_ble_eq_true rfl⟩)) (fun r_4 hr_4 => ?_)
        subst hr_4
        refine lv_if_eq (tgt := 86) hx hb dX6_set_65 (by decide) (fun c_65 => ?_) (fun c_65 => ?_)
        · skip
          have v_65 : ¬ ((nI 0) ≤ v ∧ v ≤ (nI 1000)) := hg_in_f c_65
          refine lv_iload_n hx hb dX6_set_86 rfl (lv_at hl 2 rfl) ?_
          refine lv_iconst (v := nI 2) hx hb dX6_set_87 (by decide) ?_
          refine lv_icmp_ne (tgt := 120) hx hb dX6_set_88 (by decide) (fun c_88 => ?_) (fun c_88 => absurd c_88 (by decide))
          refine lv_iload_n hx hb dX6_set_120 rfl (lv_at hl 2 rfl) ?_
          refine lv_iconst (v := nI 2) hx hb dX6_set_121 (by decide) ?_
          refine lv_icmp_ne (tgt := 148) hx hb dX6_set_122 (by decide) (fun c_122 => ?_) (fun c_122 => absurd c_122 (by decide))
          refine lv_iload hx hb dX6_set_148 (lv_at hl 0 rfl) ?_
          have hq : r_set S (nI 1) w v = ((-1), S) := by unfold r_set; rw [if_neg (by decide), if_pos rfl]; unfold r_feed; rw [if_neg (fun q => v_65 q.2)]
          rw [show (S : hg_S) = (r_set S (nI 1) w v).2 from by rw [hq]] at hP hD
          exact W.iret (v := (-1)) hx hb hr (fun t ht hW => ⟨⟨_, (), rfl, by rw [hq], ⟨by rw [ht]; exact hP, hD⟩⟩, hS.F ht⟩) hS.2.2 dX6_set_150
        · skip
          have v_65 : ((nI 0) ≤ v ∧ v ≤ (nI 1000)) := hg_in_t c_65
          obtain ⟨kw, kwl, kwh, rfl⟩ := hg_rng (by decide) (by decide) v_54
          refine lv_aload_n hx hb dX6_set_68 rfl (lv_at hl 1 rfl) ?_
          refine va_get (C := RX6) (T := TX6) (N := 27) (v := .ref (o 13)) hx hb hts hi6 hown hK hP 0 rfl rfl 15 (by decide) (hts (.fieldLink RX6 48 "HotGroundModel" "feed" "[I") (by decide +kernel)) (fun _ h9 => h9) rfl dX6_set_69 ?_
          refine lv_iload_n hx hb dX6_set_72 rfl (lv_at hl 3 rfl) ?_
          refine h_iald (f := hg_i S 10) hx hb hK hP 13 0 rfl rfl kw (rfl) (by omega) (by decide) dX6_set_73 ?_
          refine lv_istore (lv' := [(4, .int (hg_i S 10 kw)), (0, .ref (o 0)), (1, .int (nI 1)), (2, .int (nI kw)), (3, .int v)]) hx hb dX6_set_74 hl (by decide) rfl (fun ls hl => ?_)
          refine lv_aload_n hx hb dX6_set_76 rfl (lv_at hl 1 rfl) ?_
          refine va_get (C := RX6) (T := TX6) (N := 27) (v := .ref (o 13)) hx hb hts hi6 hown hK hP 0 rfl rfl 15 (by decide) (hts (.fieldLink RX6 48 "HotGroundModel" "feed" "[I") (by decide +kernel)) (fun _ h9 => h9) rfl dX6_set_77 ?_
          refine lv_iload_n hx hb dX6_set_80 rfl (lv_at hl 3 rfl) ?_
          refine lv_iload_n hx hb dX6_set_81 rfl (lv_at hl 4 rfl) ?_
          refine h_iast (f := hg_i S 10) (ws' := mW o cI cJ cZ (hg_si S 10 (upd (hg_i S 10) kw v))) hx hb hK hP hD hS 13 0 rfl rfl kw (rfl) (by omega) (by decide) rfl dX6_set_82 (fun H locs hP hD hS => ?_)
          refine lv_goto (tgt := 148) hx hb dX6_set_83 (by decide) ?_
          refine lv_iload hx hb dX6_set_148 (lv_at hl 0 rfl) ?_
          have hq : r_set S (nI 1) (nI kw) v = (hg_i S 10 kw, hg_si S 10 (upd (hg_i S 10) kw v)) := by unfold r_set; rw [if_neg (by decide), if_pos rfl]; unfold r_feed; rw [if_pos ⟨v_54, v_65⟩]; (try rw [nI_clamp (show kw < 2 ^ 31 by omega)])
          rw [show (hg_si S 10 (upd (hg_i S 10) kw v) : hg_S) = (r_set S (nI 1) (nI kw) v).2 from by rw [hq]] at hP hD
          exact W.iret (v := hg_i S 10 kw) hx hb hr (fun t ht hW => ⟨⟨_, (), rfl, by rw [hq], ⟨by rw [ht]; exact hP, hD⟩⟩, hS.F ht⟩) hS.2.2 dX6_set_150
    · skip
      by_cases e2 : q = nI 2
      · subst e2
        by_cases g0 : w = nI 0
        · subst g0
          refine lv_iconst (v := -1) hx hb dX6_set_0 (by decide) ?_
          refine lv_istore (lv' := [(4, .int (-1)), (0, .ref (o 0)), (1, .int (nI 2)), (2, .int (nI 0)), (3, .int v)]) hx hb dX6_set_1 hl (by decide) rfl (fun ls hl => ?_)
          refine lv_iload_n hx hb dX6_set_3 rfl (lv_at hl 2 rfl) ?_
          refine lv_if_ne (tgt := 45) hx hb dX6_set_4 (by decide) (fun c_4 => ?_) (fun c_4 => absurd c_4 (by decide))
          refine lv_iload_n hx hb dX6_set_45 rfl (lv_at hl 2 rfl) ?_
          refine lv_iconst (v := nI 1) hx hb dX6_set_46 (by decide) ?_
          refine lv_icmp_ne (tgt := 86) hx hb dX6_set_47 (by decide) (fun c_47 => ?_) (fun c_47 => absurd c_47 (by decide))
          refine lv_iload_n hx hb dX6_set_86 rfl (lv_at hl 2 rfl) ?_
          refine lv_iconst (v := nI 2) hx hb dX6_set_87 (by decide) ?_
          refine lv_icmp_ne (tgt := 120) hx hb dX6_set_88 (by decide) (fun c_88 => absurd (by decide) c_88) (fun c_88 => ?_)
          refine lv_iload_n hx hb dX6_set_91 rfl (lv_at hl 3 rfl) ?_
          refine lv_if_ne (tgt := 120) hx hb dX6_set_92 (by decide) (fun c_92 => absurd (by decide) c_92) (fun c_92 => ?_)
          refine lv_iload_n hx hb dX6_set_95 rfl (lv_at hl 4 rfl) ?_
          refine lv_iconst (v := nI 0) hx hb dX6_set_96 (by decide) ?_
          refine lv_sipush (v := nI 1000) hx hb dX6_set_97 (by decide) ?_
          refine vp_callSi (va_Run.run (va_runS (As := [.int v, .int (nI 0), .int (nI 1000)]) (rest := []) ⟨hx, hb, hml, hown, hts⟩ (m_X6_in l v (nI 0) (nI 1000)) (va_cwS 3 hts gX6_set_X6_in rfl rfl rfl (by decide +kernel) ⟨Nat.le_of_ble_eq_true rfl, Nat.le_of_ble_eq_true rfl⟩) (h_preS0) rfl rfl hl.1 rfl (lv_room (Nat.le_of_ble_eq_true rfl)) dX6_set_100 ⟨Nat.le_of_ble_eq_true rfl, Nat.le_of_ble_eq_true rfl⟩)) (fun r_5 hr_5 => ?_)
          subst hr_5
          refine lv_if_eq (tgt := 120) hx hb dX6_set_103 (by decide) (fun c_103 => ?_) (fun c_103 => ?_)
          · skip
            have v_103 : ¬ ((nI 0) ≤ v ∧ v ≤ (nI 1000)) := hg_in_f c_103
            refine lv_iload_n hx hb dX6_set_120 rfl (lv_at hl 2 rfl) ?_
            refine lv_iconst (v := nI 2) hx hb dX6_set_121 (by decide) ?_
            refine lv_icmp_ne (tgt := 148) hx hb dX6_set_122 (by decide) (fun c_122 => absurd (by decide) c_122) (fun c_122 => ?_)
            refine lv_iload_n hx hb dX6_set_125 rfl (lv_at hl 3 rfl) ?_
            refine lv_iconst (v := nI 1) hx hb dX6_set_126 (by decide) ?_
            refine lv_icmp_ne (tgt := 148) hx hb dX6_set_127 (by decide) (fun c_127 => ?_) (fun c_127 => absurd c_127 (by decide))
            refine lv_iload hx hb dX6_set_148 (lv_at hl 0 rfl) ?_
            have hq : r_set S (nI 2) (nI 0) v = ((-1), S) := by unfold r_set; rw [if_neg (by decide), if_neg (by decide), if_pos rfl, if_pos rfl]; unfold r_gsh; rw [if_neg (fun q => v_103 q)]
            rw [show (S : hg_S) = (r_set S (nI 2) (nI 0) v).2 from by rw [hq]] at hP hD
            exact W.iret (v := (-1)) hx hb hr (fun t ht hW => ⟨⟨_, (), rfl, by rw [hq], ⟨by rw [ht]; exact hP, hD⟩⟩, hS.F ht⟩) hS.2.2 dX6_set_150
          · skip
            have v_103 : ((nI 0) ≤ v ∧ v ≤ (nI 1000)) := hg_in_t c_103
            obtain ⟨kv, kvl, kvh, rfl⟩ := hg_rng (by decide) (by decide) v_103
            refine lv_aload_n hx hb dX6_set_106 rfl (lv_at hl 1 rfl) ?_
            refine va_get (C := RX6) (T := TX6) (N := 27) (v := .int (nI (hg_n S 2))) hx hb hts hi6 hown hK hP 0 rfl rfl 16 (by decide) (hts (.fieldLink RX6 113 "HotGroundModel" "givenShare" "I") (by decide +kernel)) (fun _ h9 => h9) rfl dX6_set_107 ?_
            refine lv_istore (lv' := [(4, .int (nI (hg_n S 2))), (0, .ref (o 0)), (1, .int (nI 2)), (2, .int (nI 0)), (3, .int (nI kv))]) hx hb dX6_set_110 hl (by decide) rfl (fun ls hl => ?_)
            refine lv_aload_n hx hb dX6_set_112 rfl (lv_at hl 1 rfl) ?_
            refine lv_iload_n hx hb dX6_set_113 rfl (lv_at hl 4 rfl) ?_
            refine h_put (C := RX6) (T := TX6) (N := 27) (v := .int (nI kv)) (ty := .int) (ws' := mW o cI cJ cZ (hg_sn S 2 kv)) hx hb hts hi6 tyX6 tyX6_ok nmX6 hown hK hP hD hS 0 rfl rfl 16 (by decide) (hts (.fieldLink RX6 113 "HotGroundModel" "givenShare" "I") (by decide +kernel)) (fun _ h9 => h9) rfl (by decide +kernel) rfl rfl (Nat.le_of_ble_eq_true rfl) rfl dX6_set_114 (fun H locs hP hD hS => ?_)
            refine lv_goto (tgt := 148) hx hb dX6_set_117 (by decide) ?_
            refine lv_iload hx hb dX6_set_148 (lv_at hl 0 rfl) ?_
            have hq : r_set S (nI 2) (nI 0) (nI kv) = (nI (hg_n S 2), hg_sn S 2 kv) := by unfold r_set; rw [if_neg (by decide), if_neg (by decide), if_pos rfl, if_pos rfl]; unfold r_gsh; rw [if_pos v_103]; (try rw [nI_clamp (show kv < 2 ^ 31 by omega)])
            rw [show (hg_sn S 2 kv : hg_S) = (r_set S (nI 2) (nI 0) (nI kv)).2 from by rw [hq]] at hP hD
            exact W.iret (v := nI (hg_n S 2)) hx hb hr (fun t ht hW => ⟨⟨_, (), rfl, by rw [hq], ⟨by rw [ht]; exact hP, hD⟩⟩, hS.F ht⟩) hS.2.2 dX6_set_150
        · skip
          by_cases g1 : w = nI 1
          · subst g1
            refine lv_iconst (v := -1) hx hb dX6_set_0 (by decide) ?_
            refine lv_istore (lv' := [(4, .int (-1)), (0, .ref (o 0)), (1, .int (nI 2)), (2, .int (nI 1)), (3, .int v)]) hx hb dX6_set_1 hl (by decide) rfl (fun ls hl => ?_)
            refine lv_iload_n hx hb dX6_set_3 rfl (lv_at hl 2 rfl) ?_
            refine lv_if_ne (tgt := 45) hx hb dX6_set_4 (by decide) (fun c_4 => ?_) (fun c_4 => absurd c_4 (by decide))
            refine lv_iload_n hx hb dX6_set_45 rfl (lv_at hl 2 rfl) ?_
            refine lv_iconst (v := nI 1) hx hb dX6_set_46 (by decide) ?_
            refine lv_icmp_ne (tgt := 86) hx hb dX6_set_47 (by decide) (fun c_47 => ?_) (fun c_47 => absurd c_47 (by decide))
            refine lv_iload_n hx hb dX6_set_86 rfl (lv_at hl 2 rfl) ?_
            refine lv_iconst (v := nI 2) hx hb dX6_set_87 (by decide) ?_
            refine lv_icmp_ne (tgt := 120) hx hb dX6_set_88 (by decide) (fun c_88 => absurd (by decide) c_88) (fun c_88 => ?_)
            refine lv_iload_n hx hb dX6_set_91 rfl (lv_at hl 3 rfl) ?_
            refine lv_if_ne (tgt := 120) hx hb dX6_set_92 (by decide) (fun c_92 => ?_) (fun c_92 => absurd c_92 (by decide))
            refine lv_iload_n hx hb dX6_set_120 rfl (lv_at hl 2 rfl) ?_
            refine lv_iconst (v := nI 2) hx hb dX6_set_121 (by decide) ?_
            refine lv_icmp_ne (tgt := 148) hx hb dX6_set_122 (by decide) (fun c_122 => absurd (by decide) c_122) (fun c_122 => ?_)
            refine lv_iload_n hx hb dX6_set_125 rfl (lv_at hl 3 rfl) ?_
            refine lv_iconst (v := nI 1) hx hb dX6_set_126 (by decide) ?_
            refine lv_icmp_ne (tgt := 148) hx hb dX6_set_127 (by decide) (fun c_127 => absurd (by decide) c_127) (fun c_127 => ?_)
            refine lv_iload_n hx hb dX6_set_130 rfl (lv_at hl 4 rfl) ?_
            refine vp_callSi (va_Run.run (va_runS (As := [.int v]) (rest := []) ⟨hx, hb, hml, hown, hts⟩ (m_X6_isBox l v) (va_cwS 1 hts gX6_set_X6_isBox rfl rfl rfl (by decide +kernel) ⟨Nat.le_of_ble_eq_true rfl, Nat.le_of_ble_eq_true rfl⟩) (h_preS0) rfl rfl hl.1 rfl (lv_room (Nat.le_of_ble_eq_true rfl)) dX6_set_131 ⟨Nat.le_of_ble_eq_true rfl, Nat.le_of_ble_eq_true rfl⟩)) (fun r_6 hr_6 => ?_)
            subst hr_6
            refine lv_if_eq (tgt := 148) hx hb dX6_set_134 (by decide) (fun c_134 => ?_) (fun c_134 => ?_)
            · skip
              have v_134 : ¬ ((nI 0) ≤ v ∧ v ≤ (nI 3)) := hg_in_f c_134
              refine lv_iload hx hb dX6_set_148 (lv_at hl 0 rfl) ?_
              have hq : r_set S (nI 2) (nI 1) v = ((-1), S) := by unfold r_set; rw [if_neg (by decide), if_neg (by decide), if_pos rfl, if_neg (by decide), if_pos rfl]; unfold r_gbx; rw [if_neg (fun q => v_134 q)]
              rw [show (S : hg_S) = (r_set S (nI 2) (nI 1) v).2 from by rw [hq]] at hP hD
              exact W.iret (v := (-1)) hx hb hr (fun t ht hW => ⟨⟨_, (), rfl, by rw [hq], ⟨by rw [ht]; exact hP, hD⟩⟩, hS.F ht⟩) hS.2.2 dX6_set_150
            · skip
              have v_134 : ((nI 0) ≤ v ∧ v ≤ (nI 3)) := hg_in_t c_134
              obtain ⟨kv, kvl, kvh, rfl⟩ := hg_rng (by decide) (by decide) v_134
              refine lv_aload_n hx hb dX6_set_137 rfl (lv_at hl 1 rfl) ?_
              refine va_get (C := RX6) (T := TX6) (N := 27) (v := .int (nI (hg_n S 3))) hx hb hts hi6 hown hK hP 0 rfl rfl 17 (by decide) (hts (.fieldLink RX6 116 "HotGroundModel" "givenBox" "I") (by decide +kernel)) (fun _ h9 => h9) rfl dX6_set_138 ?_
              refine lv_istore (lv' := [(4, .int (nI (hg_n S 3))), (0, .ref (o 0)), (1, .int (nI 2)), (2, .int (nI 1)), (3, .int (nI kv))]) hx hb dX6_set_141 hl (by decide) rfl (fun ls hl => ?_)
              refine lv_aload_n hx hb dX6_set_143 rfl (lv_at hl 1 rfl) ?_
              refine lv_iload_n hx hb dX6_set_144 rfl (lv_at hl 4 rfl) ?_
              refine h_put (C := RX6) (T := TX6) (N := 27) (v := .int (nI kv)) (ty := .int) (ws' := mW o cI cJ cZ (hg_sn S 3 kv)) hx hb hts hi6 tyX6 tyX6_ok nmX6 hown hK hP hD hS 0 rfl rfl 17 (by decide) (hts (.fieldLink RX6 116 "HotGroundModel" "givenBox" "I") (by decide +kernel)) (fun _ h9 => h9) rfl (by decide +kernel) rfl rfl (Nat.le_of_ble_eq_true rfl) rfl dX6_set_145 (fun H locs hP hD hS => ?_)
              refine lv_iload hx hb dX6_set_148 (lv_at hl 0 rfl) ?_
              have hq : r_set S (nI 2) (nI 1) (nI kv) = (nI (hg_n S 3), hg_sn S 3 kv) := by unfold r_set; rw [if_neg (by decide), if_neg (by decide), if_pos rfl, if_neg (by decide), if_pos rfl]; unfold r_gbx; rw [if_pos v_134]; (try rw [nI_clamp (show kv < 2 ^ 31 by omega)])
              rw [show (hg_sn S 3 kv : hg_S) = (r_set S (nI 2) (nI 1) (nI kv)).2 from by rw [hq]] at hP hD
              exact W.iret (v := nI (hg_n S 3)) hx hb hr (fun t ht hW => ⟨⟨_, (), rfl, by rw [hq], ⟨by rw [ht]; exact hP, hD⟩⟩, hS.F ht⟩) hS.2.2 dX6_set_150
          · skip
            refine lv_iconst (v := -1) hx hb dX6_set_0 (by decide) ?_
            refine lv_istore (lv' := [(4, .int (-1)), (0, .ref (o 0)), (1, .int (nI 2)), (2, .int w), (3, .int v)]) hx hb dX6_set_1 hl (by decide) rfl (fun ls hl => ?_)
            refine lv_iload_n hx hb dX6_set_3 rfl (lv_at hl 2 rfl) ?_
            refine lv_if_ne (tgt := 45) hx hb dX6_set_4 (by decide) (fun c_4 => ?_) (fun c_4 => absurd c_4 (by decide))
            refine lv_iload_n hx hb dX6_set_45 rfl (lv_at hl 2 rfl) ?_
            refine lv_iconst (v := nI 1) hx hb dX6_set_46 (by decide) ?_
            refine lv_icmp_ne (tgt := 86) hx hb dX6_set_47 (by decide) (fun c_47 => ?_) (fun c_47 => absurd c_47 (by decide))
            refine lv_iload_n hx hb dX6_set_86 rfl (lv_at hl 2 rfl) ?_
            refine lv_iconst (v := nI 2) hx hb dX6_set_87 (by decide) ?_
            refine lv_icmp_ne (tgt := 120) hx hb dX6_set_88 (by decide) (fun c_88 => absurd (by decide) c_88) (fun c_88 => ?_)
            refine lv_iload_n hx hb dX6_set_91 rfl (lv_at hl 3 rfl) ?_
            refine lv_if_ne (tgt := 120) hx hb dX6_set_92 (by decide) (fun c_92 => ?_) (fun c_92 => absurd c_92 (fun h => g0 (h.trans nI_0.symm)))
            refine lv_iload_n hx hb dX6_set_120 rfl (lv_at hl 2 rfl) ?_
            refine lv_iconst (v := nI 2) hx hb dX6_set_121 (by decide) ?_
            refine lv_icmp_ne (tgt := 148) hx hb dX6_set_122 (by decide) (fun c_122 => absurd (by decide) c_122) (fun c_122 => ?_)
            refine lv_iload_n hx hb dX6_set_125 rfl (lv_at hl 3 rfl) ?_
            refine lv_iconst (v := nI 1) hx hb dX6_set_126 (by decide) ?_
            refine lv_icmp_ne (tgt := 148) hx hb dX6_set_127 (by decide) (fun c_127 => ?_) (fun c_127 => absurd c_127 (g1))
            refine lv_iload hx hb dX6_set_148 (lv_at hl 0 rfl) ?_
            have hq : r_set S (nI 2) w v = ((-1), S) := by unfold r_set; rw [if_neg (by decide), if_neg (by decide), if_pos rfl, if_neg g0, if_neg g1]
            rw [show (S : hg_S) = (r_set S (nI 2) w v).2 from by rw [hq]] at hP hD
            exact W.iret (v := (-1)) hx hb hr (fun t ht hW => ⟨⟨_, (), rfl, by rw [hq], ⟨by rw [ht]; exact hP, hD⟩⟩, hS.F ht⟩) hS.2.2 dX6_set_150
      · skip
        refine lv_iconst (v := -1) hx hb dX6_set_0 (by decide) ?_
        refine lv_istore (lv' := [(4, .int (-1)), (0, .ref (o 0)), (1, .int q), (2, .int w), (3, .int v)]) hx hb dX6_set_1 hl (by decide) rfl (fun ls hl => ?_)
        refine lv_iload_n hx hb dX6_set_3 rfl (lv_at hl 2 rfl) ?_
        refine lv_if_ne (tgt := 45) hx hb dX6_set_4 (by decide) (fun c_4 => ?_) (fun c_4 => absurd c_4 (fun h => e0 (h.trans nI_0.symm)))
        refine lv_iload_n hx hb dX6_set_45 rfl (lv_at hl 2 rfl) ?_
        refine lv_iconst (v := nI 1) hx hb dX6_set_46 (by decide) ?_
        refine lv_icmp_ne (tgt := 86) hx hb dX6_set_47 (by decide) (fun c_47 => ?_) (fun c_47 => absurd c_47 (e1))
        refine lv_iload_n hx hb dX6_set_86 rfl (lv_at hl 2 rfl) ?_
        refine lv_iconst (v := nI 2) hx hb dX6_set_87 (by decide) ?_
        refine lv_icmp_ne (tgt := 120) hx hb dX6_set_88 (by decide) (fun c_88 => ?_) (fun c_88 => absurd c_88 (e2))
        refine lv_iload_n hx hb dX6_set_120 rfl (lv_at hl 2 rfl) ?_
        refine lv_iconst (v := nI 2) hx hb dX6_set_121 (by decide) ?_
        refine lv_icmp_ne (tgt := 148) hx hb dX6_set_122 (by decide) (fun c_122 => ?_) (fun c_122 => absurd c_122 (e2))
        refine lv_iload hx hb dX6_set_148 (lv_at hl 0 rfl) ?_
        have hq : r_set S q w v = ((-1), S) := by unfold r_set; rw [if_neg e0, if_neg e1, if_neg e2]
        rw [show (S : hg_S) = (r_set S q w v).2 from by rw [hq]] at hP hD
        exact W.iret (v := (-1)) hx hb hr (fun t ht hW => ⟨⟨_, (), rfl, by rw [hq], ⟨by rw [ht]; exact hP, hD⟩⟩, hS.F ht⟩) hS.2.2 dX6_set_150
set_option maxHeartbeats 4000000 in
set_option maxRecDepth 100000 in
/-- into a box -/
theorem m_X6_comes (l : Launch) (D : va_G) (o : Nat → Nat) (cI cJ cZ : ClassId) (S : hg_S) (sz : Nat) (b : Nat) (hb4 : b < 4) (m1 h1 : Int64) : Met l yX6_comes wsX6_comes ({ frames := 0, cells := 0, slots := 0, locals := 0 }) (va_Pc [.ref (o 0), .int (nI b), .long m1, .long h1] (hg_Wr D (mW o cI cJ cZ S) (hg_ty cI cJ cZ) sz)) (va_Qv (fun (_ : Unit) => True) (fun _ t => hg_At D (mW o cI cJ cZ (s_pour S b m1 h1)) (va_A (mW o cI cJ cZ S) sz) t) (va_A (mW o cI cJ cZ S) sz)) 0 0 (va_A (mW o cI cJ cZ S) sz) := by
  refine h_start (cc := cX6_comes) (maxL := 6) (ret := none) (by decide) rfl (Nat.le_of_ble_eq_true rfl) ?_
  intro pg ev s mi args below meth cd ls hx hb hr hts hown hlocks hml hnm hpic hl
  obtain ⟨hsz, hP, hK, hD0⟩ := hpic
  subst hsz
  have hD := hD0.self (sz := s.heap.size)
  generalize hAe : va_A (mW o cI cJ cZ S) s.heap.size = A at hD ⊢
  have hA : ∀ q : Nat, s.heap.size ≤ q → A q := fun q h => by rw [← hAe]; exact Or.inr h
  have hS : va_S A s.heap s.heap [] := va_S.rf
  have hi6 : ∀ w ∈ u_ws RX6 TX6 27, w ∈ wsX6_comes := by decide +kernel
  have hl : lv_has ls 6 [(0, .ref (o 0)), (1, .int (nI b)), (2, .long m1), (4, .long h1)] := hl
  refine lv_aload_n hx hb dX6_comes_0 rfl (lv_at hl 0 rfl) ?_
  refine va_get (C := RX6) (T := TX6) (N := 27) (v := .ref (o 10)) hx hb hts hi6 hown hK hP 0 rfl rfl 12 (by decide) (hts (.fieldLink RX6 38 "HotGroundModel" "mass" "[J") (by decide +kernel)) (fun _ h9 => h9) rfl dX6_comes_1 ?_
  refine lv_iload_n hx hb dX6_comes_4 rfl (lv_at hl 1 rfl) ?_
  refine lv_dup2_11 hx hb dX6_comes_5 rfl rfl ?_
  refine h_lald (f := hg_l S 0) hx hb hK hP 10 1 rfl rfl b (rfl) (by omega) (by decide) dX6_comes_6 ?_
  refine lv_lload_n hx hb dX6_comes_7 rfl (lv_at hl 2 rfl) ?_
  refine lv_ladd hx hb dX6_comes_8 ?_
  refine lv_topl (fun z_1 ez_1 => ?_)
  refine h_last (f := hg_l S 0) (ws' := mW o cI cJ cZ (hg_sl S 0 (vp_updL (hg_l S 0) b z_1))) hx hb hK hP hD hS 10 1 rfl rfl b (rfl) (by omega) (by decide) rfl dX6_comes_9 (fun H locs hP hD hS => ?_)
  refine lv_aload_n hx hb dX6_comes_10 rfl (lv_at hl 0 rfl) ?_
  refine va_get (C := RX6) (T := TX6) (N := 27) (v := .ref (o 11)) hx hb hts hi6 hown hK hP 0 rfl rfl 13 (by decide) (hts (.fieldLink RX6 42 "HotGroundModel" "heat" "[J") (by decide +kernel)) (fun _ h9 => h9) rfl dX6_comes_11 ?_
  refine lv_iload_n hx hb dX6_comes_14 rfl (lv_at hl 1 rfl) ?_
  refine lv_dup2_11 hx hb dX6_comes_15 rfl rfl ?_
  refine h_lald (f := hg_l S 1) hx hb hK hP 11 1 rfl rfl b (rfl) (by omega) (by decide) dX6_comes_16 ?_
  refine lv_lload hx hb dX6_comes_17 (lv_at hl 3 rfl) ?_
  refine lv_ladd hx hb dX6_comes_19 ?_
  refine lv_topl (fun z_2 ez_2 => ?_)
  refine h_last (f := hg_l S 1) (ws' := mW o cI cJ cZ (hg_sl (hg_sl S 0 (vp_updL (hg_l S 0) b z_1)) 1 (vp_updL (hg_l S 1) b z_2))) hx hb hK hP hD hS 11 1 rfl rfl b (rfl) (by omega) (by decide) rfl dX6_comes_20 (fun H locs hP hD hS => ?_)
  subst ez_2
  subst ez_1
  exact W.vret hx hb hr (fun t ht hW => ⟨⟨(), rfl, trivial, ⟨by rw [ht]; exact hP, hD⟩⟩, hS.F ht⟩) hS.2.2 dX6_comes_21
set_option maxHeartbeats 4000000 in
set_option maxRecDepth 100000 in
/-- out of a box -/
theorem m_X6_goes (l : Launch) (D : va_G) (o : Nat → Nat) (cI cJ cZ : ClassId) (S : hg_S) (sz : Nat) (b : Nat) (hb4 : b < 4) (hm : ¬ hg_l S 0 b < 0) (m1 : Int64) : Met l yX6_goes wsX6_goes ({ frames := 0, cells := 0, slots := 0, locals := 0 }) (va_Pc [.ref (o 0), .int (nI b), .long m1] (hg_Wr D (mW o cI cJ cZ S) (hg_ty cI cJ cZ) sz)) (va_Ql (fun (r : Int64) (_ : Unit) => r = f_wm S b m1) (fun _ t => hg_At D (mW o cI cJ cZ (s_drain S b m1 (f_wm S b m1))) (va_A (mW o cI cJ cZ S) sz) t) (va_A (mW o cI cJ cZ S) sz)) 0 0 (va_A (mW o cI cJ cZ S) sz) := by
  refine h_start (cc := cX6_goes) (maxL := 6) (ret := (some .long)) (by decide) rfl (Nat.le_of_ble_eq_true rfl) ?_
  intro pg ev s mi args below meth cd ls hx hb hr hts hown hlocks hml hnm hpic hl
  obtain ⟨hsz, hP, hK, hD0⟩ := hpic
  subst hsz
  have hD := hD0.self (sz := s.heap.size)
  generalize hAe : va_A (mW o cI cJ cZ S) s.heap.size = A at hD ⊢
  have hA : ∀ q : Nat, s.heap.size ≤ q → A q := fun q h => by rw [← hAe]; exact Or.inr h
  have hS : va_S A s.heap s.heap [] := va_S.rf
  have hi6 : ∀ w ∈ u_ws RX6 TX6 27, w ∈ wsX6_goes := by decide +kernel
  have hl : lv_has ls 6 [(0, .ref (o 0)), (1, .int (nI b)), (2, .long m1)] := hl
  refine lv_aload_n hx hb dX6_goes_0 rfl (lv_at hl 0 rfl) ?_
  refine va_get (C := RX6) (T := TX6) (N := 27) (v := .ref (o 10)) hx hb hts hi6 hown hK hP 0 rfl rfl 12 (by decide) (hts (.fieldLink RX6 38 "HotGroundModel" "mass" "[J") (by decide +kernel)) (fun _ h9 => h9) rfl dX6_goes_1 ?_
  refine lv_iload_n hx hb dX6_goes_4 rfl (lv_at hl 1 rfl) ?_
  refine h_lald (f := hg_l S 0) hx hb hK hP 10 1 rfl rfl b (rfl) (by omega) (by decide) dX6_goes_5 ?_
  refine lv_lconst (v := 0) hx hb dX6_goes_6 (by decide) ?_
  refine W.lcmp hx hb dX6_goes_7 ?_
  refine lv_if_ne (tgt := 15) hx hb dX6_goes_8 (by decide) (fun c_8 => ?_) (fun c_8 => ?_)
  · skip
    have c8 : (0 : Int64) < hg_l S 0 b := hg_pos hm (fun h => c_8 ((lg_cmp_eq _ _).mpr h))
    refine lv_lload_n hx hb dX6_goes_15 rfl (lv_at hl 2 rfl) ?_
    refine lv_aload_n hx hb dX6_goes_16 rfl (lv_at hl 0 rfl) ?_
    refine va_get (C := RX6) (T := TX6) (N := 27) (v := .ref (o 11)) hx hb hts hi6 hown hK hP 0 rfl rfl 13 (by decide) (hts (.fieldLink RX6 42 "HotGroundModel" "heat" "[J") (by decide +kernel)) (fun _ h9 => h9) rfl dX6_goes_17 ?_
    refine lv_iload_n hx hb dX6_goes_20 rfl (lv_at hl 1 rfl) ?_
    refine h_lald (f := hg_l S 1) hx hb hK hP 11 1 rfl rfl b (rfl) (by omega) (by decide) dX6_goes_21 ?_
    refine lv_lmul hx hb dX6_goes_22 ?_
    refine lv_aload_n hx hb dX6_goes_23 rfl (lv_at hl 0 rfl) ?_
    refine va_get (C := RX6) (T := TX6) (N := 27) (v := .ref (o 10)) hx hb hts hi6 hown hK hP 0 rfl rfl 12 (by decide) (hts (.fieldLink RX6 38 "HotGroundModel" "mass" "[J") (by decide +kernel)) (fun _ h9 => h9) rfl dX6_goes_24 ?_
    refine lv_iload_n hx hb dX6_goes_27 rfl (lv_at hl 1 rfl) ?_
    refine h_lald (f := hg_l S 0) hx hb hK hP 10 1 rfl rfl b (rfl) (by omega) (by decide) dX6_goes_28 ?_
    refine lv_ldiv hx hb dX6_goes_29 (fun h => by rw [h] at c8; exact absurd c8 (by decide)) ?_
    refine h_topl (y := f_wm S b m1) (by unfold f_wm f_warm; rw [if_pos c8]) ?_
    refine lv_lstore (lv' := [(4, .long (f_wm S b m1)), (0, .ref (o 0)), (1, .int (nI b)), (2, .long m1)]) hx hb dX6_goes_30 hl (by decide) rfl (fun ls hl => ?_)
    refine lv_aload_n hx hb dX6_goes_32 rfl (lv_at hl 1 rfl) ?_
    refine va_get (C := RX6) (T := TX6) (N := 27) (v := .ref (o 10)) hx hb hts hi6 hown hK hP 0 rfl rfl 12 (by decide) (hts (.fieldLink RX6 38 "HotGroundModel" "mass" "[J") (by decide +kernel)) (fun _ h9 => h9) rfl dX6_goes_33 ?_
    refine lv_iload_n hx hb dX6_goes_36 rfl (lv_at hl 2 rfl) ?_
    refine lv_dup2_11 hx hb dX6_goes_37 rfl rfl ?_
    refine h_lald (f := hg_l S 0) hx hb hK hP 10 1 rfl rfl b (rfl) (by omega) (by decide) dX6_goes_38 ?_
    refine lv_lload_n hx hb dX6_goes_39 rfl (lv_at hl 3 rfl) ?_
    refine lv_lsub hx hb dX6_goes_40 ?_
    refine lv_topl (fun z_1 ez_1 => ?_)
    refine h_last (f := hg_l S 0) (ws' := mW o cI cJ cZ (hg_sl S 0 (vp_updL (hg_l S 0) b z_1))) hx hb hK hP hD hS 10 1 rfl rfl b (rfl) (by omega) (by decide) rfl dX6_goes_41 (fun H locs hP hD hS => ?_)
    refine lv_aload_n hx hb dX6_goes_42 rfl (lv_at hl 1 rfl) ?_
    refine va_get (C := RX6) (T := TX6) (N := 27) (v := .ref (o 11)) hx hb hts hi6 hown hK hP 0 rfl rfl 13 (by decide) (hts (.fieldLink RX6 42 "HotGroundModel" "heat" "[J") (by decide +kernel)) (fun _ h9 => h9) rfl dX6_goes_43 ?_
    refine lv_iload_n hx hb dX6_goes_46 rfl (lv_at hl 2 rfl) ?_
    refine lv_dup2_11 hx hb dX6_goes_47 rfl rfl ?_
    refine h_lald (f := hg_l S 1) hx hb hK hP 11 1 rfl rfl b (rfl) (by omega) (by decide) dX6_goes_48 ?_
    refine lv_lload hx hb dX6_goes_49 (lv_at hl 0 rfl) ?_
    refine lv_lsub hx hb dX6_goes_51 ?_
    refine lv_topl (fun z_2 ez_2 => ?_)
    refine h_last (f := hg_l S 1) (ws' := mW o cI cJ cZ (hg_sl (hg_sl S 0 (vp_updL (hg_l S 0) b z_1)) 1 (vp_updL (hg_l S 1) b z_2))) hx hb hK hP hD hS 11 1 rfl rfl b (rfl) (by omega) (by decide) rfl dX6_goes_52 (fun H locs hP hD hS => ?_)
    refine lv_lload hx hb dX6_goes_53 (lv_at hl 0 rfl) ?_
    subst ez_2
    subst ez_1
    exact W.lret (v := f_wm S b m1) hx hb hr (fun t ht hW => ⟨⟨_, (), rfl, rfl, ⟨by rw [ht]; exact hP, hD⟩⟩, hS.F ht⟩) hS.2.2 dX6_goes_55
  · skip
    have c8 : ¬ (0 : Int64) < hg_l S 0 b := by rw [(lg_cmp_eq _ _).mp c_8]; decide
    refine lv_lconst (v := 0) hx hb dX6_goes_11 (by decide) ?_
    refine lv_goto (tgt := 30) hx hb dX6_goes_12 (by decide) ?_
    refine h_topl (y := f_wm S b m1) (by unfold f_wm f_warm; rw [if_neg c8]) ?_
    refine lv_lstore (lv' := [(4, .long (f_wm S b m1)), (0, .ref (o 0)), (1, .int (nI b)), (2, .long m1)]) hx hb dX6_goes_30 hl (by decide) rfl (fun ls hl => ?_)
    refine lv_aload_n hx hb dX6_goes_32 rfl (lv_at hl 1 rfl) ?_
    refine va_get (C := RX6) (T := TX6) (N := 27) (v := .ref (o 10)) hx hb hts hi6 hown hK hP 0 rfl rfl 12 (by decide) (hts (.fieldLink RX6 38 "HotGroundModel" "mass" "[J") (by decide +kernel)) (fun _ h9 => h9) rfl dX6_goes_33 ?_
    refine lv_iload_n hx hb dX6_goes_36 rfl (lv_at hl 2 rfl) ?_
    refine lv_dup2_11 hx hb dX6_goes_37 rfl rfl ?_
    refine h_lald (f := hg_l S 0) hx hb hK hP 10 1 rfl rfl b (rfl) (by omega) (by decide) dX6_goes_38 ?_
    refine lv_lload_n hx hb dX6_goes_39 rfl (lv_at hl 3 rfl) ?_
    refine lv_lsub hx hb dX6_goes_40 ?_
    refine lv_topl (fun z_3 ez_3 => ?_)
    refine h_last (f := hg_l S 0) (ws' := mW o cI cJ cZ (hg_sl S 0 (vp_updL (hg_l S 0) b z_3))) hx hb hK hP hD hS 10 1 rfl rfl b (rfl) (by omega) (by decide) rfl dX6_goes_41 (fun H locs hP hD hS => ?_)
    refine lv_aload_n hx hb dX6_goes_42 rfl (lv_at hl 1 rfl) ?_
    refine va_get (C := RX6) (T := TX6) (N := 27) (v := .ref (o 11)) hx hb hts hi6 hown hK hP 0 rfl rfl 13 (by decide) (hts (.fieldLink RX6 42 "HotGroundModel" "heat" "[J") (by decide +kernel)) (fun _ h9 => h9) rfl dX6_goes_43 ?_
    refine lv_iload_n hx hb dX6_goes_46 rfl (lv_at hl 2 rfl) ?_
    refine lv_dup2_11 hx hb dX6_goes_47 rfl rfl ?_
    refine h_lald (f := hg_l S 1) hx hb hK hP 11 1 rfl rfl b (rfl) (by omega) (by decide) dX6_goes_48 ?_
    refine lv_lload hx hb dX6_goes_49 (lv_at hl 0 rfl) ?_
    refine lv_lsub hx hb dX6_goes_51 ?_
    refine lv_topl (fun z_4 ez_4 => ?_)
    refine h_last (f := hg_l S 1) (ws' := mW o cI cJ cZ (hg_sl (hg_sl S 0 (vp_updL (hg_l S 0) b z_3)) 1 (vp_updL (hg_l S 1) b z_4))) hx hb hK hP hD hS 11 1 rfl rfl b (rfl) (by omega) (by decide) rfl dX6_goes_52 (fun H locs hP hD hS => ?_)
    refine lv_lload hx hb dX6_goes_53 (lv_at hl 0 rfl) ?_
    subst ez_4
    subst ez_3
    exact W.lret (v := f_wm S b m1) hx hb hr (fun t ht hW => ⟨⟨_, (), rfl, rfl, ⟨by rw [ht]; exact hP, hD⟩⟩, hS.F ht⟩) hS.2.2 dX6_goes_55
set_option maxHeartbeats 4000000 in
set_option maxRecDepth 100000 in
/-- the wells give -/
theorem m_X6_wellsGive (l : Launch) (D : va_G) (o : Nat → Nat) (cI cJ cZ : ClassId) (S : hg_S) (sz : Nat) (h0 : hg_n S 0 ≤ 8) (h1 : hg_n S 1 ≤ 4) (hg3 : hg_n S 3 < 4) (hbx : ok_bx S) (hkd : ok_kd S) (p : Nat) (hp : p ≤ 20) (hms : ∀ i b, i ≤ 8 → b < 4 → ¬ hg_l (s_tk S p i) 0 b < 0)  : Met l yX6_wellsGive wsX6_wellsGive ({ frames := 1, cells := 0, slots := 0, locals := 25 }) (va_Pc [.ref (o 0), .int (nI p)] (hg_Wr D (mW o cI cJ cZ S) (hg_ty cI cJ cZ) sz)) (va_Qv (fun (_ : Unit) => True) (fun _ t => hg_At D (mW o cI cJ cZ (s_prod S p)) (va_A (mW o cI cJ cZ S) sz) t) (va_A (mW o cI cJ cZ S) sz)) 0 0 (va_A (mW o cI cJ cZ S) sz) := by
  refine h_start (cc := cX6_wellsGive) (maxL := 10) (ret := none) (by decide) rfl (Nat.le_of_ble_eq_true rfl) ?_
  intro pg ev s mi args below meth cd ls hx hb hr hts hown hlocks hml hnm hpic hl
  obtain ⟨hsz, hP, hK, hD0⟩ := hpic
  subst hsz
  have hD := hD0.self (sz := s.heap.size)
  generalize hAe : va_A (mW o cI cJ cZ S) s.heap.size = A at hD ⊢
  have hA : ∀ q : Nat, s.heap.size ≤ q → A q := fun q h => by rw [← hAe]; exact Or.inr h
  have hS : va_S A s.heap s.heap [] := va_S.rf
  have hi6 : ∀ w ∈ u_ws RX6 TX6 27, w ∈ wsX6_wellsGive := by decide +kernel
  have hl : lv_has ls 10 [(0, .ref (o 0)), (1, .int (nI p))] := hl
  refine lv_lconst (v := 0) hx hb dX6_wellsGive_0 (by decide) ?_
  refine lv_lstore_n (lv' := [(2, .long 0), (0, .ref (o 0)), (1, .int (nI p))]) hx hb dX6_wellsGive_1 rfl hl (by decide) rfl (fun ls hl => ?_)
  refine lv_iconst (v := nI 0) hx hb dX6_wellsGive_2 (by decide) ?_
  refine lv_istore (lv' := [(4, .int (nI 0)), (2, .long 0), (0, .ref (o 0)), (1, .int (nI p))]) hx hb dX6_wellsGive_3 hl (by decide) rfl (fun ls hl => ?_)
  have hP : va_P D vwCl (mW o cI cJ cZ (s_tk S p 0)) s.heap := hP
  have hD : va_D A (mW o cI cJ cZ (s_tk S p 0)) := hD
  have hn0 : ∀ i, hg_n (s_tk S p i) 0 = hg_n S 0 := fun i => s_tk_n S p i 0
  refine h_forW (nL := 10) (hg_n S 0) (fun i => [(4, .int (nI i)), (2, .long (f_tk S p i)), (0, .ref (o 0)), (1, .int (nI p))]) (fun i => mW o cI cJ cZ (s_tk S p i)) ?_ ?_ (lv_sub hl [0, 1, 2, 3] rfl) hP hD hS
  · intro i ls H locs hi hl hP hD hS ih
    have hl : lv_has ls 10 [(4, .int (nI i)), (2, .long (f_tk S p i)), (0, .ref (o 0)), (1, .int (nI p))] := hl
    refine lv_iload hx hb dX6_wellsGive_5 (lv_at hl 0 rfl) ?_
    refine lv_aload_n hx hb dX6_wellsGive_7 rfl (lv_at hl 2 rfl) ?_
    refine va_get (C := RX6) (T := TX6) (N := 27) (v := .int (nI (hg_n (s_tk S p i) 0))) hx hb hts hi6 hown hK hP 0 rfl rfl 0 (by decide) (hts (.fieldLink RX6 72 "HotGroundModel" "wells" "I") (by decide +kernel)) (fun _ h9 => h9) rfl dX6_wellsGive_8 ?_
    refine h_topi (y := nI (hg_n S 0)) (by rw [hn0]) ?_
    refine lv_icmp_ge (tgt := 113) hx hb dX6_wellsGive_11 (by decide) (fun c_11 => absurd c_11 (nI_ge hi (by omega))) (fun c_11 => ?_)
    refine lv_aload_n hx hb dX6_wellsGive_14 rfl (lv_at hl 2 rfl) ?_
    refine va_get (C := RX6) (T := TX6) (N := 27) (v := .ref (o 4)) hx hb hts hi6 hown hK hP 0 rfl rfl 4 (by decide) (hts (.fieldLink RX6 19 "HotGroundModel" "isOpen" "[Z") (by decide +kernel)) (fun _ h9 => h9) rfl dX6_wellsGive_15 ?_
    refine lv_iload hx hb dX6_wellsGive_18 (lv_at hl 0 rfl) ?_
    refine h_zald (f := hg_i (s_tk S p i) 3) hx hb hK hP 4 2 rfl rfl i (rfl) (by omega) (by decide) dX6_wellsGive_20 ?_
    refine lv_if_eq (tgt := 107) hx hb dX6_wellsGive_21 (by decide) (fun c_21 => ?_) (fun c_21 => ?_)
    · skip
      have hk1 : s_takes S p (i + 1) = s_takes S p i := if_pos c_21
      rw [show f_tk S p i = f_tk S p (i + 1) from (congrArg Prod.fst hk1).symm] at hl
      have hl : lv_has ls 10 [(4, .int (nI i)), (2, .long (f_tk S p (i + 1))), (0, .ref (o 0)), (1, .int (nI p))] := hl
      rw [show (s_tk S p i : hg_S) = s_tk S p (i + 1) from (congrArg Prod.snd hk1).symm] at hP hD
      refine lv_iinc (v := nI (i + 1)) (lv' := [(4, .int (nI (i + 1))), (2, .long (f_tk S p (i + 1))), (0, .ref (o 0)), (1, .int (nI p))]) hx hb dX6_wellsGive_107 hl (k := 0) rfl (nI_1 _) (by decide) rfl (fun ls hl => ?_)
      refine lv_goto (tgt := 5) hx hb dX6_wellsGive_110 (by decide) ?_
      exact ih ls H locs (lv_sub hl [0, 1, 2, 3] rfl) hP hD hS
    · skip
      have hk1 := show s_takes S p (i + 1) = (f_tk S p i + f_part (s_tk S p i) (f_bx (s_tk S p i) i) (f_fl (s_tk S p i) i p), s_take (s_tk S p i) (f_bx (s_tk S p i) i) (f_fl (s_tk S p i) i p)) from if_neg c_21
      refine lv_aload_n hx hb dX6_wellsGive_24 rfl (lv_at hl 2 rfl) ?_
      refine va_get (C := RX6) (T := TX6) (N := 27) (v := .ref (o 2)) hx hb hts hi6 hown hK hP 0 rfl rfl 2 (by decide) (hts (.fieldLink RX6 13 "HotGroundModel" "inBox" "[I") (by decide +kernel)) (fun _ h9 => h9) rfl dX6_wellsGive_25 ?_
      refine lv_iload hx hb dX6_wellsGive_28 (lv_at hl 0 rfl) ?_
      refine h_iald (f := hg_i (s_tk S p i) 1) hx hb hK hP 2 0 rfl rfl i (rfl) (by omega) (by decide) dX6_wellsGive_30 ?_
      have hb4 := (hbx.tk p i).lt (show i < 8 by omega)
      refine h_topi (y := nI (f_bx (s_tk S p i) i)) ((hbx.tk p i).eq (by omega)) ?_
      refine lv_istore (lv' := [(5, .int (nI (f_bx (s_tk S p i) i))), (4, .int (nI i)), (2, .long (f_tk S p i)), (0, .ref (o 0)), (1, .int (nI p))]) hx hb dX6_wellsGive_31 hl (by decide) rfl (fun ls hl => ?_)
      refine lv_aload_n hx hb dX6_wellsGive_33 rfl (lv_at hl 3 rfl) ?_
      refine lv_iload hx hb dX6_wellsGive_34 (lv_at hl 1 rfl) ?_
      refine lv_iload_n hx hb dX6_wellsGive_36 rfl (lv_at hl 4 rfl) ?_
      refine vp_callSi (va_Run.run (va_runV (As := [.int (nI i), .int (nI p)]) (rest := []) ⟨hx, hb, hml, hown, hts⟩ (m_X6_flowOf l D o cI cJ cZ (s_tk S p i) (by first | exact hkd | exact hkd.tk _ _) i p (by omega) (by omega)) (cwV 2 hts gX6_wellsGive_X6_flowOf rfl rfl rfl (by decide +kernel) ⟨Nat.le_of_ble_eq_true rfl, Nat.le_of_ble_eq_true rfl⟩) (h_preR hK hP 0 rfl rfl rfl) rfl rfl hl.1 rfl (lv_room (Nat.le_of_ble_eq_true rfl)) dX6_wellsGive_37 ⟨Nat.le_of_ble_eq_true rfl, Nat.le_of_ble_eq_true rfl⟩)) (fun r_1 hr_1 => ?_)
      subst hr_1
      refine lv_i2l (v := Int32.toInt64 (f_flow (s_tk S p i) i p)) hx hb dX6_wellsGive_40 rfl ?_
      refine h_topl (y := f_fl (s_tk S p i) i p) (rfl) ?_
      refine lv_lstore (lv' := [(6, .long (f_fl (s_tk S p i) i p)), (5, .int (nI (f_bx (s_tk S p i) i))), (4, .int (nI i)), (2, .long (f_tk S p i)), (0, .ref (o 0)), (1, .int (nI p))]) hx hb dX6_wellsGive_41 hl (by decide) rfl (fun ls hl => ?_)
      refine lv_lload hx hb dX6_wellsGive_43 (lv_at hl 0 rfl) ?_
      refine lv_aload_n hx hb dX6_wellsGive_45 rfl (lv_at hl 4 rfl) ?_
      refine va_get (C := RX6) (T := TX6) (N := 27) (v := .ref (o 10)) hx hb hts hi6 hown hK hP 0 rfl rfl 12 (by decide) (hts (.fieldLink RX6 38 "HotGroundModel" "mass" "[J") (by decide +kernel)) (fun _ h9 => h9) rfl dX6_wellsGive_46 ?_
      refine lv_iload hx hb dX6_wellsGive_49 (lv_at hl 1 rfl) ?_
      refine h_lald (f := hg_l (s_tk S p i) 0) hx hb hK hP 10 1 rfl rfl (f_bx (s_tk S p i) i) (rfl) (by omega) (by decide) dX6_wellsGive_51 ?_
      refine W.lcmp hx hb dX6_wellsGive_52 ?_
      refine lv_if_le (tgt := 66) hx hb dX6_wellsGive_53 (by decide) (fun c_53 => ?_) (fun c_53 => ?_)
      · skip
        refine lv_lload hx hb dX6_wellsGive_66 (lv_at hl 0 rfl) ?_
        refine h_topl (y := f_part (s_tk S p i) (f_bx (s_tk S p i) i) (f_fl (s_tk S p i) i p)) (by unfold f_part; rw [if_neg (fun h => hg_nlt.mpr c_53 ((lg_cmp_gt _ _).mpr h))]) ?_
        refine lv_lstore (lv' := [(6, .long (f_part (s_tk S p i) (f_bx (s_tk S p i) i) (f_fl (s_tk S p i) i p))), (5, .int (nI (f_bx (s_tk S p i) i))), (4, .int (nI i)), (2, .long (f_tk S p i)), (0, .ref (o 0)), (1, .int (nI p))]) hx hb dX6_wellsGive_68 hl (by decide) rfl (fun ls hl => ?_)
        refine lv_aload_n hx hb dX6_wellsGive_70 rfl (lv_at hl 4 rfl) ?_
        refine lv_iload hx hb dX6_wellsGive_71 (lv_at hl 1 rfl) ?_
        refine lv_lload hx hb dX6_wellsGive_73 (lv_at hl 0 rfl) ?_
        refine h_calll (w1 := mW o cI cJ cZ (s_drain (s_tk S p i) (f_bx (s_tk S p i) i) (f_part (s_tk S p i) (f_bx (s_tk S p i) i) (f_fl (s_tk S p i) i p)) (f_wm (s_tk S p i) (f_bx (s_tk S p i) i) (f_part (s_tk S p i) (f_bx (s_tk S p i) i) (f_fl (s_tk S p i) i p))))) (va_runV (As := [.int (nI (f_bx (s_tk S p i) i)), .long (f_part (s_tk S p i) (f_bx (s_tk S p i) i) (f_fl (s_tk S p i) i p))]) (rest := []) ⟨hx, hb, hml, hown, hts⟩ (m_X6_goes l D o cI cJ cZ (s_tk S p i) H.size (f_bx (s_tk S p i) i) (by omega) (hms i _ (by omega) hb4) (f_part (s_tk S p i) (f_bx (s_tk S p i) i) (f_fl (s_tk S p i) i p))) (cwV 2 hts gX6_wellsGive_X6_goes rfl rfl rfl (by decide +kernel) ⟨Nat.le_of_ble_eq_true rfl, Nat.le_of_ble_eq_true rfl⟩) (h_preW hK hP hD 0 rfl rfl rfl) rfl rfl hl.1 rfl (lv_room (Nat.le_of_ble_eq_true rfl)) dX6_wellsGive_75 ⟨Nat.le_of_ble_eq_true rfl, Nat.le_of_ble_eq_true rfl⟩) hS (h_all hD hS hA) (fun r_2 H locs hr_2 hP hD hS => ?_)
        subst hr_2
        refine lv_lstore (lv' := [(8, .long (f_wm (s_tk S p i) (f_bx (s_tk S p i) i) (f_part (s_tk S p i) (f_bx (s_tk S p i) i) (f_fl (s_tk S p i) i p)))), (6, .long (f_part (s_tk S p i) (f_bx (s_tk S p i) i) (f_fl (s_tk S p i) i p))), (5, .int (nI (f_bx (s_tk S p i) i))), (4, .int (nI i)), (2, .long (f_tk S p i)), (0, .ref (o 0)), (1, .int (nI p))]) hx hb dX6_wellsGive_78 hl (by decide) rfl (fun ls hl => ?_)
        refine lv_lload_n hx hb dX6_wellsGive_80 rfl (lv_at hl 4 rfl) ?_
        refine lv_lload hx hb dX6_wellsGive_81 (lv_at hl 1 rfl) ?_
        refine lv_ladd hx hb dX6_wellsGive_83 ?_
        refine h_topl (y := f_tk S p (i + 1)) ((congrArg Prod.fst hk1).symm) ?_
        refine lv_lstore_n (lv' := [(2, .long (f_tk S p (i + 1))), (8, .long (f_wm (s_tk S p i) (f_bx (s_tk S p i) i) (f_part (s_tk S p i) (f_bx (s_tk S p i) i) (f_fl (s_tk S p i) i p)))), (6, .long (f_part (s_tk S p i) (f_bx (s_tk S p i) i) (f_fl (s_tk S p i) i p))), (5, .int (nI (f_bx (s_tk S p i) i))), (4, .int (nI i)), (0, .ref (o 0)), (1, .int (nI p))]) hx hb dX6_wellsGive_84 rfl hl (by decide) rfl (fun ls hl => ?_)
        obtain ⟨T1, hT1⟩ : ∃ y : hg_S, y = s_drain (s_tk S p i) (f_bx (s_tk S p i) i) (f_part (s_tk S p i) (f_bx (s_tk S p i) i) (f_fl (s_tk S p i) i p)) (f_wm (s_tk S p i) (f_bx (s_tk S p i) i) (f_part (s_tk S p i) (f_bx (s_tk S p i) i) (f_fl (s_tk S p i) i p))) := ⟨_, rfl⟩
        rw [← hT1] at hP hD
        refine lv_aload_n hx hb dX6_wellsGive_85 rfl (lv_at hl 5 rfl) ?_
        refine va_get (C := RX6) (T := TX6) (N := 27) (v := .ref (o 14)) hx hb hts hi6 hown hK hP 0 rfl rfl 18 (by decide) (hts (.fieldLink RX6 51 "HotGroundModel" "sums" "[J") (by decide +kernel)) (fun _ h9 => h9) rfl dX6_wellsGive_86 ?_
        refine lv_iconst (v := nI 0) hx hb dX6_wellsGive_89 (by decide) ?_
        refine lv_dup2_11 hx hb dX6_wellsGive_90 rfl rfl ?_
        refine h_lald (f := hg_l T1 2) hx hb hK hP 14 1 rfl rfl 0 (rfl) (by omega) (by decide) dX6_wellsGive_91 ?_
        refine lv_lload hx hb dX6_wellsGive_92 (lv_at hl 2 rfl) ?_
        refine lv_ladd hx hb dX6_wellsGive_94 ?_
        refine lv_topl (fun z_3 ez_3 => ?_)
        refine h_last (f := hg_l T1 2) (ws' := mW o cI cJ cZ (hg_sl T1 2 (vp_updL (hg_l T1 2) 0 z_3))) hx hb hK hP hD hS 14 1 rfl rfl 0 (rfl) (by omega) (by decide) rfl dX6_wellsGive_95 (fun H locs hP hD hS => ?_)
        refine lv_aload_n hx hb dX6_wellsGive_96 rfl (lv_at hl 5 rfl) ?_
        refine va_get (C := RX6) (T := TX6) (N := 27) (v := .ref (o 14)) hx hb hts hi6 hown hK hP 0 rfl rfl 18 (by decide) (hts (.fieldLink RX6 51 "HotGroundModel" "sums" "[J") (by decide +kernel)) (fun _ h9 => h9) rfl dX6_wellsGive_97 ?_
        refine lv_iconst (v := nI 1) hx hb dX6_wellsGive_100 (by decide) ?_
        refine lv_dup2_11 hx hb dX6_wellsGive_101 rfl rfl ?_
        refine h_lald (f := vp_updL (hg_l T1 2) 0 z_3) hx hb hK hP 14 1 rfl rfl 1 (rfl) (by omega) (by decide) dX6_wellsGive_102 ?_
        refine lv_lload hx hb dX6_wellsGive_103 (lv_at hl 1 rfl) ?_
        refine lv_ladd hx hb dX6_wellsGive_105 ?_
        refine lv_topl (fun z_4 ez_4 => ?_)
        refine h_last (f := vp_updL (hg_l T1 2) 0 z_3) (ws' := mW o cI cJ cZ (hg_sl T1 2 (vp_updL (vp_updL (hg_l T1 2) 0 z_3) 1 z_4))) hx hb hK hP hD hS 14 1 rfl rfl 1 (rfl) (by omega) (by decide) rfl dX6_wellsGive_106 (fun H locs hP hD hS => ?_)
        refine lv_iinc (v := nI (i + 1)) (lv' := [(4, .int (nI (i + 1))), (2, .long (f_tk S p (i + 1))), (8, .long (f_wm (s_tk S p i) (f_bx (s_tk S p i) i) (f_part (s_tk S p i) (f_bx (s_tk S p i) i) (f_fl (s_tk S p i) i p)))), (6, .long (f_part (s_tk S p i) (f_bx (s_tk S p i) i) (f_fl (s_tk S p i) i p))), (5, .int (nI (f_bx (s_tk S p i) i))), (0, .ref (o 0)), (1, .int (nI p))]) hx hb dX6_wellsGive_107 hl (k := 4) rfl (nI_1 _) (by decide) rfl (fun ls hl => ?_)
        refine lv_goto (tgt := 5) hx hb dX6_wellsGive_110 (by decide) ?_
        subst ez_4
        subst ez_3
        rw [show (hg_sl T1 2 (vp_updL (vp_updL (hg_l T1 2) 0 ((hg_l T1 2 0) + (f_part (s_tk S p i) (f_bx (s_tk S p i) i) (f_fl (s_tk S p i) i p)))) 1 (((vp_updL (hg_l T1 2) 0 ((hg_l T1 2 0) + (f_part (s_tk S p i) (f_bx (s_tk S p i) i) (f_fl (s_tk S p i) i p)))) 1) + (f_wm (s_tk S p i) (f_bx (s_tk S p i) i) (f_part (s_tk S p i) (f_bx (s_tk S p i) i) (f_fl (s_tk S p i) i p))))) : hg_S) = s_tk S p (i + 1) from (show _ = s_take (s_tk S p i) (f_bx (s_tk S p i) i) (f_fl (s_tk S p i) i p) from by rw [hT1]; rfl).trans (congrArg Prod.snd hk1).symm] at hP hD
        exact ih ls H locs (lv_sub hl [0, 1, 5, 6] rfl) hP hD hS
      · skip
        refine lv_aload_n hx hb dX6_wellsGive_56 rfl (lv_at hl 4 rfl) ?_
        refine va_get (C := RX6) (T := TX6) (N := 27) (v := .ref (o 10)) hx hb hts hi6 hown hK hP 0 rfl rfl 12 (by decide) (hts (.fieldLink RX6 38 "HotGroundModel" "mass" "[J") (by decide +kernel)) (fun _ h9 => h9) rfl dX6_wellsGive_57 ?_
        refine lv_iload hx hb dX6_wellsGive_60 (lv_at hl 1 rfl) ?_
        refine h_lald (f := hg_l (s_tk S p i) 0) hx hb hK hP 10 1 rfl rfl (f_bx (s_tk S p i) i) (rfl) (by omega) (by decide) dX6_wellsGive_62 ?_
        refine lv_goto (tgt := 68) hx hb dX6_wellsGive_63 (by decide) ?_
        refine h_topl (y := f_part (s_tk S p i) (f_bx (s_tk S p i) i) (f_fl (s_tk S p i) i p)) (by unfold f_part; rw [if_pos ((lg_cmp_gt _ _).mp (hg_nle.mp c_53))]) ?_
        refine lv_lstore (lv' := [(6, .long (f_part (s_tk S p i) (f_bx (s_tk S p i) i) (f_fl (s_tk S p i) i p))), (5, .int (nI (f_bx (s_tk S p i) i))), (4, .int (nI i)), (2, .long (f_tk S p i)), (0, .ref (o 0)), (1, .int (nI p))]) hx hb dX6_wellsGive_68 hl (by decide) rfl (fun ls hl => ?_)
        refine lv_aload_n hx hb dX6_wellsGive_70 rfl (lv_at hl 4 rfl) ?_
        refine lv_iload hx hb dX6_wellsGive_71 (lv_at hl 1 rfl) ?_
        refine lv_lload hx hb dX6_wellsGive_73 (lv_at hl 0 rfl) ?_
        refine h_calll (w1 := mW o cI cJ cZ (s_drain (s_tk S p i) (f_bx (s_tk S p i) i) (f_part (s_tk S p i) (f_bx (s_tk S p i) i) (f_fl (s_tk S p i) i p)) (f_wm (s_tk S p i) (f_bx (s_tk S p i) i) (f_part (s_tk S p i) (f_bx (s_tk S p i) i) (f_fl (s_tk S p i) i p))))) (va_runV (As := [.int (nI (f_bx (s_tk S p i) i)), .long (f_part (s_tk S p i) (f_bx (s_tk S p i) i) (f_fl (s_tk S p i) i p))]) (rest := []) ⟨hx, hb, hml, hown, hts⟩ (m_X6_goes l D o cI cJ cZ (s_tk S p i) H.size (f_bx (s_tk S p i) i) (by omega) (hms i _ (by omega) hb4) (f_part (s_tk S p i) (f_bx (s_tk S p i) i) (f_fl (s_tk S p i) i p))) (cwV 2 hts gX6_wellsGive_X6_goes rfl rfl rfl (by decide +kernel) ⟨Nat.le_of_ble_eq_true rfl, Nat.le_of_ble_eq_true rfl⟩) (h_preW hK hP hD 0 rfl rfl rfl) rfl rfl hl.1 rfl (lv_room (Nat.le_of_ble_eq_true rfl)) dX6_wellsGive_75 ⟨Nat.le_of_ble_eq_true rfl, Nat.le_of_ble_eq_true rfl⟩) hS (h_all hD hS hA) (fun r_5 H locs hr_5 hP hD hS => ?_)
        subst hr_5
        refine lv_lstore (lv' := [(8, .long (f_wm (s_tk S p i) (f_bx (s_tk S p i) i) (f_part (s_tk S p i) (f_bx (s_tk S p i) i) (f_fl (s_tk S p i) i p)))), (6, .long (f_part (s_tk S p i) (f_bx (s_tk S p i) i) (f_fl (s_tk S p i) i p))), (5, .int (nI (f_bx (s_tk S p i) i))), (4, .int (nI i)), (2, .long (f_tk S p i)), (0, .ref (o 0)), (1, .int (nI p))]) hx hb dX6_wellsGive_78 hl (by decide) rfl (fun ls hl => ?_)
        refine lv_lload_n hx hb dX6_wellsGive_80 rfl (lv_at hl 4 rfl) ?_
        refine lv_lload hx hb dX6_wellsGive_81 (lv_at hl 1 rfl) ?_
        refine lv_ladd hx hb dX6_wellsGive_83 ?_
        refine h_topl (y := f_tk S p (i + 1)) ((congrArg Prod.fst hk1).symm) ?_
        refine lv_lstore_n (lv' := [(2, .long (f_tk S p (i + 1))), (8, .long (f_wm (s_tk S p i) (f_bx (s_tk S p i) i) (f_part (s_tk S p i) (f_bx (s_tk S p i) i) (f_fl (s_tk S p i) i p)))), (6, .long (f_part (s_tk S p i) (f_bx (s_tk S p i) i) (f_fl (s_tk S p i) i p))), (5, .int (nI (f_bx (s_tk S p i) i))), (4, .int (nI i)), (0, .ref (o 0)), (1, .int (nI p))]) hx hb dX6_wellsGive_84 rfl hl (by decide) rfl (fun ls hl => ?_)
        obtain ⟨T1, hT1⟩ : ∃ y : hg_S, y = s_drain (s_tk S p i) (f_bx (s_tk S p i) i) (f_part (s_tk S p i) (f_bx (s_tk S p i) i) (f_fl (s_tk S p i) i p)) (f_wm (s_tk S p i) (f_bx (s_tk S p i) i) (f_part (s_tk S p i) (f_bx (s_tk S p i) i) (f_fl (s_tk S p i) i p))) := ⟨_, rfl⟩
        rw [← hT1] at hP hD
        refine lv_aload_n hx hb dX6_wellsGive_85 rfl (lv_at hl 5 rfl) ?_
        refine va_get (C := RX6) (T := TX6) (N := 27) (v := .ref (o 14)) hx hb hts hi6 hown hK hP 0 rfl rfl 18 (by decide) (hts (.fieldLink RX6 51 "HotGroundModel" "sums" "[J") (by decide +kernel)) (fun _ h9 => h9) rfl dX6_wellsGive_86 ?_
        refine lv_iconst (v := nI 0) hx hb dX6_wellsGive_89 (by decide) ?_
        refine lv_dup2_11 hx hb dX6_wellsGive_90 rfl rfl ?_
        refine h_lald (f := hg_l T1 2) hx hb hK hP 14 1 rfl rfl 0 (rfl) (by omega) (by decide) dX6_wellsGive_91 ?_
        refine lv_lload hx hb dX6_wellsGive_92 (lv_at hl 2 rfl) ?_
        refine lv_ladd hx hb dX6_wellsGive_94 ?_
        refine lv_topl (fun z_6 ez_6 => ?_)
        refine h_last (f := hg_l T1 2) (ws' := mW o cI cJ cZ (hg_sl T1 2 (vp_updL (hg_l T1 2) 0 z_6))) hx hb hK hP hD hS 14 1 rfl rfl 0 (rfl) (by omega) (by decide) rfl dX6_wellsGive_95 (fun H locs hP hD hS => ?_)
        refine lv_aload_n hx hb dX6_wellsGive_96 rfl (lv_at hl 5 rfl) ?_
        refine va_get (C := RX6) (T := TX6) (N := 27) (v := .ref (o 14)) hx hb hts hi6 hown hK hP 0 rfl rfl 18 (by decide) (hts (.fieldLink RX6 51 "HotGroundModel" "sums" "[J") (by decide +kernel)) (fun _ h9 => h9) rfl dX6_wellsGive_97 ?_
        refine lv_iconst (v := nI 1) hx hb dX6_wellsGive_100 (by decide) ?_
        refine lv_dup2_11 hx hb dX6_wellsGive_101 rfl rfl ?_
        refine h_lald (f := vp_updL (hg_l T1 2) 0 z_6) hx hb hK hP 14 1 rfl rfl 1 (rfl) (by omega) (by decide) dX6_wellsGive_102 ?_
        refine lv_lload hx hb dX6_wellsGive_103 (lv_at hl 1 rfl) ?_
        refine lv_ladd hx hb dX6_wellsGive_105 ?_
        refine lv_topl (fun z_7 ez_7 => ?_)
        refine h_last (f := vp_updL (hg_l T1 2) 0 z_6) (ws' := mW o cI cJ cZ (hg_sl T1 2 (vp_updL (vp_updL (hg_l T1 2) 0 z_6) 1 z_7))) hx hb hK hP hD hS 14 1 rfl rfl 1 (rfl) (by omega) (by decide) rfl dX6_wellsGive_106 (fun H locs hP hD hS => ?_)
        refine lv_iinc (v := nI (i + 1)) (lv' := [(4, .int (nI (i + 1))), (2, .long (f_tk S p (i + 1))), (8, .long (f_wm (s_tk S p i) (f_bx (s_tk S p i) i) (f_part (s_tk S p i) (f_bx (s_tk S p i) i) (f_fl (s_tk S p i) i p)))), (6, .long (f_part (s_tk S p i) (f_bx (s_tk S p i) i) (f_fl (s_tk S p i) i p))), (5, .int (nI (f_bx (s_tk S p i) i))), (0, .ref (o 0)), (1, .int (nI p))]) hx hb dX6_wellsGive_107 hl (k := 4) rfl (nI_1 _) (by decide) rfl (fun ls hl => ?_)
        refine lv_goto (tgt := 5) hx hb dX6_wellsGive_110 (by decide) ?_
        subst ez_7
        subst ez_6
        rw [show (hg_sl T1 2 (vp_updL (vp_updL (hg_l T1 2) 0 ((hg_l T1 2 0) + (f_part (s_tk S p i) (f_bx (s_tk S p i) i) (f_fl (s_tk S p i) i p)))) 1 (((vp_updL (hg_l T1 2) 0 ((hg_l T1 2 0) + (f_part (s_tk S p i) (f_bx (s_tk S p i) i) (f_fl (s_tk S p i) i p)))) 1) + (f_wm (s_tk S p i) (f_bx (s_tk S p i) i) (f_part (s_tk S p i) (f_bx (s_tk S p i) i) (f_fl (s_tk S p i) i p))))) : hg_S) = s_tk S p (i + 1) from (show _ = s_take (s_tk S p i) (f_bx (s_tk S p i) i) (f_fl (s_tk S p i) i p) from by rw [hT1]; rfl).trans (congrArg Prod.snd hk1).symm] at hP hD
        exact ih ls H locs (lv_sub hl [0, 1, 5, 6] rfl) hP hD hS
  · intro ls H locs hl hP hD hS
    have hl : lv_has ls 10 [(4, .int (nI (hg_n S 0))), (2, .long (f_tk S p (hg_n S 0))), (0, .ref (o 0)), (1, .int (nI p))] := hl
    refine lv_iload hx hb dX6_wellsGive_5 (lv_at hl 0 rfl) ?_
    refine lv_aload_n hx hb dX6_wellsGive_7 rfl (lv_at hl 2 rfl) ?_
    refine va_get (C := RX6) (T := TX6) (N := 27) (v := .int (nI (hg_n (s_tk S p (hg_n S 0)) 0))) hx hb hts hi6 hown hK hP 0 rfl rfl 0 (by decide) (hts (.fieldLink RX6 72 "HotGroundModel" "wells" "I") (by decide +kernel)) (fun _ h9 => h9) rfl dX6_wellsGive_8 ?_
    refine h_topi (y := nI (hg_n S 0)) (by rw [hn0]) ?_
    refine lv_icmp_ge (tgt := 113) hx hb dX6_wellsGive_11 (by decide) (fun c_11 => ?_) (fun c_11 => absurd (nI_le (Nat.le_refl _) (by omega)) c_11)
    refine lv_lload_n hx hb dX6_wellsGive_113 rfl (lv_at hl 1 rfl) ?_
    refine lv_aload_n hx hb dX6_wellsGive_114 rfl (lv_at hl 2 rfl) ?_
    refine va_get (C := RX6) (T := TX6) (N := 27) (v := .int (nI (hg_n (s_tk S p (hg_n S 0)) 2))) hx hb hts hi6 hown hK hP 0 rfl rfl 16 (by decide) (hts (.fieldLink RX6 113 "HotGroundModel" "givenShare" "I") (by decide +kernel)) (fun _ h9 => h9) rfl dX6_wellsGive_115 ?_
    refine lv_i2l (v := Int32.toInt64 (nI (hg_n (s_tk S p (hg_n S 0)) 2))) hx hb dX6_wellsGive_118 rfl ?_
    refine lv_lmul hx hb dX6_wellsGive_119 ?_
    refine lv_ldc2 (v := 1000) hx hb hown (hts (.constantLong RX6 123 (1000)) (by decide +kernel)) dX6_wellsGive_120 ?_
    refine lv_ldiv hx hb dX6_wellsGive_123 (by decide) ?_
    refine h_topl (y := f_given (s_tk S p (hg_n S 0)) (f_tk S p (hg_n S 0))) (rfl) ?_
    refine lv_lstore (lv' := [(4, .long (f_given (s_tk S p (hg_n S 0)) (f_tk S p (hg_n S 0)))), (2, .long (f_tk S p (hg_n S 0))), (0, .ref (o 0)), (1, .int (nI p))]) hx hb dX6_wellsGive_124 hl (by decide) rfl (fun ls hl => ?_)
    refine lv_aload_n hx hb dX6_wellsGive_126 rfl (lv_at hl 2 rfl) ?_
    refine lv_aload_n hx hb dX6_wellsGive_127 rfl (lv_at hl 2 rfl) ?_
    refine va_get (C := RX6) (T := TX6) (N := 27) (v := .int (nI (hg_n (s_tk S p (hg_n S 0)) 3))) hx hb hts hi6 hown hK hP 0 rfl rfl 17 (by decide) (hts (.fieldLink RX6 116 "HotGroundModel" "givenBox" "I") (by decide +kernel)) (fun _ h9 => h9) rfl dX6_wellsGive_128 ?_
    refine lv_lload hx hb dX6_wellsGive_131 (lv_at hl 0 rfl) ?_
    refine lv_ldc2 (v := 40) hx hb hown (hts (.constantLong RX6 125 (40)) (by decide +kernel)) dX6_wellsGive_133 ?_
    refine lv_lload hx hb dX6_wellsGive_136 (lv_at hl 0 rfl) ?_
    refine lv_lmul hx hb dX6_wellsGive_138 ?_
    refine h_topl (y := (f_given (s_tk S p (hg_n S 0)) (f_tk S p (hg_n S 0))) * 40) (Int64.mul_comm _ _) ?_
    have hg3T : hg_n (s_tk S p (hg_n S 0)) 3 < 4 := by rw [s_tk_n]; exact hg3
    refine h_callv (w1 := mW o cI cJ cZ (s_pour (s_tk S p (hg_n S 0)) (hg_n (s_tk S p (hg_n S 0)) 3) (f_given (s_tk S p (hg_n S 0)) (f_tk S p (hg_n S 0))) ((f_given (s_tk S p (hg_n S 0)) (f_tk S p (hg_n S 0))) * 40))) (va_runV (As := [.int (nI (hg_n (s_tk S p (hg_n S 0)) 3)), .long (f_given (s_tk S p (hg_n S 0)) (f_tk S p (hg_n S 0))), .long ((f_given (s_tk S p (hg_n S 0)) (f_tk S p (hg_n S 0))) * 40)]) (rest := []) ⟨hx, hb, hml, hown, hts⟩ (m_X6_comes l D o cI cJ cZ (s_tk S p (hg_n S 0)) H.size (hg_n (s_tk S p (hg_n S 0)) 3) (by omega) (f_given (s_tk S p (hg_n S 0)) (f_tk S p (hg_n S 0))) ((f_given (s_tk S p (hg_n S 0)) (f_tk S p (hg_n S 0))) * 40)) (cwV 3 hts gX6_wellsGive_X6_comes rfl rfl rfl (by decide +kernel) ⟨Nat.le_of_ble_eq_true rfl, Nat.le_of_ble_eq_true rfl⟩) (h_preW hK hP hD 0 rfl rfl rfl) rfl rfl hl.1 rfl (lv_room (Nat.le_of_ble_eq_true rfl)) dX6_wellsGive_139 ⟨Nat.le_of_ble_eq_true rfl, Nat.le_of_ble_eq_true rfl⟩) hS (h_all hD hS hA) (fun H locs hP hD hS => ?_)
    obtain ⟨T2, hT2⟩ : ∃ y : hg_S, y = s_pour (s_tk S p (hg_n S 0)) (hg_n (s_tk S p (hg_n S 0)) 3) (f_given (s_tk S p (hg_n S 0)) (f_tk S p (hg_n S 0))) ((f_given (s_tk S p (hg_n S 0)) (f_tk S p (hg_n S 0))) * 40) := ⟨_, rfl⟩
    rw [← hT2] at hP hD
    refine lv_aload_n hx hb dX6_wellsGive_142 rfl (lv_at hl 2 rfl) ?_
    refine va_get (C := RX6) (T := TX6) (N := 27) (v := .ref (o 14)) hx hb hts hi6 hown hK hP 0 rfl rfl 18 (by decide) (hts (.fieldLink RX6 51 "HotGroundModel" "sums" "[J") (by decide +kernel)) (fun _ h9 => h9) rfl dX6_wellsGive_143 ?_
    refine lv_iconst (v := nI 2) hx hb dX6_wellsGive_146 (by decide) ?_
    refine lv_dup2_11 hx hb dX6_wellsGive_147 rfl rfl ?_
    refine h_lald (f := hg_l T2 2) hx hb hK hP 14 1 rfl rfl 2 (rfl) (by omega) (by decide) dX6_wellsGive_148 ?_
    refine lv_lload hx hb dX6_wellsGive_149 (lv_at hl 0 rfl) ?_
    refine lv_ladd hx hb dX6_wellsGive_151 ?_
    refine lv_topl (fun z_8 ez_8 => ?_)
    refine h_last (f := hg_l T2 2) (ws' := mW o cI cJ cZ (hg_sl T2 2 (vp_updL (hg_l T2 2) 2 z_8))) hx hb hK hP hD hS 14 1 rfl rfl 2 (rfl) (by omega) (by decide) rfl dX6_wellsGive_152 (fun H locs hP hD hS => ?_)
    refine lv_aload_n hx hb dX6_wellsGive_153 rfl (lv_at hl 2 rfl) ?_
    refine va_get (C := RX6) (T := TX6) (N := 27) (v := .ref (o 14)) hx hb hts hi6 hown hK hP 0 rfl rfl 18 (by decide) (hts (.fieldLink RX6 51 "HotGroundModel" "sums" "[J") (by decide +kernel)) (fun _ h9 => h9) rfl dX6_wellsGive_154 ?_
    refine lv_iconst (v := nI 3) hx hb dX6_wellsGive_157 (by decide) ?_
    refine lv_dup2_11 hx hb dX6_wellsGive_158 rfl rfl ?_
    refine h_lald (f := vp_updL (hg_l T2 2) 2 z_8) hx hb hK hP 14 1 rfl rfl 3 (rfl) (by omega) (by decide) dX6_wellsGive_159 ?_
    refine lv_ldc2 (v := 40) hx hb hown (hts (.constantLong RX6 125 (40)) (by decide +kernel)) dX6_wellsGive_160 ?_
    refine lv_lload hx hb dX6_wellsGive_163 (lv_at hl 0 rfl) ?_
    refine lv_lmul hx hb dX6_wellsGive_165 ?_
    refine h_topl (y := (f_given (s_tk S p (hg_n S 0)) (f_tk S p (hg_n S 0))) * 40) (Int64.mul_comm _ _) ?_
    refine lv_ladd hx hb dX6_wellsGive_166 ?_
    refine lv_topl (fun z_9 ez_9 => ?_)
    refine h_last (f := vp_updL (hg_l T2 2) 2 z_8) (ws' := mW o cI cJ cZ (hg_sl T2 2 (vp_updL (vp_updL (hg_l T2 2) 2 z_8) 3 z_9))) hx hb hK hP hD hS 14 1 rfl rfl 3 (rfl) (by omega) (by decide) rfl dX6_wellsGive_167 (fun H locs hP hD hS => ?_)
    subst ez_9
    subst ez_8
    rw [show (hg_sl T2 2 (vp_updL (vp_updL (hg_l T2 2) 2 ((hg_l T2 2 2) + (f_given (s_tk S p (hg_n S 0)) (f_tk S p (hg_n S 0))))) 3 (((vp_updL (hg_l T2 2) 2 ((hg_l T2 2 2) + (f_given (s_tk S p (hg_n S 0)) (f_tk S p (hg_n S 0))))) 3) + ((f_given (s_tk S p (hg_n S 0)) (f_tk S p (hg_n S 0))) * 40))) : hg_S) = s_give (s_tk S p (hg_n S 0)) (f_tk S p (hg_n S 0)) from by rw [hT2]; rfl] at hP hD
    refine lv_aload_n hx hb dX6_wellsGive_168 rfl (lv_at hl 2 rfl) ?_
    refine va_get (C := RX6) (T := TX6) (N := 27) (v := .ref (o 14)) hx hb hts hi6 hown hK hP 0 rfl rfl 18 (by decide) (hts (.fieldLink RX6 51 "HotGroundModel" "sums" "[J") (by decide +kernel)) (fun _ h9 => h9) rfl dX6_wellsGive_169 ?_
    refine lv_bipush (v := nI 6) hx hb dX6_wellsGive_172 (by decide) ?_
    refine lv_dup2_11 hx hb dX6_wellsGive_174 rfl rfl ?_
    refine h_lald (f := hg_l (s_give (s_tk S p (hg_n S 0)) (f_tk S p (hg_n S 0))) 2) hx hb hK hP 14 1 rfl rfl 6 (rfl) (by omega) (by decide) dX6_wellsGive_175 ?_
    refine lv_aload_n hx hb dX6_wellsGive_176 rfl (lv_at hl 2 rfl) ?_
    refine lv_iload_n hx hb dX6_wellsGive_177 rfl (lv_at hl 3 rfl) ?_
    refine vp_callSi (va_Run.run (va_runV (As := [.int (nI p)]) (rest := [.long ((hg_l (s_give (s_tk S p (hg_n S 0)) (f_tk S p (hg_n S 0))) 2) 6), .int (nI 6), .ref (o 14)]) ⟨hx, hb, hml, hown, hts⟩ (m_X6_draw l D o cI cJ cZ (s_give (s_tk S p (hg_n S 0)) (f_tk S p (hg_n S 0))) (by first | exact h1 | (rw [s_give_n, s_tk_n]; exact h1)) p (by omega)) (cwV 1 hts gX6_wellsGive_X6_draw rfl rfl rfl (by decide +kernel) ⟨Nat.le_of_ble_eq_true rfl, Nat.le_of_ble_eq_true rfl⟩) (h_preR hK hP 0 rfl rfl rfl) rfl rfl hl.1 rfl (lv_room (Nat.le_of_ble_eq_true rfl)) dX6_wellsGive_178 ⟨Nat.le_of_ble_eq_true rfl, Nat.le_of_ble_eq_true rfl⟩)) (fun r_10 hr_10 => ?_)
    subst hr_10
    refine h_topi (y := f_draw S p) (by first | rfl | (exact f_draw_give S p)) ?_
    obtain ⟨T3, hT3⟩ : ∃ y : hg_S, y = s_give (s_tk S p (hg_n S 0)) (f_tk S p (hg_n S 0)) := ⟨_, rfl⟩
    rw [← hT3] at hP hD
    refine lv_i2l (v := Int32.toInt64 (f_draw S p)) hx hb dX6_wellsGive_181 rfl ?_
    refine lv_ladd hx hb dX6_wellsGive_182 ?_
    refine lv_topl (fun z_11 ez_11 => ?_)
    refine h_last (f := hg_l T3 2) (ws' := mW o cI cJ cZ (hg_sl T3 2 (vp_updL (hg_l T3 2) 6 z_11))) hx hb hK hP hD hS 14 1 rfl rfl 6 (rfl) (by omega) (by decide) rfl dX6_wellsGive_183 (fun H locs hP hD hS => ?_)
    subst ez_11
    rw [show (hg_sl T3 2 (vp_updL (hg_l T3 2) 6 (((hg_l (s_give (s_tk S p (hg_n S 0)) (f_tk S p (hg_n S 0))) 2) 6) + (Int32.toInt64 (f_draw S p)))) : hg_S) = s_prod S p from by rw [hT3]; exact s_prod_m S p] at hP hD
    exact W.vret hx hb hr (fun t ht hW => ⟨⟨(), rfl, trivial, ⟨by rw [ht]; exact hP, hD⟩⟩, hS.F ht⟩) hS.2.2 dX6_wellsGive_184
