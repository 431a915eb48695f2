set_option maxHeartbeats 4000000 in
set_option maxRecDepth 100000 in
/-- fill -/
theorem m_X5_fill (l : Launch) (D : va_G) (o : Nat → Nat) (cI cJ cZ : ClassId) (S : hg_S) (sz : Nat) (b a d : Int32) : Met l yX5_fill wsX5_fill ({ frames := 2, cells := 0, slots := 0, locals := 42 }) (va_Pc [.ref (o 0), .int b, .int a, .int d] (hg_Wr D (xW o cI cJ cZ S) (hg_ty cI cJ cZ) sz)) (va_Qi (fun (r : Int32) (_ : Unit) => r = (r_fill S b a d).1) (fun _ t => hg_At D (xW o cI cJ cZ ((r_fill S b a d).2)) (va_A (xW o cI cJ cZ S) sz) t) (va_A (xW o cI cJ cZ S) sz)) 0 0 (va_A (xW o cI cJ cZ S) sz) := by
  refine h_start (cc := cX5_fill) (maxL := 4) (ret := (some .int)) (by decide) rfl (Nat.le_of_ble_eq_true rfl) ?_
  intro pg ev s mi args below meth cd ls hx hb hr hts hown hlocks hml hnm hpic hl
  obtain ⟨hsz, hP, hK, hD0⟩ := hpic
  subst hsz
  have hD := hD0.self (sz := s.heap.size)
  generalize hAe : va_A (xW o cI cJ cZ S) s.heap.size = A at hD ⊢
  have hA : ∀ q : Nat, s.heap.size ≤ q → A q := fun q h => by rw [← hAe]; exact Or.inr h
  have hS : va_S A s.heap s.heap [] := va_S.rf
  have hi0 : ∀ w ∈ u_ws RX0 TX0 7, w ∈ wsX5_fill := by decide +kernel
  have hi5 : ∀ w ∈ u_ws RX5 TX5 6, w ∈ wsX5_fill := by decide +kernel
  have hl : lv_has ls 4 [(0, .ref (o 0)), (1, .int b), (2, .int a), (3, .int d)] := hl
  refine lv_iload_n hx hb dX5_fill_0 rfl (lv_at hl 1 rfl) ?_
  refine vp_callSi (va_Run.run (va_runS (As := [.int b]) (rest := []) ⟨hx, hb, hml, hown, hts⟩ (m_X5_isBox l b) (va_cwS 1 hts gX5_fill_X5_isBox rfl rfl rfl (by decide +kernel) ⟨Nat.le_of_ble_eq_true rfl, Nat.le_of_ble_eq_true rfl⟩) (h_preS0) rfl rfl hl.1 rfl (lv_room (Nat.le_of_ble_eq_true rfl)) dX5_fill_1 ⟨Nat.le_of_ble_eq_true rfl, Nat.le_of_ble_eq_true rfl⟩)) (fun r_1 hr_1 => ?_)
  subst hr_1
  refine lv_if_eq (tgt := 27) hx hb dX5_fill_4 (by decide) (fun c_4 => ?_) (fun c_4 => ?_)
  · skip
    have v_4 : ¬ ((nI 0) ≤ b ∧ b ≤ (nI 3)) := hg_in_f c_4
    refine lv_iconst (v := -1) hx hb dX5_fill_27 (by decide) ?_
    have hq : r_fill S b a d = ((-1), S) := by unfold r_fill; rw [if_neg (fun q => v_4 q.1)]
    rw [show (S : hg_S) = (r_fill S b a d).2 from by rw [hq]] at hP hD
    exact W.iret (v := (-1)) hx hb hr (fun t ht hW => ⟨⟨_, (), rfl, by rw [hq], ⟨by rw [ht]; exact hP, hD⟩⟩, hS.F ht⟩) hS.2.2 dX5_fill_28
  · skip
    have v_4 : ((nI 0) ≤ b ∧ b ≤ (nI 3)) := hg_in_t c_4
    refine lv_iload_n hx hb dX5_fill_7 rfl (lv_at hl 2 rfl) ?_
    refine lv_iconst (v := nI 0) hx hb dX5_fill_8 (by decide) ?_
    refine lv_ldc (v := 10000000) hx hb hown (hts (.constant RX5 118 (10000000)) (by decide +kernel)) dX5_fill_9 ?_
    refine h_topi (y := nI 10000000) (by decide) ?_
    refine vp_callSi (va_Run.run (va_runS (As := [.int a, .int (nI 0), .int (nI 10000000)]) (rest := []) ⟨hx, hb, hml, hown, hts⟩ (m_X5_within l a (nI 0) (nI 10000000)) (va_cwS 3 hts gX5_fill_X5_within rfl rfl rfl (by decide +kernel) ⟨Nat.le_of_ble_eq_true rfl, Nat.le_of_ble_eq_true rfl⟩) (h_preS0) rfl rfl hl.1 rfl (lv_room (Nat.le_of_ble_eq_true rfl)) dX5_fill_11 ⟨Nat.le_of_ble_eq_true rfl, Nat.le_of_ble_eq_true rfl⟩)) (fun r_2 hr_2 => ?_)
    subst hr_2
    refine lv_if_eq (tgt := 27) hx hb dX5_fill_14 (by decide) (fun c_14 => ?_) (fun c_14 => ?_)
    · skip
      have v_14 : ¬ ((nI 0) ≤ a ∧ a ≤ (nI 10000000)) := hg_in_f c_14
      refine lv_iconst (v := -1) hx hb dX5_fill_27 (by decide) ?_
      have hq : r_fill S b a d = ((-1), S) := by unfold r_fill; rw [if_neg (fun q => v_14 q.2.1)]
      rw [show (S : hg_S) = (r_fill S b a d).2 from by rw [hq]] at hP hD
      exact W.iret (v := (-1)) hx hb hr (fun t ht hW => ⟨⟨_, (), rfl, by rw [hq], ⟨by rw [ht]; exact hP, hD⟩⟩, hS.F ht⟩) hS.2.2 dX5_fill_28
    · skip
      have v_14 : ((nI 0) ≤ a ∧ a ≤ (nI 10000000)) := hg_in_t c_14
      refine lv_iload_n hx hb dX5_fill_17 rfl (lv_at hl 3 rfl) ?_
      refine lv_iconst (v := nI 0) hx hb dX5_fill_18 (by decide) ?_
      refine lv_ldc (v := 10000000) hx hb hown (hts (.constant RX5 118 (10000000)) (by decide +kernel)) dX5_fill_19 ?_
      refine h_topi (y := nI 10000000) (by decide) ?_
      refine vp_callSi (va_Run.run (va_runS (As := [.int d, .int (nI 0), .int (nI 10000000)]) (rest := []) ⟨hx, hb, hml, hown, hts⟩ (m_X5_within l d (nI 0) (nI 10000000)) (va_cwS 3 hts gX5_fill_X5_within rfl rfl rfl (by decide +kernel) ⟨Nat.le_of_ble_eq_true rfl, Nat.le_of_ble_eq_true rfl⟩) (h_preS0) rfl rfl hl.1 rfl (lv_room (Nat.le_of_ble_eq_true rfl)) dX5_fill_21 ⟨Nat.le_of_ble_eq_true rfl, Nat.le_of_ble_eq_true rfl⟩)) (fun r_3 hr_3 => ?_)
      subst hr_3
      refine lv_if_ne (tgt := 29) hx hb dX5_fill_24 (by decide) (fun c_24 => ?_) (fun c_24 => ?_)
      · skip
        have v_24 : ((nI 0) ≤ d ∧ d ≤ (nI 10000000)) := hg_in_t c_24
        obtain ⟨kb, kbl, kbh, rfl⟩ := hg_rng (by decide) (by decide) v_4
        refine lv_aload_n hx hb dX5_fill_29 rfl (lv_at hl 0 rfl) ?_
        refine va_get (C := RX5) (T := TX5) (N := 6) (v := .ref (o 3)) hx hb hts hi5 hown hK hP 0 rfl rfl 2 (by decide) (hts (.fieldLink RX5 26 "HotGround" "ground" "LHotGround$Ground;") (by decide +kernel)) (fun _ h9 => h9) rfl dX5_fill_30 ?_
        refine va_get (C := RX0) (T := TX0) (N := 7) (v := .ref (o 15)) hx hb hts hi0 hown hK hP 3 rfl rfl 0 (by decide) (hts (.fieldLink RX5 119 "HotGround$Ground" "mass" "[J") (by decide +kernel)) (fun _ h9 => h9) rfl dX5_fill_33 ?_
        refine lv_iload_n hx hb dX5_fill_36 rfl (lv_at hl 1 rfl) ?_
        refine lv_iload_n hx hb dX5_fill_37 rfl (lv_at hl 2 rfl) ?_
        refine lv_i2l (v := Int32.toInt64 a) hx hb dX5_fill_38 rfl ?_
        refine lv_topl (fun z_4 ez_4 => ?_)
        refine h_last (f := hg_l S 0) (ws' := xW o cI cJ cZ (hg_sl S 0 (vp_updL (hg_l S 0) kb z_4))) hx hb hK hP hD hS 15 1 rfl rfl kb (rfl) (by omega) (by decide) rfl dX5_fill_39 (fun H locs hP hD hS => ?_)
        refine lv_aload_n hx hb dX5_fill_40 rfl (lv_at hl 0 rfl) ?_
        refine va_get (C := RX5) (T := TX5) (N := 6) (v := .ref (o 3)) hx hb hts hi5 hown hK hP 0 rfl rfl 2 (by decide) (hts (.fieldLink RX5 26 "HotGround" "ground" "LHotGround$Ground;") (by decide +kernel)) (fun _ h9 => h9) rfl dX5_fill_41 ?_
        refine va_get (C := RX0) (T := TX0) (N := 7) (v := .ref (o 16)) hx hb hts hi0 hown hK hP 3 rfl rfl 1 (by decide) (hts (.fieldLink RX5 123 "HotGround$Ground" "heat" "[J") (by decide +kernel)) (fun _ h9 => h9) rfl dX5_fill_44 ?_
        refine lv_iload_n hx hb dX5_fill_47 rfl (lv_at hl 1 rfl) ?_
        refine lv_iload_n hx hb dX5_fill_48 rfl (lv_at hl 3 rfl) ?_
        refine lv_i2l (v := Int32.toInt64 d) hx hb dX5_fill_49 rfl ?_
        refine lv_topl (fun z_5 ez_5 => ?_)
        refine h_last (f := hg_l S 1) (ws' := xW o cI cJ cZ (hg_sl (hg_sl S 0 (vp_updL (hg_l S 0) kb z_4)) 1 (vp_updL (hg_l S 1) kb z_5))) hx hb hK hP hD hS 16 1 rfl rfl kb (rfl) (by omega) (by decide) rfl dX5_fill_50 (fun H locs hP hD hS => ?_)
        refine lv_iconst (v := nI 1) hx hb dX5_fill_51 (by decide) ?_
        subst ez_5
        subst ez_4
        have hq : r_fill S (nI kb) a d = (nI 1, hg_sl (hg_sl S 0 (vp_updL (hg_l S 0) kb (Int32.toInt64 a))) 1 (vp_updL (hg_l S 1) kb (Int32.toInt64 d))) := by unfold r_fill; rw [if_pos (⟨v_4, v_14, v_24⟩)]; (try rw [nI_clamp (show kb < 2 ^ 31 by omega)])
        rw [show (hg_sl (hg_sl S 0 (vp_updL (hg_l S 0) kb (Int32.toInt64 a))) 1 (vp_updL (hg_l S 1) kb (Int32.toInt64 d)) : hg_S) = (r_fill S (nI kb) a d).2 from by rw [hq]] at hP hD
        exact W.iret (v := nI 1) hx hb hr (fun t ht hW => ⟨⟨_, (), rfl, by rw [hq], ⟨by rw [ht]; exact hP, hD⟩⟩, hS.F ht⟩) hS.2.2 dX5_fill_52
      · skip
        have v_24 : ¬ ((nI 0) ≤ d ∧ d ≤ (nI 10000000)) := hg_in_f c_24
        refine lv_iconst (v := -1) hx hb dX5_fill_27 (by decide) ?_
        have hq : r_fill S b a d = ((-1), S) := by unfold r_fill; rw [if_neg (fun q => v_24 q.2.2)]
        rw [show (S : hg_S) = (r_fill S b a d).2 from by rw [hq]] at hP hD
        exact W.iret (v := (-1)) hx hb hr (fun t ht hW => ⟨⟨_, (), rfl, by rw [hq], ⟨by rw [ht]; exact hP, hD⟩⟩, hS.F ht⟩) hS.2.2 dX5_fill_28
set_option maxHeartbeats 4000000 in
set_option maxRecDepth 100000 in
/-- a leak -/
theorem m_X5_setLeak (l : Launch) (D : va_G) (o : Nat → Nat) (cI cJ cZ : ClassId) (S : hg_S) (sz : Nat) (w v : Int32) : Met l yX5_setLeak wsX5_setLeak ({ frames := 1, cells := 0, slots := 0, locals := 22 }) (va_Pc [.ref (o 0), .int w, .int v] (hg_Wr D (xW o cI cJ cZ S) (hg_ty cI cJ cZ) sz)) (va_Qi (fun (r : Int32) (_ : Unit) => r = (r_leak S w v).1) (fun _ t => hg_At D (xW o cI cJ cZ ((r_leak S w v).2)) (va_A (xW o cI cJ cZ S) sz) t) (va_A (xW o cI cJ cZ S) sz)) 0 0 (va_A (xW o cI cJ cZ S) sz) := by
  refine h_start (cc := cX5_setLeak) (maxL := 4) (ret := (some .int)) (by decide) rfl (Nat.le_of_ble_eq_true rfl) ?_
  intro pg ev s mi args below meth cd ls hx hb hr hts hown hlocks hml hnm hpic hl
  obtain ⟨hsz, hP, hK, hD0⟩ := hpic
  subst hsz
  have hD := hD0.self (sz := s.heap.size)
  generalize hAe : va_A (xW o cI cJ cZ S) s.heap.size = A at hD ⊢
  have hA : ∀ q : Nat, s.heap.size ≤ q → A q := fun q h => by rw [← hAe]; exact Or.inr h
  have hS : va_S A s.heap s.heap [] := va_S.rf
  have hi0 : ∀ w ∈ u_ws RX0 TX0 7, w ∈ wsX5_setLeak := by decide +kernel
  have hi5 : ∀ w ∈ u_ws RX5 TX5 6, w ∈ wsX5_setLeak := by decide +kernel
  have hl : lv_has ls 4 [(0, .ref (o 0)), (1, .int w), (2, .int v)] := hl
  refine lv_iload_n hx hb dX5_setLeak_0 rfl (lv_at hl 1 rfl) ?_
  refine lv_iconst (v := nI 0) hx hb dX5_setLeak_1 (by decide) ?_
  refine lv_iconst (v := nI 2) hx hb dX5_setLeak_2 (by decide) ?_
  refine vp_callSi (va_Run.run (va_runS (As := [.int w, .int (nI 0), .int (nI 2)]) (rest := []) ⟨hx, hb, hml, hown, hts⟩ (m_X5_within l w (nI 0) (nI 2)) (va_cwS 3 hts gX5_setLeak_X5_within rfl rfl rfl (by decide +kernel) ⟨Nat.le_of_ble_eq_true rfl, Nat.le_of_ble_eq_true rfl⟩) (h_preS0) rfl rfl hl.1 rfl (lv_room (Nat.le_of_ble_eq_true rfl)) dX5_setLeak_3 ⟨Nat.le_of_ble_eq_true rfl, Nat.le_of_ble_eq_true rfl⟩)) (fun r_1 hr_1 => ?_)
  subst hr_1
  refine lv_if_eq (tgt := 20) hx hb dX5_setLeak_6 (by decide) (fun c_6 => ?_) (fun c_6 => ?_)
  · skip
    have v_6 : ¬ ((nI 0) ≤ w ∧ w ≤ (nI 2)) := hg_in_f c_6
    refine lv_iconst (v := -1) hx hb dX5_setLeak_20 (by decide) ?_
    have hq : r_leak S w v = ((-1), S) := by unfold r_leak; rw [if_neg (fun q => v_6 q.1)]
    rw [show (S : hg_S) = (r_leak S w v).2 from by rw [hq]] at hP hD
    exact W.iret (v := (-1)) hx hb hr (fun t ht hW => ⟨⟨_, (), rfl, by rw [hq], ⟨by rw [ht]; exact hP, hD⟩⟩, hS.F ht⟩) hS.2.2 dX5_setLeak_21
  · skip
    have v_6 : ((nI 0) ≤ w ∧ w ≤ (nI 2)) := hg_in_t c_6
    refine lv_iload_n hx hb dX5_setLeak_9 rfl (lv_at hl 2 rfl) ?_
    refine lv_iconst (v := nI 2) hx hb dX5_setLeak_10 (by decide) ?_
    refine lv_sipush (v := nI 1000) hx hb dX5_setLeak_11 (by decide) ?_
    refine vp_callSi (va_Run.run (va_runS (As := [.int v, .int (nI 2), .int (nI 1000)]) (rest := []) ⟨hx, hb, hml, hown, hts⟩ (m_X5_within l v (nI 2) (nI 1000)) (va_cwS 3 hts gX5_setLeak_X5_within rfl rfl rfl (by decide +kernel) ⟨Nat.le_of_ble_eq_true rfl, Nat.le_of_ble_eq_true rfl⟩) (h_preS0) rfl rfl hl.1 rfl (lv_room (Nat.le_of_ble_eq_true rfl)) dX5_setLeak_14 ⟨Nat.le_of_ble_eq_true rfl, Nat.le_of_ble_eq_true rfl⟩)) (fun r_2 hr_2 => ?_)
    subst hr_2
    refine lv_if_ne (tgt := 22) hx hb dX5_setLeak_17 (by decide) (fun c_17 => ?_) (fun c_17 => ?_)
    · skip
      have v_17 : ((nI 2) ≤ v ∧ v ≤ (nI 1000)) := hg_in_t c_17
      obtain ⟨kw, kwl, kwh, rfl⟩ := hg_rng (by decide) (by decide) v_6
      refine lv_aload_n hx hb dX5_setLeak_22 rfl (lv_at hl 0 rfl) ?_
      refine va_get (C := RX5) (T := TX5) (N := 6) (v := .ref (o 3)) hx hb hts hi5 hown hK hP 0 rfl rfl 2 (by decide) (hts (.fieldLink RX5 26 "HotGround" "ground" "LHotGround$Ground;") (by decide +kernel)) (fun _ h9 => h9) rfl dX5_setLeak_23 ?_
      refine va_get (C := RX0) (T := TX0) (N := 7) (v := .ref (o 18)) hx hb hts hi0 hown hK hP 3 rfl rfl 3 (by decide) (hts (.fieldLink RX5 184 "HotGround$Ground" "leak" "[I") (by decide +kernel)) (fun _ h9 => h9) rfl dX5_setLeak_26 ?_
      refine lv_iload_n hx hb dX5_setLeak_29 rfl (lv_at hl 1 rfl) ?_
      refine h_iald (f := hg_i S 9) hx hb hK hP 18 0 rfl rfl kw (rfl) (by omega) (by decide) dX5_setLeak_30 ?_
      refine lv_istore_n (lv' := [(3, .int (hg_i S 9 kw)), (0, .ref (o 0)), (1, .int (nI kw)), (2, .int v)]) hx hb dX5_setLeak_31 rfl hl (by decide) rfl (fun ls hl => ?_)
      refine lv_aload_n hx hb dX5_setLeak_32 rfl (lv_at hl 1 rfl) ?_
      refine va_get (C := RX5) (T := TX5) (N := 6) (v := .ref (o 3)) hx hb hts hi5 hown hK hP 0 rfl rfl 2 (by decide) (hts (.fieldLink RX5 26 "HotGround" "ground" "LHotGround$Ground;") (by decide +kernel)) (fun _ h9 => h9) rfl dX5_setLeak_33 ?_
      refine va_get (C := RX0) (T := TX0) (N := 7) (v := .ref (o 18)) hx hb hts hi0 hown hK hP 3 rfl rfl 3 (by decide) (hts (.fieldLink RX5 184 "HotGround$Ground" "leak" "[I") (by decide +kernel)) (fun _ h9 => h9) rfl dX5_setLeak_36 ?_
      refine lv_iload_n hx hb dX5_setLeak_39 rfl (lv_at hl 2 rfl) ?_
      refine lv_iload_n hx hb dX5_setLeak_40 rfl (lv_at hl 3 rfl) ?_
      refine h_iast (f := hg_i S 9) (ws' := xW o cI cJ cZ (hg_si S 9 (upd (hg_i S 9) kw v))) hx hb hK hP hD hS 18 0 rfl rfl kw (rfl) (by omega) (by decide) rfl dX5_setLeak_41 (fun H locs hP hD hS => ?_)
      refine lv_iload_n hx hb dX5_setLeak_42 rfl (lv_at hl 0 rfl) ?_
      have hq : r_leak S (nI kw) v = (hg_i S 9 kw, hg_si S 9 (upd (hg_i S 9) kw v)) := by unfold r_leak; rw [if_pos (⟨v_6, v_17⟩)]; (try rw [nI_clamp (show kw < 2 ^ 31 by omega)])
      rw [show (hg_si S 9 (upd (hg_i S 9) kw v) : hg_S) = (r_leak S (nI kw) v).2 from by rw [hq]] at hP hD
      exact W.iret (v := hg_i S 9 kw) hx hb hr (fun t ht hW => ⟨⟨_, (), rfl, by rw [hq], ⟨by rw [ht]; exact hP, hD⟩⟩, hS.F ht⟩) hS.2.2 dX5_setLeak_43
    · skip
      have v_17 : ¬ ((nI 2) ≤ v ∧ v ≤ (nI 1000)) := hg_in_f c_17
      refine lv_iconst (v := -1) hx hb dX5_setLeak_20 (by decide) ?_
      have hq : r_leak S w v = ((-1), S) := by unfold r_leak; rw [if_neg (fun q => v_17 q.2)]
      rw [show (S : hg_S) = (r_leak S w v).2 from by rw [hq]] at hP hD
      exact W.iret (v := (-1)) hx hb hr (fun t ht hW => ⟨⟨_, (), rfl, by rw [hq], ⟨by rw [ht]; exact hP, hD⟩⟩, hS.F ht⟩) hS.2.2 dX5_setLeak_21
set_option maxHeartbeats 4000000 in
set_option maxRecDepth 100000 in
/-- a feed -/
theorem m_X5_setFeed (l : Launch) (D : va_G) (o : Nat → Nat) (cI cJ cZ : ClassId) (S : hg_S) (sz : Nat) (w v : Int32) : Met l yX5_setFeed wsX5_setFeed ({ frames := 2, cells := 0, slots := 0, locals := 42 }) (va_Pc [.ref (o 0), .int w, .int v] (hg_Wr D (xW o cI cJ cZ S) (hg_ty cI cJ cZ) sz)) (va_Qi (fun (r : Int32) (_ : Unit) => r = (r_feed S w v).1) (fun _ t => hg_At D (xW o cI cJ cZ ((r_feed S w v).2)) (va_A (xW o cI cJ cZ S) sz) t) (va_A (xW o cI cJ cZ S) sz)) 0 0 (va_A (xW o cI cJ cZ S) sz) := by
  refine h_start (cc := cX5_setFeed) (maxL := 4) (ret := (some .int)) (by decide) rfl (Nat.le_of_ble_eq_true rfl) ?_
  intro pg ev s mi args below meth cd ls hx hb hr hts hown hlocks hml hnm hpic hl
  obtain ⟨hsz, hP, hK, hD0⟩ := hpic
  subst hsz
  have hD := hD0.self (sz := s.heap.size)
  generalize hAe : va_A (xW o cI cJ cZ S) s.heap.size = A at hD ⊢
  have hA : ∀ q : Nat, s.heap.size ≤ q → A q := fun q h => by rw [← hAe]; exact Or.inr h
  have hS : va_S A s.heap s.heap [] := va_S.rf
  have hi0 : ∀ w ∈ u_ws RX0 TX0 7, w ∈ wsX5_setFeed := by decide +kernel
  have hi5 : ∀ w ∈ u_ws RX5 TX5 6, w ∈ wsX5_setFeed := by decide +kernel
  have hl : lv_has ls 4 [(0, .ref (o 0)), (1, .int w), (2, .int v)] := hl
  refine lv_iload_n hx hb dX5_setFeed_0 rfl (lv_at hl 1 rfl) ?_
  refine vp_callSi (va_Run.run (va_runS (As := [.int w]) (rest := []) ⟨hx, hb, hml, hown, hts⟩ (m_X5_isBox l w) (va_cwS 1 hts gX5_setFeed_X5_isBox rfl rfl rfl (by decide +kernel) ⟨Nat.le_of_ble_eq_true rfl, Nat.le_of_ble_eq_true rfl⟩) (h_preS0) rfl rfl hl.1 rfl (lv_room (Nat.le_of_ble_eq_true rfl)) dX5_setFeed_1 ⟨Nat.le_of_ble_eq_true rfl, Nat.le_of_ble_eq_true rfl⟩)) (fun r_1 hr_1 => ?_)
  subst hr_1
  refine lv_if_eq (tgt := 18) hx hb dX5_setFeed_4 (by decide) (fun c_4 => ?_) (fun c_4 => ?_)
  · skip
    have v_4 : ¬ ((nI 0) ≤ w ∧ w ≤ (nI 3)) := hg_in_f c_4
    refine lv_iconst (v := -1) hx hb dX5_setFeed_18 (by decide) ?_
    have hq : r_feed S w v = ((-1), S) := by unfold r_feed; rw [if_neg (fun q => v_4 q.1)]
    rw [show (S : hg_S) = (r_feed S w v).2 from by rw [hq]] at hP hD
    exact W.iret (v := (-1)) hx hb hr (fun t ht hW => ⟨⟨_, (), rfl, by rw [hq], ⟨by rw [ht]; exact hP, hD⟩⟩, hS.F ht⟩) hS.2.2 dX5_setFeed_19
  · skip
    have v_4 : ((nI 0) ≤ w ∧ w ≤ (nI 3)) := hg_in_t c_4
    refine lv_iload_n hx hb dX5_setFeed_7 rfl (lv_at hl 2 rfl) ?_
    refine lv_iconst (v := nI 0) hx hb dX5_setFeed_8 (by decide) ?_
    refine lv_sipush (v := nI 1000) hx hb dX5_setFeed_9 (by decide) ?_
    refine vp_callSi (va_Run.run (va_runS (As := [.int v, .int (nI 0), .int (nI 1000)]) (rest := []) ⟨hx, hb, hml, hown, hts⟩ (m_X5_within l v (nI 0) (nI 1000)) (va_cwS 3 hts gX5_setFeed_X5_within rfl rfl rfl (by decide +kernel) ⟨Nat.le_of_ble_eq_true rfl, Nat.le_of_ble_eq_true rfl⟩) (h_preS0) rfl rfl hl.1 rfl (lv_room (Nat.le_of_ble_eq_true rfl)) dX5_setFeed_12 ⟨Nat.le_of_ble_eq_true rfl, Nat.le_of_ble_eq_true rfl⟩)) (fun r_2 hr_2 => ?_)
    subst hr_2
    refine lv_if_ne (tgt := 20) hx hb dX5_setFeed_15 (by decide) (fun c_15 => ?_) (fun c_15 => ?_)
    · skip
      have v_15 : ((nI 0) ≤ v ∧ v ≤ (nI 1000)) := hg_in_t c_15
      obtain ⟨kw, kwl, kwh, rfl⟩ := hg_rng (by decide) (by decide) v_4
      refine lv_aload_n hx hb dX5_setFeed_20 rfl (lv_at hl 0 rfl) ?_
      refine va_get (C := RX5) (T := TX5) (N := 6) (v := .ref (o 3)) hx hb hts hi5 hown hK hP 0 rfl rfl 2 (by decide) (hts (.fieldLink RX5 26 "HotGround" "ground" "LHotGround$Ground;") (by decide +kernel)) (fun _ h9 => h9) rfl dX5_setFeed_21 ?_
      refine va_get (C := RX0) (T := TX0) (N := 7) (v := .ref (o 17)) hx hb hts hi0 hown hK hP 3 rfl rfl 2 (by decide) (hts (.fieldLink RX5 187 "HotGround$Ground" "feed" "[I") (by decide +kernel)) (fun _ h9 => h9) rfl dX5_setFeed_24 ?_
      refine lv_iload_n hx hb dX5_setFeed_27 rfl (lv_at hl 1 rfl) ?_
      refine h_iald (f := hg_i S 10) hx hb hK hP 17 0 rfl rfl kw (rfl) (by omega) (by decide) dX5_setFeed_28 ?_
      refine lv_istore_n (lv' := [(3, .int (hg_i S 10 kw)), (0, .ref (o 0)), (1, .int (nI kw)), (2, .int v)]) hx hb dX5_setFeed_29 rfl hl (by decide) rfl (fun ls hl => ?_)
      refine lv_aload_n hx hb dX5_setFeed_30 rfl (lv_at hl 1 rfl) ?_
      refine va_get (C := RX5) (T := TX5) (N := 6) (v := .ref (o 3)) hx hb hts hi5 hown hK hP 0 rfl rfl 2 (by decide) (hts (.fieldLink RX5 26 "HotGround" "ground" "LHotGround$Ground;") (by decide +kernel)) (fun _ h9 => h9) rfl dX5_setFeed_31 ?_
      refine va_get (C := RX0) (T := TX0) (N := 7) (v := .ref (o 17)) hx hb hts hi0 hown hK hP 3 rfl rfl 2 (by decide) (hts (.fieldLink RX5 187 "HotGround$Ground" "feed" "[I") (by decide +kernel)) (fun _ h9 => h9) rfl dX5_setFeed_34 ?_
      refine lv_iload_n hx hb dX5_setFeed_37 rfl (lv_at hl 2 rfl) ?_
      refine lv_iload_n hx hb dX5_setFeed_38 rfl (lv_at hl 3 rfl) ?_
      refine h_iast (f := hg_i S 10) (ws' := xW o cI cJ cZ (hg_si S 10 (upd (hg_i S 10) kw v))) hx hb hK hP hD hS 17 0 rfl rfl kw (rfl) (by omega) (by decide) rfl dX5_setFeed_39 (fun H locs hP hD hS => ?_)
      refine lv_iload_n hx hb dX5_setFeed_40 rfl (lv_at hl 0 rfl) ?_
      have hq : r_feed S (nI kw) v = (hg_i S 10 kw, hg_si S 10 (upd (hg_i S 10) kw v)) := by unfold r_feed; rw [if_pos (⟨v_4, v_15⟩)]; (try rw [nI_clamp (show kw < 2 ^ 31 by omega)])
      rw [show (hg_si S 10 (upd (hg_i S 10) kw v) : hg_S) = (r_feed S (nI kw) v).2 from by rw [hq]] at hP hD
      exact W.iret (v := hg_i S 10 kw) hx hb hr (fun t ht hW => ⟨⟨_, (), rfl, by rw [hq], ⟨by rw [ht]; exact hP, hD⟩⟩, hS.F ht⟩) hS.2.2 dX5_setFeed_41
    · skip
      have v_15 : ¬ ((nI 0) ≤ v ∧ v ≤ (nI 1000)) := hg_in_f c_15
      refine lv_iconst (v := -1) hx hb dX5_setFeed_18 (by decide) ?_
      have hq : r_feed S w v = ((-1), S) := by unfold r_feed; rw [if_neg (fun q => v_15 q.2)]
      rw [show (S : hg_S) = (r_feed S w v).2 from by rw [hq]] at hP hD
      exact W.iret (v := (-1)) hx hb hr (fun t ht hW => ⟨⟨_, (), rfl, by rw [hq], ⟨by rw [ht]; exact hP, hD⟩⟩, hS.F ht⟩) hS.2.2 dX5_setFeed_19
set_option maxHeartbeats 4000000 in
set_option maxRecDepth 100000 in
/-- the share given back -/
theorem m_X5_setGivenShare (l : Launch) (D : va_G) (o : Nat → Nat) (cI cJ cZ : ClassId) (S : hg_S) (sz : Nat) (v : Int32) : Met l yX5_setGivenShare wsX5_setGivenShare ({ frames := 1, cells := 0, slots := 0, locals := 22 }) (va_Pc [.ref (o 0), .int v] (hg_Wr D (xW o cI cJ cZ S) (hg_ty cI cJ cZ) sz)) (va_Qi (fun (r : Int32) (_ : Unit) => r = (r_gsh S v).1) (fun _ t => hg_At D (xW o cI cJ cZ ((r_gsh S v).2)) (va_A (xW o cI cJ cZ S) sz) t) (va_A (xW o cI cJ cZ S) sz)) 0 0 (va_A (xW o cI cJ cZ S) sz) := by
  refine h_start (cc := cX5_setGivenShare) (maxL := 3) (ret := (some .int)) (by decide) rfl (Nat.le_of_ble_eq_true rfl) ?_
  intro pg ev s mi args below meth cd ls hx hb hr hts hown hlocks hml hnm hpic hl
  obtain ⟨hsz, hP, hK, hD0⟩ := hpic
  subst hsz
  have hD := hD0.self (sz := s.heap.size)
  generalize hAe : va_A (xW o cI cJ cZ S) s.heap.size = A at hD ⊢
  have hA : ∀ q : Nat, s.heap.size ≤ q → A q := fun q h => by rw [← hAe]; exact Or.inr h
  have hS : va_S A s.heap s.heap [] := va_S.rf
  have hi0 : ∀ w ∈ u_ws RX0 TX0 7, w ∈ wsX5_setGivenShare := by decide +kernel
  have hi5 : ∀ w ∈ u_ws RX5 TX5 6, w ∈ wsX5_setGivenShare := by decide +kernel
  have hl : lv_has ls 3 [(0, .ref (o 0)), (1, .int v)] := hl
  refine lv_iload_n hx hb dX5_setGivenShare_0 rfl (lv_at hl 1 rfl) ?_
  refine lv_iconst (v := nI 0) hx hb dX5_setGivenShare_1 (by decide) ?_
  refine lv_sipush (v := nI 1000) hx hb dX5_setGivenShare_2 (by decide) ?_
  refine vp_callSi (va_Run.run (va_runS (As := [.int v, .int (nI 0), .int (nI 1000)]) (rest := []) ⟨hx, hb, hml, hown, hts⟩ (m_X5_within l v (nI 0) (nI 1000)) (va_cwS 3 hts gX5_setGivenShare_X5_within rfl rfl rfl (by decide +kernel) ⟨Nat.le_of_ble_eq_true rfl, Nat.le_of_ble_eq_true rfl⟩) (h_preS0) rfl rfl hl.1 rfl (lv_room (Nat.le_of_ble_eq_true rfl)) dX5_setGivenShare_5 ⟨Nat.le_of_ble_eq_true rfl, Nat.le_of_ble_eq_true rfl⟩)) (fun r_1 hr_1 => ?_)
  subst hr_1
  refine lv_if_ne (tgt := 13) hx hb dX5_setGivenShare_8 (by decide) (fun c_8 => ?_) (fun c_8 => ?_)
  · skip
    have v_8 : ((nI 0) ≤ v ∧ v ≤ (nI 1000)) := hg_in_t c_8
    obtain ⟨kv, kvl, kvh, rfl⟩ := hg_rng (by decide) (by decide) v_8
    refine lv_aload_n hx hb dX5_setGivenShare_13 rfl (lv_at hl 0 rfl) ?_
    refine va_get (C := RX5) (T := TX5) (N := 6) (v := .ref (o 3)) hx hb hts hi5 hown hK hP 0 rfl rfl 2 (by decide) (hts (.fieldLink RX5 26 "HotGround" "ground" "LHotGround$Ground;") (by decide +kernel)) (fun _ h9 => h9) rfl dX5_setGivenShare_14 ?_
    refine va_get (C := RX0) (T := TX0) (N := 7) (v := .int (nI (hg_n S 2))) hx hb hts hi0 hown hK hP 3 rfl rfl 4 (by decide) (hts (.fieldLink RX5 190 "HotGround$Ground" "givenShare" "I") (by decide +kernel)) (fun _ h9 => h9) rfl dX5_setGivenShare_17 ?_
    refine lv_istore_n (lv' := [(2, .int (nI (hg_n S 2))), (0, .ref (o 0)), (1, .int (nI kv))]) hx hb dX5_setGivenShare_20 rfl hl (by decide) rfl (fun ls hl => ?_)
    refine lv_aload_n hx hb dX5_setGivenShare_21 rfl (lv_at hl 1 rfl) ?_
    refine va_get (C := RX5) (T := TX5) (N := 6) (v := .ref (o 3)) hx hb hts hi5 hown hK hP 0 rfl rfl 2 (by decide) (hts (.fieldLink RX5 26 "HotGround" "ground" "LHotGround$Ground;") (by decide +kernel)) (fun _ h9 => h9) rfl dX5_setGivenShare_22 ?_
    refine lv_iload_n hx hb dX5_setGivenShare_25 rfl (lv_at hl 2 rfl) ?_
    refine h_put (C := RX0) (T := TX0) (N := 7) (v := .int (nI kv)) (ty := .int) (ws' := xW o cI cJ cZ (hg_sn S 2 kv)) hx hb hts hi0 tyX0 tyX0_ok nmX0 hown hK hP hD hS 3 rfl rfl 4 (by decide) (hts (.fieldLink RX5 190 "HotGround$Ground" "givenShare" "I") (by decide +kernel)) (fun _ h9 => h9) rfl (by decide +kernel) rfl rfl (Nat.le_of_ble_eq_true rfl) rfl dX5_setGivenShare_26 (fun H locs hP hD hS => ?_)
    refine lv_iload_n hx hb dX5_setGivenShare_29 rfl (lv_at hl 0 rfl) ?_
    have hq : r_gsh S (nI kv) = (nI (hg_n S 2), hg_sn S 2 kv) := by unfold r_gsh; rw [if_pos v_8]; (try rw [nI_clamp (show kv < 2 ^ 31 by omega)])
    rw [show (hg_sn S 2 kv : hg_S) = (r_gsh S (nI kv)).2 from by rw [hq]] at hP hD
    exact W.iret (v := nI (hg_n S 2)) hx hb hr (fun t ht hW => ⟨⟨_, (), rfl, by rw [hq], ⟨by rw [ht]; exact hP, hD⟩⟩, hS.F ht⟩) hS.2.2 dX5_setGivenShare_30
  · skip
    have v_8 : ¬ ((nI 0) ≤ v ∧ v ≤ (nI 1000)) := hg_in_f c_8
    refine lv_iconst (v := -1) hx hb dX5_setGivenShare_11 (by decide) ?_
    have hq : r_gsh S v = ((-1), S) := by unfold r_gsh; rw [if_neg (fun q => v_8 q)]
    rw [show (S : hg_S) = (r_gsh S v).2 from by rw [hq]] at hP hD
    exact W.iret (v := (-1)) hx hb hr (fun t ht hW => ⟨⟨_, (), rfl, by rw [hq], ⟨by rw [ht]; exact hP, hD⟩⟩, hS.F ht⟩) hS.2.2 dX5_setGivenShare_12
set_option maxHeartbeats 4000000 in
set_option maxRecDepth 100000 in
/-- the box given to -/
theorem m_X5_setGivenBox (l : Launch) (D : va_G) (o : Nat → Nat) (cI cJ cZ : ClassId) (S : hg_S) (sz : Nat) (v : Int32) : Met l yX5_setGivenBox wsX5_setGivenBox ({ frames := 2, cells := 0, slots := 0, locals := 42 }) (va_Pc [.ref (o 0), .int v] (hg_Wr D (xW o cI cJ cZ S) (hg_ty cI cJ cZ) sz)) (va_Qi (fun (r : Int32) (_ : Unit) => r = (r_gbx S v).1) (fun _ t => hg_At D (xW o cI cJ cZ ((r_gbx S v).2)) (va_A (xW o cI cJ cZ S) sz) t) (va_A (xW o cI cJ cZ S) sz)) 0 0 (va_A (xW o cI cJ cZ S) sz) := by
  refine h_start (cc := cX5_setGivenBox) (maxL := 3) (ret := (some .int)) (by decide) rfl (Nat.le_of_ble_eq_true rfl) ?_
  intro pg ev s mi args below meth cd ls hx hb hr hts hown hlocks hml hnm hpic hl
  obtain ⟨hsz, hP, hK, hD0⟩ := hpic
  subst hsz
  have hD := hD0.self (sz := s.heap.size)
  generalize hAe : va_A (xW o cI cJ cZ S) s.heap.size = A at hD ⊢
  have hA : ∀ q : Nat, s.heap.size ≤ q → A q := fun q h => by rw [← hAe]; exact Or.inr h
  have hS : va_S A s.heap s.heap [] := va_S.rf
  have hi0 : ∀ w ∈ u_ws RX0 TX0 7, w ∈ wsX5_setGivenBox := by decide +kernel
  have hi5 : ∀ w ∈ u_ws RX5 TX5 6, w ∈ wsX5_setGivenBox := by decide +kernel
  have hl : lv_has ls 3 [(0, .ref (o 0)), (1, .int v)] := hl
  refine lv_iload_n hx hb dX5_setGivenBox_0 rfl (lv_at hl 1 rfl) ?_
  refine vp_callSi (va_Run.run (va_runS (As := [.int v]) (rest := []) ⟨hx, hb, hml, hown, hts⟩ (m_X5_isBox l v) (va_cwS 1 hts gX5_setGivenBox_X5_isBox rfl rfl rfl (by decide +kernel) ⟨Nat.le_of_ble_eq_true rfl, Nat.le_of_ble_eq_true rfl⟩) (h_preS0) rfl rfl hl.1 rfl (lv_room (Nat.le_of_ble_eq_true rfl)) dX5_setGivenBox_1 ⟨Nat.le_of_ble_eq_true rfl, Nat.le_of_ble_eq_true rfl⟩)) (fun r_1 hr_1 => ?_)
  subst hr_1
  refine lv_if_ne (tgt := 9) hx hb dX5_setGivenBox_4 (by decide) (fun c_4 => ?_) (fun c_4 => ?_)
  · skip
    have v_4 : ((nI 0) ≤ v ∧ v ≤ (nI 3)) := hg_in_t c_4
    obtain ⟨kv, kvl, kvh, rfl⟩ := hg_rng (by decide) (by decide) v_4
    refine lv_aload_n hx hb dX5_setGivenBox_9 rfl (lv_at hl 0 rfl) ?_
    refine va_get (C := RX5) (T := TX5) (N := 6) (v := .ref (o 3)) hx hb hts hi5 hown hK hP 0 rfl rfl 2 (by decide) (hts (.fieldLink RX5 26 "HotGround" "ground" "LHotGround$Ground;") (by decide +kernel)) (fun _ h9 => h9) rfl dX5_setGivenBox_10 ?_
    refine va_get (C := RX0) (T := TX0) (N := 7) (v := .int (nI (hg_n S 3))) hx hb hts hi0 hown hK hP 3 rfl rfl 5 (by decide) (hts (.fieldLink RX5 193 "HotGround$Ground" "givenBox" "I") (by decide +kernel)) (fun _ h9 => h9) rfl dX5_setGivenBox_13 ?_
    refine lv_istore_n (lv' := [(2, .int (nI (hg_n S 3))), (0, .ref (o 0)), (1, .int (nI kv))]) hx hb dX5_setGivenBox_16 rfl hl (by decide) rfl (fun ls hl => ?_)
    refine lv_aload_n hx hb dX5_setGivenBox_17 rfl (lv_at hl 1 rfl) ?_
    refine va_get (C := RX5) (T := TX5) (N := 6) (v := .ref (o 3)) hx hb hts hi5 hown hK hP 0 rfl rfl 2 (by decide) (hts (.fieldLink RX5 26 "HotGround" "ground" "LHotGround$Ground;") (by decide +kernel)) (fun _ h9 => h9) rfl dX5_setGivenBox_18 ?_
    refine lv_iload_n hx hb dX5_setGivenBox_21 rfl (lv_at hl 2 rfl) ?_
    refine h_put (C := RX0) (T := TX0) (N := 7) (v := .int (nI kv)) (ty := .int) (ws' := xW o cI cJ cZ (hg_sn S 3 kv)) hx hb hts hi0 tyX0 tyX0_ok nmX0 hown hK hP hD hS 3 rfl rfl 5 (by decide) (hts (.fieldLink RX5 193 "HotGround$Ground" "givenBox" "I") (by decide +kernel)) (fun _ h9 => h9) rfl (by decide +kernel) rfl rfl (Nat.le_of_ble_eq_true rfl) rfl dX5_setGivenBox_22 (fun H locs hP hD hS => ?_)
    refine lv_iload_n hx hb dX5_setGivenBox_25 rfl (lv_at hl 0 rfl) ?_
    have hq : r_gbx S (nI kv) = (nI (hg_n S 3), hg_sn S 3 kv) := by unfold r_gbx; rw [if_pos v_4]; (try rw [nI_clamp (show kv < 2 ^ 31 by omega)])
    rw [show (hg_sn S 3 kv : hg_S) = (r_gbx S (nI kv)).2 from by rw [hq]] at hP hD
    exact W.iret (v := nI (hg_n S 3)) hx hb hr (fun t ht hW => ⟨⟨_, (), rfl, by rw [hq], ⟨by rw [ht]; exact hP, hD⟩⟩, hS.F ht⟩) hS.2.2 dX5_setGivenBox_26
  · skip
    have v_4 : ¬ ((nI 0) ≤ v ∧ v ≤ (nI 3)) := hg_in_f c_4
    refine lv_iconst (v := -1) hx hb dX5_setGivenBox_7 (by decide) ?_
    have hq : r_gbx S v = ((-1), S) := by unfold r_gbx; rw [if_neg (fun q => v_4 q)]
    rw [show (S : hg_S) = (r_gbx S v).2 from by rw [hq]] at hP hD
    exact W.iret (v := (-1)) hx hb hr (fun t ht hW => ⟨⟨_, (), rfl, by rw [hq], ⟨by rw [ht]; exact hP, hD⟩⟩, hS.F ht⟩) hS.2.2 dX5_setGivenBox_8
set_option maxHeartbeats 4000000 in
set_option maxRecDepth 100000 in
/-- set -/
theorem m_X5_set (l : Launch) (D : va_G) (o : Nat → Nat) (cI cJ cZ : ClassId) (S : hg_S) (sz : Nat) (q w v : Int32) : Met l yX5_set wsX5_set ({ frames := 3, cells := 0, slots := 0, locals := 65 }) (va_Pc [.ref (o 0), .int q, .int w, .int v] (hg_Wr D (xW o cI cJ cZ S) (hg_ty cI cJ cZ) sz)) (va_Qi (fun (r : Int32) (_ : Unit) => r = (r_set S q w v).1) (fun _ t => hg_At D (xW o cI cJ cZ ((r_set S q w v).2)) (va_A (xW o cI cJ cZ S) sz) t) (va_A (xW o cI cJ cZ S) sz)) 0 0 (va_A (xW o cI cJ cZ S) sz) := by
  refine h_start (cc := cX5_set) (maxL := 4) (ret := (some .int)) (by decide) rfl (Nat.le_of_ble_eq_true rfl) ?_
  intro pg ev s mi args below meth cd ls hx hb hr hts hown hlocks hml hnm hpic hl
  obtain ⟨hsz, hP, hK, hD0⟩ := hpic
  subst hsz
  have hD := hD0.self (sz := s.heap.size)
  generalize hAe : va_A (xW o cI cJ cZ S) s.heap.size = A at hD ⊢
  have hA : ∀ q : Nat, s.heap.size ≤ q → A q := fun q h => by rw [← hAe]; exact Or.inr h
  have hS : va_S A s.heap s.heap [] := va_S.rf
  have hl : lv_has ls 4 [(0, .ref (o 0)), (1, .int q), (2, .int w), (3, .int v)] := hl
  refine lv_iload_n hx hb dX5_set_0 rfl (lv_at hl 1 rfl) ?_
  by_cases e0 : q = nI 0
  · subst e0
    refine lv_tableIn (off := 27) (tgt := 28) hx hb dX5_set_1 (by decide) (by decide) (by decide) (by decide) ?_
    refine lv_aload_n hx hb dX5_set_28 rfl (lv_at hl 0 rfl) ?_
    refine lv_iload_n hx hb dX5_set_29 rfl (lv_at hl 2 rfl) ?_
    refine lv_iload_n hx hb dX5_set_30 rfl (lv_at hl 3 rfl) ?_
    refine h_calli (w1 := xW o cI cJ cZ ((r_leak S w v).2)) (va_runV (As := [.int w, .int v]) (rest := []) ⟨hx, hb, hml, hown, hts⟩ (m_X5_setLeak l D o cI cJ cZ S s.heap.size  w v) (cwV 2 hts gX5_set_X5_setLeak rfl rfl rfl (by decide +kernel) ⟨Nat.le_of_ble_eq_true rfl, Nat.le_of_ble_eq_true rfl⟩) (h_preW hK hP hD 0 rfl rfl rfl) rfl rfl hl.1 rfl (lv_room (Nat.le_of_ble_eq_true rfl)) dX5_set_31 ⟨Nat.le_of_ble_eq_true rfl, Nat.le_of_ble_eq_true rfl⟩) hS (h_all hD hS hA) (fun r_1 H locs hr_1 hP hD hS => ?_)
    subst hr_1
    have hq : r_set S (nI 0) w v = ((r_leak S w v).1, (r_leak S w v).2) := by unfold r_set; rw [if_pos rfl]
    rw [show ((r_leak S w v).2 : hg_S) = (r_set S (nI 0) w v).2 from by rw [hq]] at hP hD
    exact W.iret (v := (r_leak S w v).1) hx hb hr (fun t ht hW => ⟨⟨_, (), rfl, by rw [hq], ⟨by rw [ht]; exact hP, hD⟩⟩, hS.F ht⟩) hS.2.2 dX5_set_34
  · skip
    by_cases e1 : q = nI 1
    · subst e1
      refine lv_tableIn (off := 34) (tgt := 35) hx hb dX5_set_1 (by decide) (by decide) (by decide) (by decide) ?_
      refine lv_aload_n hx hb dX5_set_35 rfl (lv_at hl 0 rfl) ?_
      refine lv_iload_n hx hb dX5_set_36 rfl (lv_at hl 2 rfl) ?_
      refine lv_iload_n hx hb dX5_set_37 rfl (lv_at hl 3 rfl) ?_
      refine h_calli (w1 := xW o cI cJ cZ ((r_feed S w v).2)) (va_runV (As := [.int w, .int v]) (rest := []) ⟨hx, hb, hml, hown, hts⟩ (m_X5_setFeed l D o cI cJ cZ S s.heap.size  w v) (cwV 2 hts gX5_set_X5_setFeed rfl rfl rfl (by decide +kernel) ⟨Nat.le_of_ble_eq_true rfl, Nat.le_of_ble_eq_true rfl⟩) (h_preW hK hP hD 0 rfl rfl rfl) rfl rfl hl.1 rfl (lv_room (Nat.le_of_ble_eq_true rfl)) dX5_set_38 ⟨Nat.le_of_ble_eq_true rfl, Nat.le_of_ble_eq_true rfl⟩) hS (h_all hD hS hA) (fun r_2 H locs hr_2 hP hD hS => ?_)
      subst hr_2
      have hq : r_set S (nI 1) w v = ((r_feed S w v).1, (r_feed S w v).2) := by unfold r_set; rw [if_neg (by decide), if_pos rfl]
      rw [show ((r_feed S w v).2 : hg_S) = (r_set S (nI 1) w v).2 from by rw [hq]] at hP hD
      exact W.iret (v := (r_feed S w v).1) hx hb hr (fun t ht hW => ⟨⟨_, (), rfl, by rw [hq], ⟨by rw [ht]; exact hP, hD⟩⟩, hS.F ht⟩) hS.2.2 dX5_set_41
    · skip
      by_cases e2 : q = nI 2
      · subst e2
        by_cases g0 : w = nI 0
        · subst g0
          refine lv_tableIn (off := 41) (tgt := 42) hx hb dX5_set_1 (by decide) (by decide) (by decide) (by decide) ?_
          refine lv_iload_n hx hb dX5_set_42 rfl (lv_at hl 2 rfl) ?_
          refine lv_if_ne (tgt := 54) hx hb dX5_set_43 (by decide) (fun c_43 => absurd (by decide) c_43) (fun c_43 => ?_)
          refine lv_aload_n hx hb dX5_set_46 rfl (lv_at hl 0 rfl) ?_
          refine lv_iload_n hx hb dX5_set_47 rfl (lv_at hl 3 rfl) ?_
          refine h_calli (w1 := xW o cI cJ cZ ((r_gsh S v).2)) (va_runV (As := [.int v]) (rest := []) ⟨hx, hb, hml, hown, hts⟩ (m_X5_setGivenShare l D o cI cJ cZ S s.heap.size  v) (cwV 1 hts gX5_set_X5_setGivenShare rfl rfl rfl (by decide +kernel) ⟨Nat.le_of_ble_eq_true rfl, Nat.le_of_ble_eq_true rfl⟩) (h_preW hK hP hD 0 rfl rfl rfl) rfl rfl hl.1 rfl (lv_room (Nat.le_of_ble_eq_true rfl)) dX5_set_48 ⟨Nat.le_of_ble_eq_true rfl, Nat.le_of_ble_eq_true rfl⟩) hS (h_all hD hS hA) (fun r_3 H locs hr_3 hP hD hS => ?_)
          subst hr_3
          refine lv_goto (tgt := 68) hx hb dX5_set_51 (by decide) ?_
          have hq : r_set S (nI 2) (nI 0) v = ((r_gsh S v).1, (r_gsh S v).2) := by unfold r_set; rw [if_neg (by decide), if_neg (by decide), if_pos rfl, if_pos rfl]
          rw [show ((r_gsh S v).2 : hg_S) = (r_set S (nI 2) (nI 0) v).2 from by rw [hq]] at hP hD
          exact W.iret (v := (r_gsh S v).1) hx hb hr (fun t ht hW => ⟨⟨_, (), rfl, by rw [hq], ⟨by rw [ht]; exact hP, hD⟩⟩, hS.F ht⟩) hS.2.2 dX5_set_68
        · skip
          by_cases g1 : w = nI 1
          · subst g1
            refine lv_tableIn (off := 41) (tgt := 42) hx hb dX5_set_1 (by decide) (by decide) (by decide) (by decide) ?_
            refine lv_iload_n hx hb dX5_set_42 rfl (lv_at hl 2 rfl) ?_
            refine lv_if_ne (tgt := 54) hx hb dX5_set_43 (by decide) (fun c_43 => ?_) (fun c_43 => absurd c_43 (by decide))
            refine lv_iload_n hx hb dX5_set_54 rfl (lv_at hl 2 rfl) ?_
            refine lv_iconst (v := nI 1) hx hb dX5_set_55 (by decide) ?_
            refine lv_icmp_ne (tgt := 67) hx hb dX5_set_56 (by decide) (fun c_56 => absurd (by decide) c_56) (fun c_56 => ?_)
            refine lv_aload_n hx hb dX5_set_59 rfl (lv_at hl 0 rfl) ?_
            refine lv_iload_n hx hb dX5_set_60 rfl (lv_at hl 3 rfl) ?_
            refine h_calli (w1 := xW o cI cJ cZ ((r_gbx S v).2)) (va_runV (As := [.int v]) (rest := []) ⟨hx, hb, hml, hown, hts⟩ (m_X5_setGivenBox l D o cI cJ cZ S s.heap.size  v) (cwV 1 hts gX5_set_X5_setGivenBox rfl rfl rfl (by decide +kernel) ⟨Nat.le_of_ble_eq_true rfl, Nat.le_of_ble_eq_true rfl⟩) (h_preW hK hP hD 0 rfl rfl rfl) rfl rfl hl.1 rfl (lv_room (Nat.le_of_ble_eq_true rfl)) dX5_set_61 ⟨Nat.le_of_ble_eq_true rfl, Nat.le_of_ble_eq_true rfl⟩) hS (h_all hD hS hA) (fun r_4 H locs hr_4 hP hD hS => ?_)
            subst hr_4
            refine lv_goto (tgt := 68) hx hb dX5_set_64 (by decide) ?_
            have hq : r_set S (nI 2) (nI 1) v = ((r_gbx S v).1, (r_gbx S v).2) := by unfold r_set; rw [if_neg (by decide), if_neg (by decide), if_pos rfl, if_neg (by decide), if_pos rfl]
            rw [show ((r_gbx S v).2 : hg_S) = (r_set S (nI 2) (nI 1) v).2 from by rw [hq]] at hP hD
            exact W.iret (v := (r_gbx S v).1) hx hb hr (fun t ht hW => ⟨⟨_, (), rfl, by rw [hq], ⟨by rw [ht]; exact hP, hD⟩⟩, hS.F ht⟩) hS.2.2 dX5_set_68
          · skip
            refine lv_tableIn (off := 41) (tgt := 42) hx hb dX5_set_1 (by decide) (by decide) (by decide) (by decide) ?_
            refine lv_iload_n hx hb dX5_set_42 rfl (lv_at hl 2 rfl) ?_
            refine lv_if_ne (tgt := 54) hx hb dX5_set_43 (by decide) (fun c_43 => ?_) (fun c_43 => absurd c_43 (fun h => g0 (h.trans nI_0.symm)))
            refine lv_iload_n hx hb dX5_set_54 rfl (lv_at hl 2 rfl) ?_
            refine lv_iconst (v := nI 1) hx hb dX5_set_55 (by decide) ?_
            refine lv_icmp_ne (tgt := 67) hx hb dX5_set_56 (by decide) (fun c_56 => ?_) (fun c_56 => absurd c_56 (g1))
            refine lv_iconst (v := -1) hx hb dX5_set_67 (by decide) ?_
            have hq : r_set S (nI 2) w v = ((-1), S) := by unfold r_set; rw [if_neg (by decide), if_neg (by decide), if_pos rfl, if_neg g0, if_neg g1]
            rw [show (S : hg_S) = (r_set S (nI 2) w v).2 from by rw [hq]] at hP hD
            exact W.iret (v := (-1)) hx hb hr (fun t ht hW => ⟨⟨_, (), rfl, by rw [hq], ⟨by rw [ht]; exact hP, hD⟩⟩, hS.F ht⟩) hS.2.2 dX5_set_68
      · skip
        refine lv_tableOut (tgt := 69) hx hb dX5_set_1 (hg_out (n := 2) (by decide) (fun j hj => by rcases (show j = 0 ∨ j = 1 ∨ j = 2 by omega) with rfl | rfl | rfl <;> assumption)) (by decide) ?_
        refine lv_iconst (v := -1) hx hb dX5_set_69 (by decide) ?_
        have hq : r_set S q w v = ((-1), S) := by unfold r_set; rw [if_neg e0, if_neg e1, if_neg e2]
        rw [show (S : hg_S) = (r_set S q w v).2 from by rw [hq]] at hP hD
        exact W.iret (v := (-1)) hx hb hr (fun t ht hW => ⟨⟨_, (), rfl, by rw [hq], ⟨by rw [ht]; exact hP, hD⟩⟩, hS.F ht⟩) hS.2.2 dX5_set_70
set_option maxHeartbeats 4000000 in
set_option maxRecDepth 100000 in
/-- the wells take -/
theorem m_X5_takeAll (l : Launch) (D : va_G) (o : Nat → Nat) (cI cJ cZ : ClassId) (S : hg_S) (sz : Nat) (h0 : hg_n S 0 ≤ 8) (hbx : ok_bx S) (p : Nat) (hp : p ≤ 20) : Met l yX5_takeAll wsX5_takeAll ({ frames := 3, cells := 0, slots := 0, locals := 56 }) (va_Pc [.ref (o 0), .int (nI p)] (hg_Wr D (xW o cI cJ cZ S) (hg_ty cI cJ cZ) sz)) (va_Ql (fun (r : Int64) (_ : Unit) => r = f_tk S p (hg_n S 0)) (fun _ t => hg_At D (xW o cI cJ cZ (s_tk S p (hg_n S 0))) (va_A (xW o cI cJ cZ S) sz) t) (va_A (xW o cI cJ cZ S) sz)) 0 0 (va_A (xW o cI cJ cZ S) sz) := by
  refine h_start (cc := cX5_takeAll) (maxL := 5) (ret := (some .long)) (by decide) rfl (Nat.le_of_ble_eq_true rfl) ?_
  intro pg ev s mi args below meth cd ls hx hb hr hts hown hlocks hml hnm hpic hl
  obtain ⟨hsz, hP, hK, hD0⟩ := hpic
  subst hsz
  have hD := hD0.self (sz := s.heap.size)
  generalize hAe : va_A (xW o cI cJ cZ S) s.heap.size = A at hD ⊢
  have hA : ∀ q : Nat, s.heap.size ≤ q → A q := fun q h => by rw [← hAe]; exact Or.inr h
  have hS : va_S A s.heap s.heap [] := va_S.rf
  have hi4 : ∀ w ∈ u_ws RX4 TX4 6, w ∈ wsX5_takeAll := by decide +kernel
  have hi5 : ∀ w ∈ u_ws RX5 TX5 6, w ∈ wsX5_takeAll := by decide +kernel
  have hl : lv_has ls 5 [(0, .ref (o 0)), (1, .int (nI p))] := hl
  refine lv_lconst (v := 0) hx hb dX5_takeAll_0 (by decide) ?_
  refine lv_lstore_n (lv' := [(2, .long 0), (0, .ref (o 0)), (1, .int (nI p))]) hx hb dX5_takeAll_1 rfl hl (by decide) rfl (fun ls hl => ?_)
  refine lv_iconst (v := nI 0) hx hb dX5_takeAll_2 (by decide) ?_
  refine lv_istore (lv' := [(4, .int (nI 0)), (2, .long 0), (0, .ref (o 0)), (1, .int (nI p))]) hx hb dX5_takeAll_3 hl (by decide) rfl (fun ls hl => ?_)
  have hP : va_P D vwCl (xW o cI cJ cZ (s_tk S p 0)) s.heap := hP
  have hD : va_D A (xW o cI cJ cZ (s_tk S p 0)) := hD
  have hn0 : ∀ i, hg_n (s_tk S p i) 0 = hg_n S 0 := fun i => s_tk_n S p i 0
  refine h_forW (nL := 5) (hg_n S 0) (fun i => [(4, .int (nI i)), (2, .long (f_tk S p i)), (0, .ref (o 0)), (1, .int (nI p))]) (fun i => xW o cI cJ cZ (s_tk S p i)) ?_ ?_ (lv_sub hl [0, 1, 2, 3] rfl) hP hD hS
  · intro i ls H locs hi hl hP hD hS ih
    have hl : lv_has ls 5 [(4, .int (nI i)), (2, .long (f_tk S p i)), (0, .ref (o 0)), (1, .int (nI p))] := hl
    refine lv_iload hx hb dX5_takeAll_5 (lv_at hl 0 rfl) ?_
    refine lv_aload_n hx hb dX5_takeAll_7 rfl (lv_at hl 2 rfl) ?_
    refine va_get (C := RX5) (T := TX5) (N := 6) (v := .ref (o 1)) hx hb hts hi5 hown hK hP 0 rfl rfl 0 (by decide) (hts (.fieldLink RX5 10 "HotGround" "wells" "LHotGround$Wells;") (by decide +kernel)) (fun _ h9 => h9) rfl dX5_takeAll_8 ?_
    refine va_get (C := RX4) (T := TX4) (N := 6) (v := .int (nI (hg_n (s_tk S p i) 0))) hx hb hts hi4 hown hK hP 1 rfl rfl 0 (by decide) (hts (.fieldLink RX5 52 "HotGround$Wells" "count" "I") (by decide +kernel)) (fun _ h9 => h9) rfl dX5_takeAll_11 ?_
    refine h_topi (y := nI (hg_n S 0)) (by rw [hn0]) ?_
    refine lv_icmp_ge (tgt := 67) hx hb dX5_takeAll_14 (by decide) (fun c_14 => absurd c_14 (nI_ge hi (by omega))) (fun c_14 => ?_)
    refine lv_aload_n hx hb dX5_takeAll_17 rfl (lv_at hl 2 rfl) ?_
    refine va_get (C := RX5) (T := TX5) (N := 6) (v := .ref (o 1)) hx hb hts hi5 hown hK hP 0 rfl rfl 0 (by decide) (hts (.fieldLink RX5 10 "HotGround" "wells" "LHotGround$Wells;") (by decide +kernel)) (fun _ h9 => h9) rfl dX5_takeAll_18 ?_
    refine va_get (C := RX4) (T := TX4) (N := 6) (v := .ref (o 9)) hx hb hts hi4 hown hK hP 1 rfl rfl 4 (by decide) (hts (.fieldLink RX5 68 "HotGround$Wells" "open" "[Z") (by decide +kernel)) (fun _ h9 => h9) rfl dX5_takeAll_21 ?_
    refine lv_iload hx hb dX5_takeAll_24 (lv_at hl 0 rfl) ?_
    refine h_zald (f := hg_i (s_tk S p i) 3) hx hb hK hP 9 2 rfl rfl i (rfl) (by omega) (by decide) dX5_takeAll_26 ?_
    refine lv_if_eq (tgt := 61) hx hb dX5_takeAll_27 (by decide) (fun c_27 => ?_) (fun c_27 => ?_)
    · skip
      have hk1 : s_takes S p (i + 1) = s_takes S p i := if_pos c_27
      rw [show f_tk S p i = f_tk S p (i + 1) from (congrArg Prod.fst hk1).symm] at hl
      have hl : lv_has ls 5 [(4, .int (nI i)), (2, .long (f_tk S p (i + 1))), (0, .ref (o 0)), (1, .int (nI p))] := hl
      rw [show (s_tk S p i : hg_S) = s_tk S p (i + 1) from (congrArg Prod.snd hk1).symm] at hP hD
      refine lv_iinc (v := nI (i + 1)) (lv' := [(4, .int (nI (i + 1))), (2, .long (f_tk S p (i + 1))), (0, .ref (o 0)), (1, .int (nI p))]) hx hb dX5_takeAll_61 hl (k := 0) rfl (nI_1 _) (by decide) rfl (fun ls hl => ?_)
      refine lv_goto (tgt := 5) hx hb dX5_takeAll_64 (by decide) ?_
      exact ih ls H locs (lv_sub hl [0, 1, 2, 3] rfl) hP hD hS
    · skip
      have hk1 := show s_takes S p (i + 1) = (f_tk S p i + f_part (s_tk S p i) (f_bx (s_tk S p i) i) (f_fl (s_tk S p i) i p), s_take (s_tk S p i) (f_bx (s_tk S p i) i) (f_fl (s_tk S p i) i p)) from if_neg c_27
      refine lv_lload_n hx hb dX5_takeAll_30 rfl (lv_at hl 1 rfl) ?_
      refine lv_aload_n hx hb dX5_takeAll_31 rfl (lv_at hl 2 rfl) ?_
      refine va_get (C := RX5) (T := TX5) (N := 6) (v := .ref (o 3)) hx hb hts hi5 hown hK hP 0 rfl rfl 2 (by decide) (hts (.fieldLink RX5 26 "HotGround" "ground" "LHotGround$Ground;") (by decide +kernel)) (fun _ h9 => h9) rfl dX5_takeAll_32 ?_
      refine lv_aload_n hx hb dX5_takeAll_35 rfl (lv_at hl 2 rfl) ?_
      refine va_get (C := RX5) (T := TX5) (N := 6) (v := .ref (o 1)) hx hb hts hi5 hown hK hP 0 rfl rfl 0 (by decide) (hts (.fieldLink RX5 10 "HotGround" "wells" "LHotGround$Wells;") (by decide +kernel)) (fun _ h9 => h9) rfl dX5_takeAll_36 ?_
      refine va_get (C := RX4) (T := TX4) (N := 6) (v := .ref (o 7)) hx hb hts hi4 hown hK hP 1 rfl rfl 2 (by decide) (hts (.fieldLink RX5 89 "HotGround$Wells" "box" "[I") (by decide +kernel)) (fun _ h9 => h9) rfl dX5_takeAll_39 ?_
      refine lv_iload hx hb dX5_takeAll_42 (lv_at hl 0 rfl) ?_
      refine h_iald (f := hg_i (s_tk S p i) 1) hx hb hK hP 7 0 rfl rfl i (rfl) (by omega) (by decide) dX5_takeAll_44 ?_
      have hb4 := (hbx.tk p i).lt (show i < 8 by omega)
      refine h_topi (y := nI (f_bx (s_tk S p i) i)) ((hbx.tk p i).eq (by omega)) ?_
      refine lv_aload_n hx hb dX5_takeAll_45 rfl (lv_at hl 2 rfl) ?_
      refine va_get (C := RX5) (T := TX5) (N := 6) (v := .ref (o 1)) hx hb hts hi5 hown hK hP 0 rfl rfl 0 (by decide) (hts (.fieldLink RX5 10 "HotGround" "wells" "LHotGround$Wells;") (by decide +kernel)) (fun _ h9 => h9) rfl dX5_takeAll_46 ?_
      refine lv_iload hx hb dX5_takeAll_49 (lv_at hl 0 rfl) ?_
      refine lv_iload_n hx hb dX5_takeAll_51 rfl (lv_at hl 3 rfl) ?_
      refine vp_callSi (va_Run.run (va_runV (As := [.int (nI i), .int (nI p)]) (rest := [.int (nI (f_bx (s_tk S p i) i)), .ref (o 3), .long (f_tk S p i)]) ⟨hx, hb, hml, hown, hts⟩ (m_X4_fifths l D o cI cJ cZ (s_tk S p i) i p (by omega) (by omega)) (cwV 2 hts gX5_takeAll_X4_fifths rfl rfl rfl (by decide +kernel) ⟨Nat.le_of_ble_eq_true rfl, Nat.le_of_ble_eq_true rfl⟩) (h_preR hK hP 1 rfl rfl rfl) rfl rfl hl.1 rfl (lv_room (Nat.le_of_ble_eq_true rfl)) dX5_takeAll_52 ⟨Nat.le_of_ble_eq_true rfl, Nat.le_of_ble_eq_true rfl⟩)) (fun r_1 hr_1 => ?_)
      subst hr_1
      refine lv_i2l (v := Int32.toInt64 (f_flow (s_tk S p i) i p)) hx hb dX5_takeAll_55 rfl ?_
      refine h_topl (y := f_fl (s_tk S p i) i p) (rfl) ?_
      refine h_calll (w1 := xW o cI cJ cZ (s_take (s_tk S p i) (f_bx (s_tk S p i) i) (f_fl (s_tk S p i) i p))) (va_runV (As := [.int (nI (f_bx (s_tk S p i) i)), .long (f_fl (s_tk S p i) i p)]) (rest := [.long (f_tk S p i)]) ⟨hx, hb, hml, hown, hts⟩ (m_X0_take l D o cI cJ cZ (s_tk S p i) H.size (f_bx (s_tk S p i) i) (by omega) (f_fl (s_tk S p i) i p)) (cwV 2 hts gX5_takeAll_X0_take rfl rfl rfl (by decide +kernel) ⟨Nat.le_of_ble_eq_true rfl, Nat.le_of_ble_eq_true rfl⟩) (h_preW hK hP hD 3 rfl rfl rfl) rfl rfl hl.1 rfl (lv_room (Nat.le_of_ble_eq_true rfl)) dX5_takeAll_56 ⟨Nat.le_of_ble_eq_true rfl, Nat.le_of_ble_eq_true rfl⟩) hS (h_all hD hS hA) (fun r_2 H locs hr_2 hP hD hS => ?_)
      subst hr_2
      refine lv_ladd hx hb dX5_takeAll_59 ?_
      refine h_topl (y := f_tk S p (i + 1)) ((congrArg Prod.fst hk1).symm) ?_
      refine lv_lstore_n (lv' := [(2, .long (f_tk S p (i + 1))), (4, .int (nI i)), (0, .ref (o 0)), (1, .int (nI p))]) hx hb dX5_takeAll_60 rfl hl (by decide) rfl (fun ls hl => ?_)
      refine lv_iinc (v := nI (i + 1)) (lv' := [(4, .int (nI (i + 1))), (2, .long (f_tk S p (i + 1))), (0, .ref (o 0)), (1, .int (nI p))]) hx hb dX5_takeAll_61 hl (k := 1) rfl (nI_1 _) (by decide) rfl (fun ls hl => ?_)
      refine lv_goto (tgt := 5) hx hb dX5_takeAll_64 (by decide) ?_
      rw [show (s_take (s_tk S p i) (f_bx (s_tk S p i) i) (f_fl (s_tk S p i) i p) : hg_S) = s_tk S p (i + 1) from (congrArg Prod.snd hk1).symm] at hP hD
      exact ih ls H locs (lv_sub hl [0, 1, 2, 3] rfl) hP hD hS
  · intro ls H locs hl hP hD hS
    have hl : lv_has ls 5 [(4, .int (nI (hg_n S 0))), (2, .long (f_tk S p (hg_n S 0))), (0, .ref (o 0)), (1, .int (nI p))] := hl
    refine lv_iload hx hb dX5_takeAll_5 (lv_at hl 0 rfl) ?_
    refine lv_aload_n hx hb dX5_takeAll_7 rfl (lv_at hl 2 rfl) ?_
    refine va_get (C := RX5) (T := TX5) (N := 6) (v := .ref (o 1)) hx hb hts hi5 hown hK hP 0 rfl rfl 0 (by decide) (hts (.fieldLink RX5 10 "HotGround" "wells" "LHotGround$Wells;") (by decide +kernel)) (fun _ h9 => h9) rfl dX5_takeAll_8 ?_
    refine va_get (C := RX4) (T := TX4) (N := 6) (v := .int (nI (hg_n (s_tk S p (hg_n S 0)) 0))) hx hb hts hi4 hown hK hP 1 rfl rfl 0 (by decide) (hts (.fieldLink RX5 52 "HotGround$Wells" "count" "I") (by decide +kernel)) (fun _ h9 => h9) rfl dX5_takeAll_11 ?_
    refine h_topi (y := nI (hg_n S 0)) (by rw [hn0]) ?_
    refine lv_icmp_ge (tgt := 67) hx hb dX5_takeAll_14 (by decide) (fun c_14 => ?_) (fun c_14 => absurd (nI_le (Nat.le_refl _) (by omega)) c_14)
    refine lv_lload_n hx hb dX5_takeAll_67 rfl (lv_at hl 1 rfl) ?_
    exact W.lret (v := f_tk S p (hg_n S 0)) hx hb hr (fun t ht hW => ⟨⟨_, (), rfl, rfl, ⟨by rw [ht]; exact hP, hD⟩⟩, hS.F ht⟩) hS.2.2 dX5_takeAll_68
set_option maxHeartbeats 4000000 in
set_option maxRecDepth 100000 in
/-- a year -/
theorem m_X5_passYear (l : Launch) (D : va_G) (o : Nat → Nat) (cI cJ cZ : ClassId) (S : hg_S) (sz : Nat) (h0 : hg_n S 0 ≤ 8) (h1 : hg_n S 1 ≤ 4) (hg3 : hg_n S 3 < 4) (hbx : ok_bx S) (hlk : ok_lk S)  : Met l yX5_passYear wsX5_passYear ({ frames := 5, cells := 0, slots := 0, locals := 100 }) (va_Pc [.ref (o 0)] (hg_Wr D (xW o cI cJ cZ S) (hg_ty cI cJ cZ) sz)) (va_Qv (fun (_ : Unit) => True) (fun _ t => hg_At D (xW o cI cJ cZ (s_year S)) (va_A (xW o cI cJ cZ S) sz) t) (va_A (xW o cI cJ cZ S) sz)) 0 0 (va_A (xW o cI cJ cZ S) sz) := by
  refine h_start (cc := cX5_passYear) (maxL := 2) (ret := none) (by decide) rfl (Nat.le_of_ble_eq_true rfl) ?_
  intro pg ev s mi args below meth cd ls hx hb hr hts hown hlocks hml hnm hpic hl
  obtain ⟨hsz, hP, hK, hD0⟩ := hpic
  subst hsz
  have hD := hD0.self (sz := s.heap.size)
  generalize hAe : va_A (xW o cI cJ cZ S) s.heap.size = A at hD ⊢
  have hA : ∀ q : Nat, s.heap.size ≤ q → A q := fun q h => by rw [← hAe]; exact Or.inr h
  have hS : va_S A s.heap s.heap [] := va_S.rf
  have hi0 : ∀ w ∈ u_ws RX0 TX0 7, w ∈ wsX5_passYear := by decide +kernel
  have hi5 : ∀ w ∈ u_ws RX5 TX5 6, w ∈ wsX5_passYear := by decide +kernel
  have hl : lv_has ls 2 [(0, .ref (o 0))] := hl
  refine lv_aload_n hx hb dX5_passYear_0 rfl (lv_at hl 0 rfl) ?_
  refine vp_callSi (va_Run.run (va_runV (As := []) (rest := []) ⟨hx, hb, hml, hown, hts⟩ (m_X5_meeting l D o cI cJ cZ S h0 h1) (cwV 0 hts gX5_passYear_X5_meeting rfl rfl rfl (by decide +kernel) ⟨Nat.le_of_ble_eq_true rfl, Nat.le_of_ble_eq_true rfl⟩) (h_preR hK hP 0 rfl rfl rfl) rfl rfl hl.1 rfl (lv_room (Nat.le_of_ble_eq_true rfl)) dX5_passYear_1 ⟨Nat.le_of_ble_eq_true rfl, Nat.le_of_ble_eq_true rfl⟩)) (fun r_1 hr_1 => ?_)
  subst hr_1
  refine lv_istore_n (lv' := [(1, .int (f_point S)), (0, .ref (o 0))]) hx hb dX5_passYear_4 rfl hl (by decide) rfl (fun ls hl => ?_)
  refine lv_iload_n hx hb dX5_passYear_5 rfl (lv_at hl 0 rfl) ?_
  refine lv_bipush (v := -9) hx hb dX5_passYear_6 (by decide) ?_
  refine lv_icmp_ne (tgt := 28) hx hb dX5_passYear_8 (by decide) (fun c_8 => ?_) (fun c_8 => ?_)
  · skip
    obtain ⟨k, hk, ek⟩ := f_point_nat c_8
    rw [show f_point S = nI k from ek] at hl
    have hl : lv_has ls 2 [(1, .int (nI k)), (0, .ref (o 0))] := hl
    have hf : s_first S = s_prod S k := by unfold s_first; rw [if_neg c_8, ek, nI_clamp (by omega)]
    refine lv_aload_n hx hb dX5_passYear_28 rfl (lv_at hl 1 rfl) ?_
    refine va_get (C := RX5) (T := TX5) (N := 6) (v := .ref (o 3)) hx hb hts hi5 hown hK hP 0 rfl rfl 2 (by decide) (hts (.fieldLink RX5 26 "HotGround" "ground" "LHotGround$Ground;") (by decide +kernel)) (fun _ h9 => h9) rfl dX5_passYear_29 ?_
    refine va_get (C := RX0) (T := TX0) (N := 7) (v := .ref (o 19)) hx hb hts hi0 hown hK hP 3 rfl rfl 6 (by decide) (hts (.fieldLink RX5 141 "HotGround$Ground" "sums" "[J") (by decide +kernel)) (fun _ h9 => h9) rfl dX5_passYear_32 ?_
    refine lv_bipush (v := nI 6) hx hb dX5_passYear_35 (by decide) ?_
    refine lv_dup2_11 hx hb dX5_passYear_37 rfl rfl ?_
    refine h_lald (f := hg_l S 2) hx hb hK hP 19 1 rfl rfl 6 (rfl) (by omega) (by decide) dX5_passYear_38 ?_
    refine lv_aload_n hx hb dX5_passYear_39 rfl (lv_at hl 1 rfl) ?_
    refine va_get (C := RX5) (T := TX5) (N := 6) (v := .ref (o 2)) hx hb hts hi5 hown hK hP 0 rfl rfl 1 (by decide) (hts (.fieldLink RX5 19 "HotGround" "plant" "LHotGround$Plant;") (by decide +kernel)) (fun _ h9 => h9) rfl dX5_passYear_40 ?_
    refine lv_iload_n hx hb dX5_passYear_43 rfl (lv_at hl 0 rfl) ?_
    refine vp_callSi (va_Run.run (va_runV (As := [.int (nI k)]) (rest := [.long (hg_l S 2 6), .int (nI 6), .ref (o 19)]) ⟨hx, hb, hml, hown, hts⟩ (m_X3_draw l D o cI cJ cZ S h1 k (by omega)) (cwV 1 hts gX5_passYear_X3_draw rfl rfl rfl (by decide +kernel) ⟨Nat.le_of_ble_eq_true rfl, Nat.le_of_ble_eq_true rfl⟩) (h_preR hK hP 2 rfl rfl rfl) rfl rfl hl.1 rfl (lv_room (Nat.le_of_ble_eq_true rfl)) dX5_passYear_44 ⟨Nat.le_of_ble_eq_true rfl, Nat.le_of_ble_eq_true rfl⟩)) (fun r_2 hr_2 => ?_)
    subst hr_2
    refine lv_i2l (v := Int32.toInt64 (f_draw S k)) hx hb dX5_passYear_47 rfl ?_
    refine lv_ladd hx hb dX5_passYear_48 ?_
    refine lv_topl (fun z_3 ez_3 => ?_)
    refine h_last (f := hg_l S 2) (ws' := xW o cI cJ cZ (hg_sl S 2 (vp_updL (hg_l S 2) 6 z_3))) hx hb hK hP hD hS 19 1 rfl rfl 6 (rfl) (by omega) (by decide) rfl dX5_passYear_49 (fun H locs hP hD hS => ?_)
    subst ez_3
    have hP : va_P D vwCl (xW o cI cJ cZ (s_sold S k)) H := hP
    have hD : va_D A (xW o cI cJ cZ (s_sold S k)) := hD
    refine lv_aload_n hx hb dX5_passYear_50 rfl (lv_at hl 1 rfl) ?_
    refine va_get (C := RX5) (T := TX5) (N := 6) (v := .ref (o 3)) hx hb hts hi5 hown hK hP 0 rfl rfl 2 (by decide) (hts (.fieldLink RX5 26 "HotGround" "ground" "LHotGround$Ground;") (by decide +kernel)) (fun _ h9 => h9) rfl dX5_passYear_51 ?_
    refine lv_aload_n hx hb dX5_passYear_54 rfl (lv_at hl 1 rfl) ?_
    refine lv_iload_n hx hb dX5_passYear_55 rfl (lv_at hl 0 rfl) ?_
    refine h_calll (w1 := xW o cI cJ cZ (s_tk (s_sold S k) k (hg_n S 0))) (va_runV (As := [.int (nI k)]) (rest := [.ref (o 3)]) ⟨hx, hb, hml, hown, hts⟩ (m_X5_takeAll l D o cI cJ cZ (s_sold S k) H.size h0 (fun w hw => hbx w hw) k (by omega)) (cwV 1 hts gX5_passYear_X5_takeAll rfl rfl rfl (by decide +kernel) ⟨Nat.le_of_ble_eq_true rfl, Nat.le_of_ble_eq_true rfl⟩) (h_preW hK hP hD 0 rfl rfl rfl) rfl rfl hl.1 rfl (lv_room (Nat.le_of_ble_eq_true rfl)) dX5_passYear_56 ⟨Nat.le_of_ble_eq_true rfl, Nat.le_of_ble_eq_true rfl⟩) hS (h_all hD hS hA) (fun r_4 H locs hr_4 hP hD hS => ?_)
    subst hr_4
    refine h_callv (w1 := xW o cI cJ cZ (s_give (s_tk (s_sold S k) k (hg_n S 0)) (f_tk (s_sold S k) k (hg_n S 0)))) (va_runV (As := [.long (f_tk (s_sold S k) k (hg_n S 0))]) (rest := []) ⟨hx, hb, hml, hown, hts⟩ (m_X0_giveBack l D o cI cJ cZ (s_tk (s_sold S k) k (hg_n S 0)) H.size (by rw [s_tk_n]; exact hg3) (f_tk (s_sold S k) k (hg_n S 0))) (cwV 1 hts gX5_passYear_X0_giveBack rfl rfl rfl (by decide +kernel) ⟨Nat.le_of_ble_eq_true rfl, Nat.le_of_ble_eq_true rfl⟩) (h_preW hK hP hD 3 rfl rfl rfl) rfl rfl hl.1 rfl (lv_room (Nat.le_of_ble_eq_true rfl)) dX5_passYear_59 ⟨Nat.le_of_ble_eq_true rfl, Nat.le_of_ble_eq_true rfl⟩) hS (h_all hD hS hA) (fun H locs hP hD hS => ?_)
    rw [show (s_give (s_tk (s_sold S k) k (hg_n S 0)) (f_tk (s_sold S k) k (hg_n S 0)) : hg_S) = s_first S from hf.symm] at hP hD
    refine lv_aload_n hx hb dX5_passYear_62 rfl (lv_at hl 1 rfl) ?_
    refine va_get (C := RX5) (T := TX5) (N := 6) (v := .ref (o 3)) hx hb hts hi5 hown hK hP 0 rfl rfl 2 (by decide) (hts (.fieldLink RX5 26 "HotGround" "ground" "LHotGround$Ground;") (by decide +kernel)) (fun _ h9 => h9) rfl dX5_passYear_63 ?_
    refine h_callv (w1 := xW o cI cJ cZ (s_leaks (s_first S) 3)) (va_runV (As := []) (rest := []) ⟨hx, hb, hml, hown, hts⟩ (m_X0_leakAll l D o cI cJ cZ (s_first S) H.size hlk.first) (cwV 0 hts gX5_passYear_X0_leakAll rfl rfl rfl (by decide +kernel) ⟨Nat.le_of_ble_eq_true rfl, Nat.le_of_ble_eq_true rfl⟩) (h_preW hK hP hD 3 rfl rfl rfl) rfl rfl hl.1 rfl (lv_room (Nat.le_of_ble_eq_true rfl)) dX5_passYear_66 ⟨Nat.le_of_ble_eq_true rfl, Nat.le_of_ble_eq_true rfl⟩) hS (h_all hD hS hA) (fun H locs hP hD hS => ?_)
    refine lv_aload_n hx hb dX5_passYear_69 rfl (lv_at hl 1 rfl) ?_
    refine va_get (C := RX5) (T := TX5) (N := 6) (v := .ref (o 3)) hx hb hts hi5 hown hK hP 0 rfl rfl 2 (by decide) (hts (.fieldLink RX5 26 "HotGround" "ground" "LHotGround$Ground;") (by decide +kernel)) (fun _ h9 => h9) rfl dX5_passYear_70 ?_
    refine h_callv (w1 := xW o cI cJ cZ (s_feeds (s_leaks (s_first S) 3) 4)) (va_runV (As := []) (rest := []) ⟨hx, hb, hml, hown, hts⟩ (m_X0_feedAll l D o cI cJ cZ (s_leaks (s_first S) 3) H.size) (cwV 0 hts gX5_passYear_X0_feedAll rfl rfl rfl (by decide +kernel) ⟨Nat.le_of_ble_eq_true rfl, Nat.le_of_ble_eq_true rfl⟩) (h_preW hK hP hD 3 rfl rfl rfl) rfl rfl hl.1 rfl (lv_room (Nat.le_of_ble_eq_true rfl)) dX5_passYear_73 ⟨Nat.le_of_ble_eq_true rfl, Nat.le_of_ble_eq_true rfl⟩) hS (h_all hD hS hA) (fun H locs hP hD hS => ?_)
    refine lv_aload_n hx hb dX5_passYear_76 rfl (lv_at hl 1 rfl) ?_
    refine va_get (C := RX5) (T := TX5) (N := 6) (v := .ref (o 1)) hx hb hts hi5 hown hK hP 0 rfl rfl 0 (by decide) (hts (.fieldLink RX5 10 "HotGround" "wells" "LHotGround$Wells;") (by decide +kernel)) (fun _ h9 => h9) rfl dX5_passYear_77 ?_
    refine h_callv (w1 := xW o cI cJ cZ (s_grow (s_feeds (s_leaks (s_first S) 3) 4))) (va_runV (As := []) (rest := []) ⟨hx, hb, hml, hown, hts⟩ (m_X4_grow l D o cI cJ cZ (s_feeds (s_leaks (s_first S) 3) 4) H.size (by rw [s_feeds_n, s_leaks_n, s_first_n]; exact h0)) (cwV 0 hts gX5_passYear_X4_grow rfl rfl rfl (by decide +kernel) ⟨Nat.le_of_ble_eq_true rfl, Nat.le_of_ble_eq_true rfl⟩) (h_preW hK hP hD 1 rfl rfl rfl) rfl rfl hl.1 rfl (lv_room (Nat.le_of_ble_eq_true rfl)) dX5_passYear_80 ⟨Nat.le_of_ble_eq_true rfl, Nat.le_of_ble_eq_true rfl⟩) hS (h_all hD hS hA) (fun H locs hP hD hS => ?_)
    obtain ⟨T, hT⟩ : ∃ y : hg_S, y = s_grow (s_feeds (s_leaks (s_first S) 3) 4) := ⟨_, rfl⟩
    rw [← hT] at hP hD
    refine lv_aload_n hx hb dX5_passYear_83 rfl (lv_at hl 1 rfl) ?_
    refine va_get (C := RX5) (T := TX5) (N := 6) (v := .ref (o 3)) hx hb hts hi5 hown hK hP 0 rfl rfl 2 (by decide) (hts (.fieldLink RX5 26 "HotGround" "ground" "LHotGround$Ground;") (by decide +kernel)) (fun _ h9 => h9) rfl dX5_passYear_84 ?_
    refine va_get (C := RX0) (T := TX0) (N := 7) (v := .ref (o 19)) hx hb hts hi0 hown hK hP 3 rfl rfl 6 (by decide) (hts (.fieldLink RX5 141 "HotGround$Ground" "sums" "[J") (by decide +kernel)) (fun _ h9 => h9) rfl dX5_passYear_87 ?_
    refine lv_bipush (v := nI 7) hx hb dX5_passYear_90 (by decide) ?_
    refine lv_dup2_11 hx hb dX5_passYear_92 rfl rfl ?_
    refine h_lald (f := hg_l T 2) hx hb hK hP 19 1 rfl rfl 7 (rfl) (by omega) (by decide) dX5_passYear_93 ?_
    refine lv_lconst (v := 1) hx hb dX5_passYear_94 (by decide) ?_
    refine lv_ladd hx hb dX5_passYear_95 ?_
    refine lv_topl (fun z_5 ez_5 => ?_)
    refine h_last (f := hg_l T 2) (ws' := xW o cI cJ cZ (hg_sl T 2 (vp_updL (hg_l T 2) 7 z_5))) hx hb hK hP hD hS 19 1 rfl rfl 7 (rfl) (by omega) (by decide) rfl dX5_passYear_96 (fun H locs hP hD hS => ?_)
    subst ez_5
    rw [show (hg_sl T 2 (vp_updL (hg_l T 2) 7 ((hg_l T 2 7) + 1)) : hg_S) = s_year S from by rw [hT]; rfl] at hP hD
    exact W.vret hx hb hr (fun t ht hW => ⟨⟨(), rfl, trivial, ⟨by rw [ht]; exact hP, hD⟩⟩, hS.F ht⟩) hS.2.2 dX5_passYear_97
  · skip
    have hf : s_first S = s_add S 8 1 := if_pos c_8
    refine lv_aload_n hx hb dX5_passYear_11 rfl (lv_at hl 1 rfl) ?_
    refine va_get (C := RX5) (T := TX5) (N := 6) (v := .ref (o 3)) hx hb hts hi5 hown hK hP 0 rfl rfl 2 (by decide) (hts (.fieldLink RX5 26 "HotGround" "ground" "LHotGround$Ground;") (by decide +kernel)) (fun _ h9 => h9) rfl dX5_passYear_12 ?_
    refine va_get (C := RX0) (T := TX0) (N := 7) (v := .ref (o 19)) hx hb hts hi0 hown hK hP 3 rfl rfl 6 (by decide) (hts (.fieldLink RX5 141 "HotGround$Ground" "sums" "[J") (by decide +kernel)) (fun _ h9 => h9) rfl dX5_passYear_15 ?_
    refine lv_bipush (v := nI 8) hx hb dX5_passYear_18 (by decide) ?_
    refine lv_dup2_11 hx hb dX5_passYear_20 rfl rfl ?_
    refine h_lald (f := hg_l S 2) hx hb hK hP 19 1 rfl rfl 8 (rfl) (by omega) (by decide) dX5_passYear_21 ?_
    refine lv_lconst (v := 1) hx hb dX5_passYear_22 (by decide) ?_
    refine lv_ladd hx hb dX5_passYear_23 ?_
    refine lv_topl (fun z_6 ez_6 => ?_)
    refine h_last (f := hg_l S 2) (ws' := xW o cI cJ cZ (hg_sl S 2 (vp_updL (hg_l S 2) 8 z_6))) hx hb hK hP hD hS 19 1 rfl rfl 8 (rfl) (by omega) (by decide) rfl dX5_passYear_24 (fun H locs hP hD hS => ?_)
    refine lv_goto (tgt := 62) hx hb dX5_passYear_25 (by decide) ?_
    subst ez_6
    rw [show (hg_sl S 2 (vp_updL (hg_l S 2) 8 ((hg_l S 2 8) + 1)) : hg_S) = s_first S from hf.symm] at hP hD
    refine lv_aload_n hx hb dX5_passYear_62 rfl (lv_at hl 1 rfl) ?_
    refine va_get (C := RX5) (T := TX5) (N := 6) (v := .ref (o 3)) hx hb hts hi5 hown hK hP 0 rfl rfl 2 (by decide) (hts (.fieldLink RX5 26 "HotGround" "ground" "LHotGround$Ground;") (by decide +kernel)) (fun _ h9 => h9) rfl dX5_passYear_63 ?_
    refine h_callv (w1 := xW o cI cJ cZ (s_leaks (s_first S) 3)) (va_runV (As := []) (rest := []) ⟨hx, hb, hml, hown, hts⟩ (m_X0_leakAll l D o cI cJ cZ (s_first S) H.size hlk.first) (cwV 0 hts gX5_passYear_X0_leakAll rfl rfl rfl (by decide +kernel) ⟨Nat.le_of_ble_eq_true rfl, Nat.le_of_ble_eq_true rfl⟩) (h_preW hK hP hD 3 rfl rfl rfl) rfl rfl hl.1 rfl (lv_room (Nat.le_of_ble_eq_true rfl)) dX5_passYear_66 ⟨Nat.le_of_ble_eq_true rfl, Nat.le_of_ble_eq_true rfl⟩) hS (h_all hD hS hA) (fun H locs hP hD hS => ?_)
    refine lv_aload_n hx hb dX5_passYear_69 rfl (lv_at hl 1 rfl) ?_
    refine va_get (C := RX5) (T := TX5) (N := 6) (v := .ref (o 3)) hx hb hts hi5 hown hK hP 0 rfl rfl 2 (by decide) (hts (.fieldLink RX5 26 "HotGround" "ground" "LHotGround$Ground;") (by decide +kernel)) (fun _ h9 => h9) rfl dX5_passYear_70 ?_
    refine h_callv (w1 := xW o cI cJ cZ (s_feeds (s_leaks (s_first S) 3) 4)) (va_runV (As := []) (rest := []) ⟨hx, hb, hml, hown, hts⟩ (m_X0_feedAll l D o cI cJ cZ (s_leaks (s_first S) 3) H.size) (cwV 0 hts gX5_passYear_X0_feedAll rfl rfl rfl (by decide +kernel) ⟨Nat.le_of_ble_eq_true rfl, Nat.le_of_ble_eq_true rfl⟩) (h_preW hK hP hD 3 rfl rfl rfl) rfl rfl hl.1 rfl (lv_room (Nat.le_of_ble_eq_true rfl)) dX5_passYear_73 ⟨Nat.le_of_ble_eq_true rfl, Nat.le_of_ble_eq_true rfl⟩) hS (h_all hD hS hA) (fun H locs hP hD hS => ?_)
    refine lv_aload_n hx hb dX5_passYear_76 rfl (lv_at hl 1 rfl) ?_
    refine va_get (C := RX5) (T := TX5) (N := 6) (v := .ref (o 1)) hx hb hts hi5 hown hK hP 0 rfl rfl 0 (by decide) (hts (.fieldLink RX5 10 "HotGround" "wells" "LHotGround$Wells;") (by decide +kernel)) (fun _ h9 => h9) rfl dX5_passYear_77 ?_
    refine h_callv (w1 := xW o cI cJ cZ (s_grow (s_feeds (s_leaks (s_first S) 3) 4))) (va_runV (As := []) (rest := []) ⟨hx, hb, hml, hown, hts⟩ (m_X4_grow l D o cI cJ cZ (s_feeds (s_leaks (s_first S) 3) 4) H.size (by rw [s_feeds_n, s_leaks_n, s_first_n]; exact h0)) (cwV 0 hts gX5_passYear_X4_grow rfl rfl rfl (by decide +kernel) ⟨Nat.le_of_ble_eq_true rfl, Nat.le_of_ble_eq_true rfl⟩) (h_preW hK hP hD 1 rfl rfl rfl) rfl rfl hl.1 rfl (lv_room (Nat.le_of_ble_eq_true rfl)) dX5_passYear_80 ⟨Nat.le_of_ble_eq_true rfl, Nat.le_of_ble_eq_true rfl⟩) hS (h_all hD hS hA) (fun H locs hP hD hS => ?_)
    obtain ⟨T, hT⟩ : ∃ y : hg_S, y = s_grow (s_feeds (s_leaks (s_first S) 3) 4) := ⟨_, rfl⟩
    rw [← hT] at hP hD
    refine lv_aload_n hx hb dX5_passYear_83 rfl (lv_at hl 1 rfl) ?_
    refine va_get (C := RX5) (T := TX5) (N := 6) (v := .ref (o 3)) hx hb hts hi5 hown hK hP 0 rfl rfl 2 (by decide) (hts (.fieldLink RX5 26 "HotGround" "ground" "LHotGround$Ground;") (by decide +kernel)) (fun _ h9 => h9) rfl dX5_passYear_84 ?_
    refine va_get (C := RX0) (T := TX0) (N := 7) (v := .ref (o 19)) hx hb hts hi0 hown hK hP 3 rfl rfl 6 (by decide) (hts (.fieldLink RX5 141 "HotGround$Ground" "sums" "[J") (by decide +kernel)) (fun _ h9 => h9) rfl dX5_passYear_87 ?_
    refine lv_bipush (v := nI 7) hx hb dX5_passYear_90 (by decide) ?_
    refine lv_dup2_11 hx hb dX5_passYear_92 rfl rfl ?_
    refine h_lald (f := hg_l T 2) hx hb hK hP 19 1 rfl rfl 7 (rfl) (by omega) (by decide) dX5_passYear_93 ?_
    refine lv_lconst (v := 1) hx hb dX5_passYear_94 (by decide) ?_
    refine lv_ladd hx hb dX5_passYear_95 ?_
    refine lv_topl (fun z_7 ez_7 => ?_)
    refine h_last (f := hg_l T 2) (ws' := xW o cI cJ cZ (hg_sl T 2 (vp_updL (hg_l T 2) 7 z_7))) hx hb hK hP hD hS 19 1 rfl rfl 7 (rfl) (by omega) (by decide) rfl dX5_passYear_96 (fun H locs hP hD hS => ?_)
    subst ez_7
    rw [show (hg_sl T 2 (vp_updL (hg_l T 2) 7 ((hg_l T 2 7) + 1)) : hg_S) = s_year S from by rw [hT]; rfl] at hP hD
    exact W.vret hx hb hr (fun t ht hW => ⟨⟨(), rfl, trivial, ⟨by rw [ht]; exact hP, hD⟩⟩, hS.F ht⟩) hS.2.2 dX5_passYear_97
set_option maxHeartbeats 4000000 in
set_option maxRecDepth 100000 in
/-- year -/
theorem m_X5_year (l : Launch) (D : va_G) (o : Nat → Nat) (cI cJ cZ : ClassId) (S : hg_S) (sz : Nat) (h0 : hg_n S 0 ≤ 8) (h1 : hg_n S 1 ≤ 4) (hg3 : hg_n S 3 < 4) (hbx : ok_bx S) (hlk : ok_lk S) (n : Int32) : Met l yX5_year wsX5_year ({ frames := 6, cells := 0, slots := 0, locals := 121 }) (va_Pc [.ref (o 0), .int n] (hg_Wr D (xW o cI cJ cZ S) (hg_ty cI cJ cZ) sz)) (va_Qi (fun (r : Int32) (_ : Unit) => r = (r_year S n).1) (fun _ t => hg_At D (xW o cI cJ cZ ((r_year S n).2)) (va_A (xW o cI cJ cZ S) sz) t) (va_A (xW o cI cJ cZ S) sz)) 0 0 (va_A (xW o cI cJ cZ S) sz) := by
  refine h_start (cc := cX5_year) (maxL := 3) (ret := (some .int)) (by decide) rfl (Nat.le_of_ble_eq_true rfl) ?_
  intro pg ev s mi args below meth cd ls hx hb hr hts hown hlocks hml hnm hpic hl
  obtain ⟨hsz, hP, hK, hD0⟩ := hpic
  subst hsz
  have hD := hD0.self (sz := s.heap.size)
  generalize hAe : va_A (xW o cI cJ cZ S) s.heap.size = A at hD ⊢
  have hA : ∀ q : Nat, s.heap.size ≤ q → A q := fun q h => by rw [← hAe]; exact Or.inr h
  have hS : va_S A s.heap s.heap [] := va_S.rf
  have hi0 : ∀ w ∈ u_ws RX0 TX0 7, w ∈ wsX5_year := by decide +kernel
  have hi5 : ∀ w ∈ u_ws RX5 TX5 6, w ∈ wsX5_year := by decide +kernel
  have hl : lv_has ls 3 [(0, .ref (o 0)), (1, .int n)] := hl
  refine lv_iload_n hx hb dX5_year_0 rfl (lv_at hl 1 rfl) ?_
  refine lv_iconst (v := nI 1) hx hb dX5_year_1 (by decide) ?_
  refine lv_bipush (v := nI 20) hx hb dX5_year_2 (by decide) ?_
  refine vp_callSi (va_Run.run (va_runS (As := [.int n, .int (nI 1), .int (nI 20)]) (rest := []) ⟨hx, hb, hml, hown, hts⟩ (m_X5_within l n (nI 1) (nI 20)) (va_cwS 3 hts gX5_year_X5_within rfl rfl rfl (by decide +kernel) ⟨Nat.le_of_ble_eq_true rfl, Nat.le_of_ble_eq_true rfl⟩) (h_preS0) rfl rfl hl.1 rfl (lv_room (Nat.le_of_ble_eq_true rfl)) dX5_year_4 ⟨Nat.le_of_ble_eq_true rfl, Nat.le_of_ble_eq_true rfl⟩)) (fun r_1 hr_1 => ?_)
  subst hr_1
  refine lv_if_ne (tgt := 12) hx hb dX5_year_7 (by decide) (fun c_7 => ?_) (fun c_7 => ?_)
  · skip
    have v_7 : ((nI 1) ≤ n ∧ n ≤ (nI 20)) := hg_in_t c_7
    obtain ⟨kn, knl, knh, rfl⟩ := hg_rng (by decide) (by decide) v_7
    refine lv_iconst (v := nI 0) hx hb dX5_year_12 (by decide) ?_
    refine lv_istore_n (lv' := [(2, .int (nI 0)), (0, .ref (o 0)), (1, .int (nI kn))]) hx hb dX5_year_13 rfl hl (by decide) rfl (fun ls hl => ?_)
    have hP : va_P D vwCl (xW o cI cJ cZ (s_years S 0)) s.heap := hP
    have hD : va_D A (xW o cI cJ cZ (s_years S 0)) := hD
    refine h_forW (nL := 3) (kn) (fun i => [(2, .int (nI i)), (0, .ref (o 0)), (1, .int (nI kn))]) (fun i => xW o cI cJ cZ (s_years S i)) ?_ ?_ (lv_sub hl [0, 1, 2] rfl) hP hD hS
    · intro i ls H locs hi hl hP hD hS ih
      have hl : lv_has ls 3 [(2, .int (nI i)), (0, .ref (o 0)), (1, .int (nI kn))] := hl
      refine lv_iload_n hx hb dX5_year_14 rfl (lv_at hl 0 rfl) ?_
      refine lv_iload_n hx hb dX5_year_15 rfl (lv_at hl 2 rfl) ?_
      refine lv_icmp_ge (tgt := 29) hx hb dX5_year_16 (by decide) (fun c_16 => absurd c_16 (nI_ge hi (by omega))) (fun c_16 => ?_)
      refine lv_aload_n hx hb dX5_year_19 rfl (lv_at hl 1 rfl) ?_
      refine h_callv (w1 := xW o cI cJ cZ (s_year (s_years S i))) (va_runV (As := []) (rest := []) ⟨hx, hb, hml, hown, hts⟩ (m_X5_passYear l D o cI cJ cZ (s_years S i) H.size (by rw [s_years_n]; exact h0) (by rw [s_years_n]; exact h1) (by rw [s_years_n]; exact hg3) (hbx.years i) (hlk.years i)) (cwV 0 hts gX5_year_X5_passYear rfl rfl rfl (by decide +kernel) ⟨Nat.le_of_ble_eq_true rfl, Nat.le_of_ble_eq_true rfl⟩) (h_preW hK hP hD 0 rfl rfl rfl) rfl rfl hl.1 rfl (lv_room (Nat.le_of_ble_eq_true rfl)) dX5_year_20 ⟨Nat.le_of_ble_eq_true rfl, Nat.le_of_ble_eq_true rfl⟩) hS (h_all hD hS hA) (fun H locs hP hD hS => ?_)
      refine lv_iinc (v := nI (i + 1)) (lv' := [(2, .int (nI (i + 1))), (0, .ref (o 0)), (1, .int (nI kn))]) hx hb dX5_year_23 hl (k := 0) rfl (nI_1 _) (by decide) rfl (fun ls hl => ?_)
      refine lv_goto (tgt := 14) hx hb dX5_year_26 (by decide) ?_
      have hP : va_P D vwCl (xW o cI cJ cZ (s_years S (i + 1))) H := hP
      have hD : va_D A (xW o cI cJ cZ (s_years S (i + 1))) := hD
      exact ih ls H locs (lv_sub hl [0, 1, 2] rfl) hP hD hS
    · intro ls H locs hl hP hD hS
      have hl : lv_has ls 3 [(2, .int (nI kn)), (0, .ref (o 0)), (1, .int (nI kn))] := hl
      refine lv_iload_n hx hb dX5_year_14 rfl (lv_at hl 0 rfl) ?_
      refine lv_iload_n hx hb dX5_year_15 rfl (lv_at hl 2 rfl) ?_
      refine lv_icmp_ge (tgt := 29) hx hb dX5_year_16 (by decide) (fun c_16 => ?_) (fun c_16 => absurd (nI_le (Nat.le_refl _) (by omega)) c_16)
      refine lv_aload_n hx hb dX5_year_29 rfl (lv_at hl 1 rfl) ?_
      refine va_get (C := RX5) (T := TX5) (N := 6) (v := .ref (o 3)) hx hb hts hi5 hown hK hP 0 rfl rfl 2 (by decide) (hts (.fieldLink RX5 26 "HotGround" "ground" "LHotGround$Ground;") (by decide +kernel)) (fun _ h9 => h9) rfl dX5_year_30 ?_
      refine va_get (C := RX0) (T := TX0) (N := 7) (v := .ref (o 19)) hx hb hts hi0 hown hK hP 3 rfl rfl 6 (by decide) (hts (.fieldLink RX5 141 "HotGround$Ground" "sums" "[J") (by decide +kernel)) (fun _ h9 => h9) rfl dX5_year_33 ?_
      refine lv_bipush (v := nI 7) hx hb dX5_year_36 (by decide) ?_
      refine h_lald (f := hg_l (s_years S kn) 2) hx hb hK hP 19 1 rfl rfl 7 (rfl) (by omega) (by decide) dX5_year_38 ?_
      refine lv_l2i (v := Int64.toInt32 ((hg_l (s_years S kn) 2) 7)) hx hb dX5_year_39 rfl ?_
      have hq : r_year S (nI kn) = (Int64.toInt32 ((hg_l (s_years S kn) 2) 7), s_years S kn) := by unfold r_year; rw [if_pos v_7]; (try rw [nI_clamp (show kn < 2 ^ 31 by omega)])
      rw [show (s_years S kn : hg_S) = (r_year S (nI kn)).2 from by rw [hq]] at hP hD
      exact W.iret (v := Int64.toInt32 ((hg_l (s_years S kn) 2) 7)) hx hb hr (fun t ht hW => ⟨⟨_, (), rfl, by rw [hq], ⟨by rw [ht]; exact hP, hD⟩⟩, hS.F ht⟩) hS.2.2 dX5_year_40
  · skip
    have v_7 : ¬ ((nI 1) ≤ n ∧ n ≤ (nI 20)) := hg_in_f c_7
    refine lv_iconst (v := -1) hx hb dX5_year_10 (by decide) ?_
    have hq : r_year S n = ((-1), S) := by unfold r_year; rw [if_neg (fun q => v_7 q)]
    rw [show (S : hg_S) = (r_year S n).2 from by rw [hq]] at hP hD
    exact W.iret (v := (-1)) hx hb hr (fun t ht hW => ⟨⟨_, (), rfl, by rw [hq], ⟨by rw [ht]; exact hP, hD⟩⟩, hS.F ht⟩) hS.2.2 dX5_year_11
set_option maxHeartbeats 4000000 in
set_option maxRecDepth 100000 in
/-- box -/
theorem m_X5_box (l : Launch) (D : va_G) (o : Nat → Nat) (cI cJ cZ : ClassId) (S : hg_S) (b q : Int32) : Met l yX5_box wsX5_box ({ frames := 2, cells := 0, slots := 0, locals := 42 }) (va_Pc [.ref (o 0), .int b, .int q] (hg_R D (xW o cI cJ cZ S) (hg_ty cI cJ cZ))) (vp_Sl (fun r => r = a_box S b q)) 0 0 (fun _ => False) := by
  refine h_start (cc := cX5_box) (maxL := 3) (ret := (some .long)) (by decide) rfl (Nat.le_of_ble_eq_true rfl) ?_
  intro pg ev s mi args below meth cd ls hx hb hr hts hown hlocks hml hnm hpic hl
  obtain ⟨hP, hK⟩ := hpic
  have hi0 : ∀ w ∈ u_ws RX0 TX0 7, w ∈ wsX5_box := by decide +kernel
  have hi5 : ∀ w ∈ u_ws RX5 TX5 6, w ∈ wsX5_box := by decide +kernel
  have hl : lv_has ls 3 [(0, .ref (o 0)), (1, .int b), (2, .int q)] := hl
  refine lv_iload_n hx hb dX5_box_0 rfl (lv_at hl 1 rfl) ?_
  refine vp_callSi (va_Run.run (va_runS (As := [.int b]) (rest := []) ⟨hx, hb, hml, hown, hts⟩ (m_X5_isBox l b) (va_cwS 1 hts gX5_box_X5_isBox rfl rfl rfl (by decide +kernel) ⟨Nat.le_of_ble_eq_true rfl, Nat.le_of_ble_eq_true rfl⟩) (h_preS0) rfl rfl hl.1 rfl (lv_room (Nat.le_of_ble_eq_true rfl)) dX5_box_1 ⟨Nat.le_of_ble_eq_true rfl, Nat.le_of_ble_eq_true rfl⟩)) (fun r_1 hr_1 => ?_)
  subst hr_1
  refine lv_if_eq (tgt := 16) hx hb dX5_box_4 (by decide) (fun c_4 => ?_) (fun c_4 => ?_)
  · skip
    have v_4 : ¬ ((nI 0) ≤ b ∧ b ≤ (nI 3)) := hg_in_f c_4
    refine lv_ldc2 (v := -1) hx hb hown (hts (.constantLong RX5 144 (-1)) (by decide +kernel)) dX5_box_16 ?_
    exact W.lret (v := (-1)) hx hb hr (fun t ht hW => ⟨_, rfl, by show (-1) = a_box S b q; unfold a_box; rw [if_neg (fun q => v_4 q.1)], ht⟩) (fun _ h9 => nomatch h9) dX5_box_19
  · skip
    have v_4 : ((nI 0) ≤ b ∧ b ≤ (nI 3)) := hg_in_t c_4
    refine lv_iload_n hx hb dX5_box_7 rfl (lv_at hl 2 rfl) ?_
    refine lv_iconst (v := nI 0) hx hb dX5_box_8 (by decide) ?_
    refine lv_iconst (v := nI 1) hx hb dX5_box_9 (by decide) ?_
    refine vp_callSi (va_Run.run (va_runS (As := [.int q, .int (nI 0), .int (nI 1)]) (rest := []) ⟨hx, hb, hml, hown, hts⟩ (m_X5_within l q (nI 0) (nI 1)) (va_cwS 3 hts gX5_box_X5_within rfl rfl rfl (by decide +kernel) ⟨Nat.le_of_ble_eq_true rfl, Nat.le_of_ble_eq_true rfl⟩) (h_preS0) rfl rfl hl.1 rfl (lv_room (Nat.le_of_ble_eq_true rfl)) dX5_box_10 ⟨Nat.le_of_ble_eq_true rfl, Nat.le_of_ble_eq_true rfl⟩)) (fun r_2 hr_2 => ?_)
    subst hr_2
    refine lv_if_ne (tgt := 20) hx hb dX5_box_13 (by decide) (fun c_13 => ?_) (fun c_13 => ?_)
    · skip
      have v_13 : ((nI 0) ≤ q ∧ q ≤ (nI 1)) := hg_in_t c_13
      obtain ⟨kb, kbl, kbh, rfl⟩ := hg_rng (by decide) (by decide) v_4
      refine lv_iload_n hx hb dX5_box_20 rfl (lv_at hl 2 rfl) ?_
      refine lv_if_ne (tgt := 36) hx hb dX5_box_21 (by decide) (fun c_21 => ?_) (fun c_21 => ?_)
      · skip
        refine lv_aload_n hx hb dX5_box_36 rfl (lv_at hl 0 rfl) ?_
        refine va_get (C := RX5) (T := TX5) (N := 6) (v := .ref (o 3)) hx hb hts hi5 hown hK hP 0 rfl rfl 2 (by decide) (hts (.fieldLink RX5 26 "HotGround" "ground" "LHotGround$Ground;") (by decide +kernel)) (fun _ h9 => h9) rfl dX5_box_37 ?_
        refine va_get (C := RX0) (T := TX0) (N := 7) (v := .ref (o 16)) hx hb hts hi0 hown hK hP 3 rfl rfl 1 (by decide) (hts (.fieldLink RX5 123 "HotGround$Ground" "heat" "[J") (by decide +kernel)) (fun _ h9 => h9) rfl dX5_box_40 ?_
        refine lv_iload_n hx hb dX5_box_43 rfl (lv_at hl 1 rfl) ?_
        refine h_lald (f := hg_l S 1) hx hb hK hP 16 1 rfl rfl kb (rfl) (by omega) (by decide) dX5_box_44 ?_
        exact W.lret (v := hg_l S 1 kb) hx hb hr (fun t ht hW => ⟨_, rfl, by show hg_l S 1 kb = a_box S (nI kb) q; unfold a_box; rw [if_pos (⟨v_4, v_13⟩)]; (try rw [nI_clamp (show kb < 2 ^ 31 by omega)]); rw [if_neg (fun h => c_21 (h.trans nI_0))], ht⟩) (fun _ h9 => nomatch h9) dX5_box_45
      · skip
        refine lv_aload_n hx hb dX5_box_24 rfl (lv_at hl 0 rfl) ?_
        refine va_get (C := RX5) (T := TX5) (N := 6) (v := .ref (o 3)) hx hb hts hi5 hown hK hP 0 rfl rfl 2 (by decide) (hts (.fieldLink RX5 26 "HotGround" "ground" "LHotGround$Ground;") (by decide +kernel)) (fun _ h9 => h9) rfl dX5_box_25 ?_
        refine va_get (C := RX0) (T := TX0) (N := 7) (v := .ref (o 15)) hx hb hts hi0 hown hK hP 3 rfl rfl 0 (by decide) (hts (.fieldLink RX5 119 "HotGround$Ground" "mass" "[J") (by decide +kernel)) (fun _ h9 => h9) rfl dX5_box_28 ?_
        refine lv_iload_n hx hb dX5_box_31 rfl (lv_at hl 1 rfl) ?_
        refine h_lald (f := hg_l S 0) hx hb hK hP 15 1 rfl rfl kb (rfl) (by omega) (by decide) dX5_box_32 ?_
        refine lv_goto (tgt := 45) hx hb dX5_box_33 (by decide) ?_
        exact W.lret (v := hg_l S 0 kb) hx hb hr (fun t ht hW => ⟨_, rfl, by show hg_l S 0 kb = a_box S (nI kb) q; unfold a_box; rw [if_pos (⟨v_4, v_13⟩)]; (try rw [nI_clamp (show kb < 2 ^ 31 by omega)]); rw [if_pos (c_21.trans nI_0.symm)], ht⟩) (fun _ h9 => nomatch h9) dX5_box_45
    · skip
      have v_13 : ¬ ((nI 0) ≤ q ∧ q ≤ (nI 1)) := hg_in_f c_13
      refine lv_ldc2 (v := -1) hx hb hown (hts (.constantLong RX5 144 (-1)) (by decide +kernel)) dX5_box_16 ?_
      exact W.lret (v := (-1)) hx hb hr (fun t ht hW => ⟨_, rfl, by show (-1) = a_box S b q; unfold a_box; rw [if_neg (fun q => v_13 q.2)], ht⟩) (fun _ h9 => nomatch h9) dX5_box_19
set_option maxHeartbeats 4000000 in
set_option maxRecDepth 100000 in
/-- sum -/
theorem m_X5_sum (l : Launch) (D : va_G) (o : Nat → Nat) (cI cJ cZ : ClassId) (S : hg_S) (q : Int32) : Met l yX5_sum wsX5_sum ({ frames := 1, cells := 0, slots := 0, locals := 22 }) (va_Pc [.ref (o 0), .int q] (hg_R D (xW o cI cJ cZ S) (hg_ty cI cJ cZ))) (vp_Sl (fun r => r = a_sum S q)) 0 0 (fun _ => False) := by
  refine h_start (cc := cX5_sum) (maxL := 2) (ret := (some .long)) (by decide) rfl (Nat.le_of_ble_eq_true rfl) ?_
  intro pg ev s mi args below meth cd ls hx hb hr hts hown hlocks hml hnm hpic hl
  obtain ⟨hP, hK⟩ := hpic
  have hi0 : ∀ w ∈ u_ws RX0 TX0 7, w ∈ wsX5_sum := by decide +kernel
  have hi5 : ∀ w ∈ u_ws RX5 TX5 6, w ∈ wsX5_sum := by decide +kernel
  have hl : lv_has ls 2 [(0, .ref (o 0)), (1, .int q)] := hl
  refine lv_iload_n hx hb dX5_sum_0 rfl (lv_at hl 1 rfl) ?_
  refine lv_iconst (v := nI 0) hx hb dX5_sum_1 (by decide) ?_
  refine lv_bipush (v := nI 8) hx hb dX5_sum_2 (by decide) ?_
  refine vp_callSi (va_Run.run (va_runS (As := [.int q, .int (nI 0), .int (nI 8)]) (rest := []) ⟨hx, hb, hml, hown, hts⟩ (m_X5_within l q (nI 0) (nI 8)) (va_cwS 3 hts gX5_sum_X5_within rfl rfl rfl (by decide +kernel) ⟨Nat.le_of_ble_eq_true rfl, Nat.le_of_ble_eq_true rfl⟩) (h_preS0) rfl rfl hl.1 rfl (lv_room (Nat.le_of_ble_eq_true rfl)) dX5_sum_4 ⟨Nat.le_of_ble_eq_true rfl, Nat.le_of_ble_eq_true rfl⟩)) (fun r_1 hr_1 => ?_)
  subst hr_1
  refine lv_if_ne (tgt := 14) hx hb dX5_sum_7 (by decide) (fun c_7 => ?_) (fun c_7 => ?_)
  · skip
    have v_7 : ((nI 0) ≤ q ∧ q ≤ (nI 8)) := hg_in_t c_7
    obtain ⟨kq, kql, kqh, rfl⟩ := hg_rng (by decide) (by decide) v_7
    refine lv_aload_n hx hb dX5_sum_14 rfl (lv_at hl 0 rfl) ?_
    refine va_get (C := RX5) (T := TX5) (N := 6) (v := .ref (o 3)) hx hb hts hi5 hown hK hP 0 rfl rfl 2 (by decide) (hts (.fieldLink RX5 26 "HotGround" "ground" "LHotGround$Ground;") (by decide +kernel)) (fun _ h9 => h9) rfl dX5_sum_15 ?_
    refine va_get (C := RX0) (T := TX0) (N := 7) (v := .ref (o 19)) hx hb hts hi0 hown hK hP 3 rfl rfl 6 (by decide) (hts (.fieldLink RX5 141 "HotGround$Ground" "sums" "[J") (by decide +kernel)) (fun _ h9 => h9) rfl dX5_sum_18 ?_
    refine lv_iload_n hx hb dX5_sum_21 rfl (lv_at hl 1 rfl) ?_
    refine h_lald (f := hg_l S 2) hx hb hK hP 19 1 rfl rfl kq (rfl) (by omega) (by decide) dX5_sum_22 ?_
    exact W.lret (v := hg_l S 2 kq) hx hb hr (fun t ht hW => ⟨_, rfl, by show hg_l S 2 kq = a_sum S (nI kq); unfold a_sum; rw [if_pos v_7]; (try rw [nI_clamp (show kq < 2 ^ 31 by omega)]), ht⟩) (fun _ h9 => nomatch h9) dX5_sum_23
  · skip
    have v_7 : ¬ ((nI 0) ≤ q ∧ q ≤ (nI 8)) := hg_in_f c_7
    refine lv_ldc2 (v := -1) hx hb hown (hts (.constantLong RX5 144 (-1)) (by decide +kernel)) dX5_sum_10 ?_
    exact W.lret (v := (-1)) hx hb hr (fun t ht hW => ⟨_, rfl, by show (-1) = a_sum S q; unfold a_sum; rw [if_neg (fun q => v_7 q)], ht⟩) (fun _ h9 => nomatch h9) dX5_sum_13
set_option maxHeartbeats 4000000 in
set_option maxRecDepth 100000 in
/-- share -/
theorem m_X5_share (l : Launch) (D : va_G) (o : Nat → Nat) (cI cJ cZ : ClassId) (S : hg_S) (sz : Nat) (k v : Int32) : Met l yX5_share wsX5_share ({ frames := 1, cells := 0, slots := 0, locals := 22 }) (va_Pc [.ref (o 0), .int k, .int v] (hg_Wr D (xW o cI cJ cZ S) (hg_ty cI cJ cZ) sz)) (va_Qi (fun (r : Int32) (_ : Unit) => r = (r_share S k v).1) (fun _ t => hg_At D (xW o cI cJ cZ ((r_share S k v).2)) (va_A (xW o cI cJ cZ S) sz) t) (va_A (xW o cI cJ cZ S) sz)) 0 0 (va_A (xW o cI cJ cZ S) sz) := by
  refine h_start (cc := cX5_share) (maxL := 4) (ret := (some .int)) (by decide) rfl (Nat.le_of_ble_eq_true rfl) ?_
  intro pg ev s mi args below meth cd ls hx hb hr hts hown hlocks hml hnm hpic hl
  obtain ⟨hsz, hP, hK, hD0⟩ := hpic
  subst hsz
  have hD := hD0.self (sz := s.heap.size)
  generalize hAe : va_A (xW o cI cJ cZ S) s.heap.size = A at hD ⊢
  have hA : ∀ q : Nat, s.heap.size ≤ q → A q := fun q h => by rw [← hAe]; exact Or.inr h
  have hS : va_S A s.heap s.heap [] := va_S.rf
  have hi1 : ∀ w ∈ u_ws RX1 TX1 3, w ∈ wsX5_share := by decide +kernel
  have hi5 : ∀ w ∈ u_ws RX5 TX5 6, w ∈ wsX5_share := by decide +kernel
  have hl : lv_has ls 4 [(0, .ref (o 0)), (1, .int k), (2, .int v)] := hl
  refine lv_iload_n hx hb dX5_share_0 rfl (lv_at hl 1 rfl) ?_
  refine lv_iconst (v := nI 0) hx hb dX5_share_1 (by decide) ?_
  refine lv_iconst (v := nI 5) hx hb dX5_share_2 (by decide) ?_
  refine vp_callSi (va_Run.run (va_runS (As := [.int k, .int (nI 0), .int (nI 5)]) (rest := []) ⟨hx, hb, hml, hown, hts⟩ (m_X5_within l k (nI 0) (nI 5)) (va_cwS 3 hts gX5_share_X5_within rfl rfl rfl (by decide +kernel) ⟨Nat.le_of_ble_eq_true rfl, Nat.le_of_ble_eq_true rfl⟩) (h_preS0) rfl rfl hl.1 rfl (lv_room (Nat.le_of_ble_eq_true rfl)) dX5_share_3 ⟨Nat.le_of_ble_eq_true rfl, Nat.le_of_ble_eq_true rfl⟩)) (fun r_1 hr_1 => ?_)
  subst hr_1
  refine lv_if_eq (tgt := 20) hx hb dX5_share_6 (by decide) (fun c_6 => ?_) (fun c_6 => ?_)
  · skip
    have v_6 : ¬ ((nI 0) ≤ k ∧ k ≤ (nI 5)) := hg_in_f c_6
    refine lv_iconst (v := -1) hx hb dX5_share_20 (by decide) ?_
    have hq : r_share S k v = ((-1), S) := by unfold r_share; rw [if_neg (fun q => v_6 q.1)]
    rw [show (S : hg_S) = (r_share S k v).2 from by rw [hq]] at hP hD
    exact W.iret (v := (-1)) hx hb hr (fun t ht hW => ⟨⟨_, (), rfl, by rw [hq], ⟨by rw [ht]; exact hP, hD⟩⟩, hS.F ht⟩) hS.2.2 dX5_share_21
  · skip
    have v_6 : ((nI 0) ≤ k ∧ k ≤ (nI 5)) := hg_in_t c_6
    refine lv_iload_n hx hb dX5_share_9 rfl (lv_at hl 2 rfl) ?_
    refine lv_iconst (v := nI 0) hx hb dX5_share_10 (by decide) ?_
    refine lv_sipush (v := nI 1000) hx hb dX5_share_11 (by decide) ?_
    refine vp_callSi (va_Run.run (va_runS (As := [.int v, .int (nI 0), .int (nI 1000)]) (rest := []) ⟨hx, hb, hml, hown, hts⟩ (m_X5_within l v (nI 0) (nI 1000)) (va_cwS 3 hts gX5_share_X5_within rfl rfl rfl (by decide +kernel) ⟨Nat.le_of_ble_eq_true rfl, Nat.le_of_ble_eq_true rfl⟩) (h_preS0) rfl rfl hl.1 rfl (lv_room (Nat.le_of_ble_eq_true rfl)) dX5_share_14 ⟨Nat.le_of_ble_eq_true rfl, Nat.le_of_ble_eq_true rfl⟩)) (fun r_2 hr_2 => ?_)
    subst hr_2
    refine lv_if_ne (tgt := 22) hx hb dX5_share_17 (by decide) (fun c_17 => ?_) (fun c_17 => ?_)
    · skip
      have v_17 : ((nI 0) ≤ v ∧ v ≤ (nI 1000)) := hg_in_t c_17
      obtain ⟨kk, kkl, kkh, rfl⟩ := hg_rng (by decide) (by decide) v_6
      refine lv_aload_n hx hb dX5_share_22 rfl (lv_at hl 0 rfl) ?_
      refine va_get (C := RX5) (T := TX5) (N := 6) (v := .ref (o 4)) hx hb hts hi5 hown hK hP 0 rfl rfl 3 (by decide) (hts (.fieldLink RX5 33 "HotGround" "kernel" "LHotGround$Kernel;") (by decide +kernel)) (fun _ h9 => h9) rfl dX5_share_23 ?_
      refine va_get (C := RX1) (T := TX1) (N := 3) (v := .ref (o 20)) hx hb hts hi1 hown hK hP 4 rfl rfl 1 (by decide) (hts (.fieldLink RX5 146 "HotGround$Kernel" "shares" "[I") (by decide +kernel)) (fun _ h9 => h9) rfl dX5_share_26 ?_
      refine lv_iload_n hx hb dX5_share_29 rfl (lv_at hl 1 rfl) ?_
      refine h_iald (f := hg_i S 11) hx hb hK hP 20 0 rfl rfl kk (rfl) (by omega) (by decide) dX5_share_30 ?_
      refine lv_istore_n (lv' := [(3, .int (hg_i S 11 kk)), (0, .ref (o 0)), (1, .int (nI kk)), (2, .int v)]) hx hb dX5_share_31 rfl hl (by decide) rfl (fun ls hl => ?_)
      refine lv_aload_n hx hb dX5_share_32 rfl (lv_at hl 1 rfl) ?_
      refine va_get (C := RX5) (T := TX5) (N := 6) (v := .ref (o 4)) hx hb hts hi5 hown hK hP 0 rfl rfl 3 (by decide) (hts (.fieldLink RX5 33 "HotGround" "kernel" "LHotGround$Kernel;") (by decide +kernel)) (fun _ h9 => h9) rfl dX5_share_33 ?_
      refine vp_callSi (va_Run.run (va_runV (As := []) (rest := []) ⟨hx, hb, hml, hown, hts⟩ (m_X1_together l D o cI cJ cZ S) (cwV 0 hts gX5_share_X1_together rfl rfl rfl (by decide +kernel) ⟨Nat.le_of_ble_eq_true rfl, Nat.le_of_ble_eq_true rfl⟩) (h_preR hK hP 4 rfl rfl rfl) rfl rfl hl.1 rfl (lv_room (Nat.le_of_ble_eq_true rfl)) dX5_share_36 ⟨Nat.le_of_ble_eq_true rfl, Nat.le_of_ble_eq_true rfl⟩)) (fun r_3 hr_3 => ?_)
      subst hr_3
      refine lv_iload_n hx hb dX5_share_39 rfl (lv_at hl 0 rfl) ?_
      refine lv_isub hx hb dX5_share_40 ?_
      refine lv_iload_n hx hb dX5_share_41 rfl (lv_at hl 3 rfl) ?_
      refine lv_iadd hx hb dX5_share_42 ?_
      refine h_topi (y := f_shr S kk v) (rfl) ?_
      refine lv_sipush (v := nI 1000) hx hb dX5_share_43 (by decide) ?_
      refine lv_icmp_le (tgt := 51) hx hb dX5_share_46 (by decide) (fun c_46 => ?_) (fun c_46 => ?_)
      · skip
        refine lv_aload_n hx hb dX5_share_51 rfl (lv_at hl 1 rfl) ?_
        refine va_get (C := RX5) (T := TX5) (N := 6) (v := .ref (o 4)) hx hb hts hi5 hown hK hP 0 rfl rfl 3 (by decide) (hts (.fieldLink RX5 33 "HotGround" "kernel" "LHotGround$Kernel;") (by decide +kernel)) (fun _ h9 => h9) rfl dX5_share_52 ?_
        refine va_get (C := RX1) (T := TX1) (N := 3) (v := .ref (o 20)) hx hb hts hi1 hown hK hP 4 rfl rfl 1 (by decide) (hts (.fieldLink RX5 146 "HotGround$Kernel" "shares" "[I") (by decide +kernel)) (fun _ h9 => h9) rfl dX5_share_55 ?_
        refine lv_iload_n hx hb dX5_share_58 rfl (lv_at hl 2 rfl) ?_
        refine lv_iload_n hx hb dX5_share_59 rfl (lv_at hl 3 rfl) ?_
        refine h_iast (f := hg_i S 11) (ws' := xW o cI cJ cZ (hg_si S 11 (upd (hg_i S 11) kk v))) hx hb hK hP hD hS 20 0 rfl rfl kk (rfl) (by omega) (by decide) rfl dX5_share_60 (fun H locs hP hD hS => ?_)
        refine lv_iload_n hx hb dX5_share_61 rfl (lv_at hl 0 rfl) ?_
        have hq : r_share S (nI kk) v = (hg_i S 11 kk, hg_si S 11 (upd (hg_i S 11) kk v)) := by unfold r_share; rw [if_pos ⟨v_6, v_17, by rw [nI_clamp (show kk < 2 ^ 31 by omega)]; exact c_46⟩, nI_clamp (show kk < 2 ^ 31 by omega)]
        rw [show (hg_si S 11 (upd (hg_i S 11) kk v) : hg_S) = (r_share S (nI kk) v).2 from by rw [hq]] at hP hD
        exact W.iret (v := hg_i S 11 kk) hx hb hr (fun t ht hW => ⟨⟨_, (), rfl, by rw [hq], ⟨by rw [ht]; exact hP, hD⟩⟩, hS.F ht⟩) hS.2.2 dX5_share_62
      · skip
        refine lv_iconst (v := -1) hx hb dX5_share_49 (by decide) ?_
        have hq : r_share S (nI kk) v = ((-1), S) := by unfold r_share; rw [if_neg (fun q => c_46 (by have := q.2.2; rw [nI_clamp (show kk < 2 ^ 31 by omega)] at this; exact this))]
        rw [show (S : hg_S) = (r_share S (nI kk) v).2 from by rw [hq]] at hP hD
        exact W.iret (v := (-1)) hx hb hr (fun t ht hW => ⟨⟨_, (), rfl, by rw [hq], ⟨by rw [ht]; exact hP, hD⟩⟩, hS.F ht⟩) hS.2.2 dX5_share_50
    · skip
      have v_17 : ¬ ((nI 0) ≤ v ∧ v ≤ (nI 1000)) := hg_in_f c_17
      refine lv_iconst (v := -1) hx hb dX5_share_20 (by decide) ?_
      have hq : r_share S k v = ((-1), S) := by unfold r_share; rw [if_neg (fun q => v_17 q.2.1)]
      rw [show (S : hg_S) = (r_share S k v).2 from by rw [hq]] at hP hD
      exact W.iret (v := (-1)) hx hb hr (fun t ht hW => ⟨⟨_, (), rfl, by rw [hq], ⟨by rw [ht]; exact hP, hD⟩⟩, hS.F ht⟩) hS.2.2 dX5_share_21
set_option maxHeartbeats 4000000 in
set_option maxRecDepth 100000 in
/-- put -/
theorem m_X5_put (l : Launch) (D : va_G) (o : Nat → Nat) (cI cJ cZ : ClassId) (S : hg_S) (sz : Nat) (h4 : hg_n S 4 ≤ 12) (v : Int32) : Met l yX5_put wsX5_put ({ frames := 1, cells := 0, slots := 0, locals := 22 }) (va_Pc [.ref (o 0), .int v] (hg_Wr D (xW o cI cJ cZ S) (hg_ty cI cJ cZ) sz)) (va_Qi (fun (r : Int32) (_ : Unit) => r = (r_put S v).1) (fun _ t => hg_At D (xW o cI cJ cZ ((r_put S v).2)) (va_A (xW o cI cJ cZ S) sz) t) (va_A (xW o cI cJ cZ S) sz)) 0 0 (va_A (xW o cI cJ cZ S) sz) := by
  refine h_start (cc := cX5_put) (maxL := 2) (ret := (some .int)) (by decide) rfl (Nat.le_of_ble_eq_true rfl) ?_
  intro pg ev s mi args below meth cd ls hx hb hr hts hown hlocks hml hnm hpic hl
  obtain ⟨hsz, hP, hK, hD0⟩ := hpic
  subst hsz
  have hD := hD0.self (sz := s.heap.size)
  generalize hAe : va_A (xW o cI cJ cZ S) s.heap.size = A at hD ⊢
  have hA : ∀ q : Nat, s.heap.size ≤ q → A q := fun q h => by rw [← hAe]; exact Or.inr h
  have hS : va_S A s.heap s.heap [] := va_S.rf
  have hi1 : ∀ w ∈ u_ws RX1 TX1 3, w ∈ wsX5_put := by decide +kernel
  have hi5 : ∀ w ∈ u_ws RX5 TX5 6, w ∈ wsX5_put := by decide +kernel
  have hl : lv_has ls 2 [(0, .ref (o 0)), (1, .int v)] := hl
  refine lv_iload_n hx hb dX5_put_0 rfl (lv_at hl 1 rfl) ?_
  refine lv_iconst (v := nI 0) hx hb dX5_put_1 (by decide) ?_
  refine lv_ldc (v := 1000000) hx hb hown (hts (.constant RX5 152 (1000000)) (by decide +kernel)) dX5_put_2 ?_
  refine h_topi (y := nI 1000000) (by decide) ?_
  refine vp_callSi (va_Run.run (va_runS (As := [.int v, .int (nI 0), .int (nI 1000000)]) (rest := []) ⟨hx, hb, hml, hown, hts⟩ (m_X5_within l v (nI 0) (nI 1000000)) (va_cwS 3 hts gX5_put_X5_within rfl rfl rfl (by decide +kernel) ⟨Nat.le_of_ble_eq_true rfl, Nat.le_of_ble_eq_true rfl⟩) (h_preS0) rfl rfl hl.1 rfl (lv_room (Nat.le_of_ble_eq_true rfl)) dX5_put_4 ⟨Nat.le_of_ble_eq_true rfl, Nat.le_of_ble_eq_true rfl⟩)) (fun r_1 hr_1 => ?_)
  subst hr_1
  refine lv_if_ne (tgt := 12) hx hb dX5_put_7 (by decide) (fun c_7 => ?_) (fun c_7 => ?_)
  · skip
    have v_7 : ((nI 0) ≤ v ∧ v ≤ (nI 1000000)) := hg_in_t c_7
    refine lv_aload_n hx hb dX5_put_12 rfl (lv_at hl 0 rfl) ?_
    refine va_get (C := RX5) (T := TX5) (N := 6) (v := .ref (o 4)) hx hb hts hi5 hown hK hP 0 rfl rfl 3 (by decide) (hts (.fieldLink RX5 33 "HotGround" "kernel" "LHotGround$Kernel;") (by decide +kernel)) (fun _ h9 => h9) rfl dX5_put_13 ?_
    refine va_get (C := RX1) (T := TX1) (N := 3) (v := .int (nI (hg_n S 4))) hx hb hts hi1 hown hK hP 4 rfl rfl 0 (by decide) (hts (.fieldLink RX5 153 "HotGround$Kernel" "count" "I") (by decide +kernel)) (fun _ h9 => h9) rfl dX5_put_16 ?_
    refine lv_bipush (v := nI 12) hx hb dX5_put_19 (by decide) ?_
    refine lv_icmp_lt (tgt := 27) hx hb dX5_put_21 (by decide) (fun c_21 => ?_) (fun c_21 => ?_)
    · skip
      have hc : hg_n S 4 < 12 := (nI_ltI (by omega) (by omega)).mp c_21
      refine lv_aload_n hx hb dX5_put_27 rfl (lv_at hl 0 rfl) ?_
      refine va_get (C := RX5) (T := TX5) (N := 6) (v := .ref (o 4)) hx hb hts hi5 hown hK hP 0 rfl rfl 3 (by decide) (hts (.fieldLink RX5 33 "HotGround" "kernel" "LHotGround$Kernel;") (by decide +kernel)) (fun _ h9 => h9) rfl dX5_put_28 ?_
      refine va_get (C := RX1) (T := TX1) (N := 3) (v := .ref (o 21)) hx hb hts hi1 hown hK hP 4 rfl rfl 2 (by decide) (hts (.fieldLink RX5 154 "HotGround$Kernel" "amounts" "[I") (by decide +kernel)) (fun _ h9 => h9) rfl dX5_put_31 ?_
      refine lv_aload_n hx hb dX5_put_34 rfl (lv_at hl 0 rfl) ?_
      refine va_get (C := RX5) (T := TX5) (N := 6) (v := .ref (o 4)) hx hb hts hi5 hown hK hP 0 rfl rfl 3 (by decide) (hts (.fieldLink RX5 33 "HotGround" "kernel" "LHotGround$Kernel;") (by decide +kernel)) (fun _ h9 => h9) rfl dX5_put_35 ?_
      refine va_get (C := RX1) (T := TX1) (N := 3) (v := .int (nI (hg_n S 4))) hx hb hts hi1 hown hK hP 4 rfl rfl 0 (by decide) (hts (.fieldLink RX5 153 "HotGround$Kernel" "count" "I") (by decide +kernel)) (fun _ h9 => h9) rfl dX5_put_38 ?_
      refine lv_iload_n hx hb dX5_put_41 rfl (lv_at hl 1 rfl) ?_
      refine h_iast (f := hg_i S 12) (ws' := xW o cI cJ cZ (hg_si S 12 (upd (hg_i S 12) (hg_n S 4) v))) hx hb hK hP hD hS 21 0 rfl rfl (hg_n S 4) (rfl) (by omega) (by decide) rfl dX5_put_42 (fun H locs hP hD hS => ?_)
      refine lv_aload_n hx hb dX5_put_43 rfl (lv_at hl 0 rfl) ?_
      refine va_get (C := RX5) (T := TX5) (N := 6) (v := .ref (o 4)) hx hb hts hi5 hown hK hP 0 rfl rfl 3 (by decide) (hts (.fieldLink RX5 33 "HotGround" "kernel" "LHotGround$Kernel;") (by decide +kernel)) (fun _ h9 => h9) rfl dX5_put_44 ?_
      refine lv_dup hx hb dX5_put_47 rfl ?_
      refine va_get (C := RX1) (T := TX1) (N := 3) (v := .int (nI (hg_n S 4))) hx hb hts hi1 hown hK hP 4 rfl rfl 0 (by decide) (hts (.fieldLink RX5 153 "HotGround$Kernel" "count" "I") (by decide +kernel)) (fun _ h9 => h9) rfl dX5_put_48 ?_
      refine lv_iconst (v := nI 1) hx hb dX5_put_51 (by decide) ?_
      refine lv_iadd hx hb dX5_put_52 ?_
      refine h_topi (y := nI ((hg_n S 4) + 1)) (nI_add _ _) ?_
      refine h_put (C := RX1) (T := TX1) (N := 3) (v := .int (nI ((hg_n S 4) + 1))) (ty := .int) (ws' := xW o cI cJ cZ (hg_sn (hg_si S 12 (upd (hg_i S 12) (hg_n S 4) v)) 4 ((hg_n S 4) + 1))) hx hb hts hi1 tyX1 tyX1_ok nmX1 hown hK hP hD hS 4 rfl rfl 0 (by decide) (hts (.fieldLink RX5 153 "HotGround$Kernel" "count" "I") (by decide +kernel)) (fun _ h9 => h9) rfl (by decide +kernel) rfl rfl (Nat.le_of_ble_eq_true rfl) rfl dX5_put_53 (fun H locs hP hD hS => ?_)
      refine lv_aload_n hx hb dX5_put_56 rfl (lv_at hl 0 rfl) ?_
      refine va_get (C := RX5) (T := TX5) (N := 6) (v := .ref (o 4)) hx hb hts hi5 hown hK hP 0 rfl rfl 3 (by decide) (hts (.fieldLink RX5 33 "HotGround" "kernel" "LHotGround$Kernel;") (by decide +kernel)) (fun _ h9 => h9) rfl dX5_put_57 ?_
      refine va_get (C := RX1) (T := TX1) (N := 3) (v := .int (nI ((hg_n S 4) + 1))) hx hb hts hi1 hown hK hP 4 rfl rfl 0 (by decide) (hts (.fieldLink RX5 153 "HotGround$Kernel" "count" "I") (by decide +kernel)) (fun _ h9 => h9) rfl dX5_put_60 ?_
      have hq : r_put S v = (nI ((hg_n S 4) + 1), hg_sn (hg_si S 12 (upd (hg_i S 12) (hg_n S 4) v)) 4 ((hg_n S 4) + 1)) := by unfold r_put; rw [if_pos v_7]; rw [if_pos (by omega)]
      rw [show (hg_sn (hg_si S 12 (upd (hg_i S 12) (hg_n S 4) v)) 4 ((hg_n S 4) + 1) : hg_S) = (r_put S v).2 from by rw [hq]] at hP hD
      exact W.iret (v := nI ((hg_n S 4) + 1)) hx hb hr (fun t ht hW => ⟨⟨_, (), rfl, by rw [hq], ⟨by rw [ht]; exact hP, hD⟩⟩, hS.F ht⟩) hS.2.2 dX5_put_63
    · skip
      have hc : ¬ hg_n S 4 < 12 := fun h => c_21 ((nI_ltI (by omega) (by omega)).mpr h)
      refine lv_bipush (v := -3) hx hb dX5_put_24 (by decide) ?_
      have hq : r_put S v = ((-3), S) := by unfold r_put; rw [if_pos v_7]; rw [if_neg (by omega)]
      rw [show (S : hg_S) = (r_put S v).2 from by rw [hq]] at hP hD
      exact W.iret (v := (-3)) hx hb hr (fun t ht hW => ⟨⟨_, (), rfl, by rw [hq], ⟨by rw [ht]; exact hP, hD⟩⟩, hS.F ht⟩) hS.2.2 dX5_put_26
  · skip
    have v_7 : ¬ ((nI 0) ≤ v ∧ v ≤ (nI 1000000)) := hg_in_f c_7
    refine lv_iconst (v := -1) hx hb dX5_put_10 (by decide) ?_
    have hq : r_put S v = ((-1), S) := by unfold r_put; rw [if_neg (fun q => v_7 q)]
    rw [show (S : hg_S) = (r_put S v).2 from by rw [hq]] at hP hD
    exact W.iret (v := (-1)) hx hb hr (fun t ht hW => ⟨⟨_, (), rfl, by rw [hq], ⟨by rw [ht]; exact hP, hD⟩⟩, hS.F ht⟩) hS.2.2 dX5_put_11
set_option maxHeartbeats 4000000 in
set_option maxRecDepth 100000 in
/-- back -/
theorem m_X5_back (l : Launch) (D : va_G) (o : Nat → Nat) (cI cJ cZ : ClassId) (S : hg_S) (h4 : hg_n S 4 ≤ 12) (y : Int32) : Met l yX5_back wsX5_back ({ frames := 1, cells := 0, slots := 0, locals := 24 }) (va_Pc [.ref (o 0), .int y] (hg_R D (xW o cI cJ cZ S) (hg_ty cI cJ cZ))) (vp_Si (fun r => r = a_back S y)) 0 0 (fun _ => False) := by
  refine h_start (cc := cX5_back) (maxL := 2) (ret := (some .int)) (by decide) rfl (Nat.le_of_ble_eq_true rfl) ?_
  intro pg ev s mi args below meth cd ls hx hb hr hts hown hlocks hml hnm hpic hl
  obtain ⟨hP, hK⟩ := hpic
  have hi5 : ∀ w ∈ u_ws RX5 TX5 6, w ∈ wsX5_back := by decide +kernel
  have hl : lv_has ls 2 [(0, .ref (o 0)), (1, .int y)] := hl
  refine lv_iload_n hx hb dX5_back_0 rfl (lv_at hl 1 rfl) ?_
  refine lv_iconst (v := nI 0) hx hb dX5_back_1 (by decide) ?_
  refine lv_bipush (v := nI 16) hx hb dX5_back_2 (by decide) ?_
  refine vp_callSi (va_Run.run (va_runS (As := [.int y, .int (nI 0), .int (nI 16)]) (rest := []) ⟨hx, hb, hml, hown, hts⟩ (m_X5_within l y (nI 0) (nI 16)) (va_cwS 3 hts gX5_back_X5_within rfl rfl rfl (by decide +kernel) ⟨Nat.le_of_ble_eq_true rfl, Nat.le_of_ble_eq_true rfl⟩) (h_preS0) rfl rfl hl.1 rfl (lv_room (Nat.le_of_ble_eq_true rfl)) dX5_back_4 ⟨Nat.le_of_ble_eq_true rfl, Nat.le_of_ble_eq_true rfl⟩)) (fun r_1 hr_1 => ?_)
  subst hr_1
  refine lv_if_ne (tgt := 12) hx hb dX5_back_7 (by decide) (fun c_7 => ?_) (fun c_7 => ?_)
  · skip
    have v_7 : ((nI 0) ≤ y ∧ y ≤ (nI 16)) := hg_in_t c_7
    obtain ⟨ky, kyl, kyh, rfl⟩ := hg_rng (by decide) (by decide) v_7
    refine lv_aload_n hx hb dX5_back_12 rfl (lv_at hl 0 rfl) ?_
    refine va_get (C := RX5) (T := TX5) (N := 6) (v := .ref (o 4)) hx hb hts hi5 hown hK hP 0 rfl rfl 3 (by decide) (hts (.fieldLink RX5 33 "HotGround" "kernel" "LHotGround$Kernel;") (by decide +kernel)) (fun _ h9 => h9) rfl dX5_back_13 ?_
    refine lv_iload_n hx hb dX5_back_16 rfl (lv_at hl 1 rfl) ?_
    refine vp_callSi (va_Run.run (va_runV (As := [.int (nI ky)]) (rest := []) ⟨hx, hb, hml, hown, hts⟩ (m_X1_comes l D o cI cJ cZ S h4 ky (by omega)) (cwV 1 hts gX5_back_X1_comes rfl rfl rfl (by decide +kernel) ⟨Nat.le_of_ble_eq_true rfl, Nat.le_of_ble_eq_true rfl⟩) (h_preR hK hP 4 rfl rfl rfl) rfl rfl hl.1 rfl (lv_room (Nat.le_of_ble_eq_true rfl)) dX5_back_17 ⟨Nat.le_of_ble_eq_true rfl, Nat.le_of_ble_eq_true rfl⟩)) (fun r_2 hr_2 => ?_)
    subst hr_2
    exact W.iret (v := f_comes S ky) hx hb hr (fun t ht hW => ⟨_, rfl, by show f_comes S ky = a_back S (nI ky); unfold a_back; rw [if_pos v_7]; (try rw [nI_clamp (show ky < 2 ^ 31 by omega)]), ht⟩) (fun _ h9 => nomatch h9) dX5_back_20
  · skip
    have v_7 : ¬ ((nI 0) ≤ y ∧ y ≤ (nI 16)) := hg_in_f c_7
    refine lv_iconst (v := -1) hx hb dX5_back_10 (by decide) ?_
    exact W.iret (v := (-1)) hx hb hr (fun t ht hW => ⟨_, rfl, by show (-1) = a_back S y; unfold a_back; rw [if_neg (fun q => v_7 q)], ht⟩) (fun _ h9 => nomatch h9) dX5_back_11
set_option maxHeartbeats 4000000 in
set_option maxRecDepth 100000 in
/-- cut -/
theorem m_X5_cut (l : Launch) (D : va_G) (o : Nat → Nat) (cI cJ cZ : ClassId) (S : hg_S) (sz : Nat) (h4 : hg_n S 4 ≤ 12)  : Met l yX5_cut wsX5_cut ({ frames := 0, cells := 0, slots := 0, locals := 0 }) (va_Pc [.ref (o 0)] (hg_Wr D (xW o cI cJ cZ S) (hg_ty cI cJ cZ) sz)) (va_Qi (fun (r : Int32) (_ : Unit) => r = (r_cut S).1) (fun _ t => hg_At D (xW o cI cJ cZ ((r_cut S).2)) (va_A (xW o cI cJ cZ S) sz) t) (va_A (xW o cI cJ cZ S) sz)) 0 0 (va_A (xW o cI cJ cZ S) sz) := by
  refine h_start (cc := cX5_cut) (maxL := 1) (ret := (some .int)) (by decide) rfl (Nat.le_of_ble_eq_true rfl) ?_
  intro pg ev s mi args below meth cd ls hx hb hr hts hown hlocks hml hnm hpic hl
  obtain ⟨hsz, hP, hK, hD0⟩ := hpic
  subst hsz
  have hD := hD0.self (sz := s.heap.size)
  generalize hAe : va_A (xW o cI cJ cZ S) s.heap.size = A at hD ⊢
  have hA : ∀ q : Nat, s.heap.size ≤ q → A q := fun q h => by rw [← hAe]; exact Or.inr h
  have hS : va_S A s.heap s.heap [] := va_S.rf
  have hi1 : ∀ w ∈ u_ws RX1 TX1 3, w ∈ wsX5_cut := by decide +kernel
  have hi5 : ∀ w ∈ u_ws RX5 TX5 6, w ∈ wsX5_cut := by decide +kernel
  have hl : lv_has ls 1 [(0, .ref (o 0))] := hl
  refine lv_aload_n hx hb dX5_cut_0 rfl (lv_at hl 0 rfl) ?_
  refine va_get (C := RX5) (T := TX5) (N := 6) (v := .ref (o 4)) hx hb hts hi5 hown hK hP 0 rfl rfl 3 (by decide) (hts (.fieldLink RX5 33 "HotGround" "kernel" "LHotGround$Kernel;") (by decide +kernel)) (fun _ h9 => h9) rfl dX5_cut_1 ?_
  refine va_get (C := RX1) (T := TX1) (N := 3) (v := .int (nI (hg_n S 4))) hx hb hts hi1 hown hK hP 4 rfl rfl 0 (by decide) (hts (.fieldLink RX5 153 "HotGround$Kernel" "count" "I") (by decide +kernel)) (fun _ h9 => h9) rfl dX5_cut_4 ?_
  refine lv_if_gt (tgt := 13) hx hb dX5_cut_7 (by decide) (fun c_7 => ?_) (fun c_7 => ?_)
  · skip
    have hc : 0 < hg_n S 4 := by have := hg_lt.mp c_7; rw [i_z, nI_toInt (by omega)] at this; omega
    refine lv_aload_n hx hb dX5_cut_13 rfl (lv_at hl 0 rfl) ?_
    refine va_get (C := RX5) (T := TX5) (N := 6) (v := .ref (o 4)) hx hb hts hi5 hown hK hP 0 rfl rfl 3 (by decide) (hts (.fieldLink RX5 33 "HotGround" "kernel" "LHotGround$Kernel;") (by decide +kernel)) (fun _ h9 => h9) rfl dX5_cut_14 ?_
    refine lv_dup hx hb dX5_cut_17 rfl ?_
    refine va_get (C := RX1) (T := TX1) (N := 3) (v := .int (nI (hg_n S 4))) hx hb hts hi1 hown hK hP 4 rfl rfl 0 (by decide) (hts (.fieldLink RX5 153 "HotGround$Kernel" "count" "I") (by decide +kernel)) (fun _ h9 => h9) rfl dX5_cut_18 ?_
    refine lv_iconst (v := nI 1) hx hb dX5_cut_21 (by decide) ?_
    refine lv_isub hx hb dX5_cut_22 ?_
    refine h_topi (y := nI ((hg_n S 4) - 1)) (pk_sub (by omega)) ?_
    refine h_put (C := RX1) (T := TX1) (N := 3) (v := .int (nI ((hg_n S 4) - 1))) (ty := .int) (ws' := xW o cI cJ cZ (hg_sn S 4 ((hg_n S 4) - 1))) hx hb hts hi1 tyX1 tyX1_ok nmX1 hown hK hP hD hS 4 rfl rfl 0 (by decide) (hts (.fieldLink RX5 153 "HotGround$Kernel" "count" "I") (by decide +kernel)) (fun _ h9 => h9) rfl (by decide +kernel) rfl rfl (Nat.le_of_ble_eq_true rfl) rfl dX5_cut_23 (fun H locs hP hD hS => ?_)
    refine lv_aload_n hx hb dX5_cut_26 rfl (lv_at hl 0 rfl) ?_
    refine va_get (C := RX5) (T := TX5) (N := 6) (v := .ref (o 4)) hx hb hts hi5 hown hK hP 0 rfl rfl 3 (by decide) (hts (.fieldLink RX5 33 "HotGround" "kernel" "LHotGround$Kernel;") (by decide +kernel)) (fun _ h9 => h9) rfl dX5_cut_27 ?_
    refine va_get (C := RX1) (T := TX1) (N := 3) (v := .int (nI ((hg_n S 4) - 1))) hx hb hts hi1 hown hK hP 4 rfl rfl 0 (by decide) (hts (.fieldLink RX5 153 "HotGround$Kernel" "count" "I") (by decide +kernel)) (fun _ h9 => h9) rfl dX5_cut_30 ?_
    have hq : r_cut S = (nI ((hg_n S 4) - 1), hg_sn S 4 ((hg_n S 4) - 1)) := by unfold r_cut; rw [if_neg (by omega)]
    rw [show (hg_sn S 4 ((hg_n S 4) - 1) : hg_S) = (r_cut S).2 from by rw [hq]] at hP hD
    exact W.iret (v := nI ((hg_n S 4) - 1)) hx hb hr (fun t ht hW => ⟨⟨_, (), rfl, by rw [hq], ⟨by rw [ht]; exact hP, hD⟩⟩, hS.F ht⟩) hS.2.2 dX5_cut_33
  · skip
    have hc : hg_n S 4 = 0 := by have := hg_le.mp (hg_nlt.mp c_7); rw [i_z, nI_toInt (by omega)] at this; omega
    refine lv_bipush (v := -2) hx hb dX5_cut_10 (by decide) ?_
    have hq : r_cut S = ((-2), S) := by unfold r_cut; rw [if_pos hc]
    rw [show (S : hg_S) = (r_cut S).2 from by rw [hq]] at hP hD
    exact W.iret (v := (-2)) hx hb hr (fun t ht hW => ⟨⟨_, (), rfl, by rw [hq], ⟨by rw [ht]; exact hP, hD⟩⟩, hS.F ht⟩) hS.2.2 dX5_cut_12
set_option maxHeartbeats 4000000 in
set_option maxRecDepth 100000 in
/-- candidate -/
theorem m_X5_candidate (l : Launch) (D : va_G) (o : Nat → Nat) (cI cJ cZ : ClassId) (S : hg_S) (sz : Nat) (h5 : hg_n S 5 ≤ 8) (a b d : Int32) : Met l yX5_candidate wsX5_candidate ({ frames := 2, cells := 0, slots := 0, locals := 42 }) (va_Pc [.ref (o 0), .int a, .int b, .int d] (hg_Wr D (xW o cI cJ cZ S) (hg_ty cI cJ cZ) sz)) (va_Qi (fun (r : Int32) (_ : Unit) => r = (r_cand S a b d).1) (fun _ t => hg_At D (xW o cI cJ cZ ((r_cand S a b d).2)) (va_A (xW o cI cJ cZ S) sz) t) (va_A (xW o cI cJ cZ S) sz)) 0 0 (va_A (xW o cI cJ cZ S) sz) := by
  refine h_start (cc := cX5_candidate) (maxL := 4) (ret := (some .int)) (by decide) rfl (Nat.le_of_ble_eq_true rfl) ?_
  intro pg ev s mi args below meth cd ls hx hb hr hts hown hlocks hml hnm hpic hl
  obtain ⟨hsz, hP, hK, hD0⟩ := hpic
  subst hsz
  have hD := hD0.self (sz := s.heap.size)
  generalize hAe : va_A (xW o cI cJ cZ S) s.heap.size = A at hD ⊢
  have hA : ∀ q : Nat, s.heap.size ≤ q → A q := fun q h => by rw [← hAe]; exact Or.inr h
  have hS : va_S A s.heap s.heap [] := va_S.rf
  have hi2 : ∀ w ∈ u_ws RX2 TX2 5, w ∈ wsX5_candidate := by decide +kernel
  have hi5 : ∀ w ∈ u_ws RX5 TX5 6, w ∈ wsX5_candidate := by decide +kernel
  have hl : lv_has ls 4 [(0, .ref (o 0)), (1, .int a), (2, .int b), (3, .int d)] := hl
  refine lv_iload_n hx hb dX5_candidate_0 rfl (lv_at hl 1 rfl) ?_
  refine lv_iconst (v := nI 1) hx hb dX5_candidate_1 (by decide) ?_
  refine lv_sipush (v := nI 1000) hx hb dX5_candidate_2 (by decide) ?_
  refine vp_callSi (va_Run.run (va_runS (As := [.int a, .int (nI 1), .int (nI 1000)]) (rest := []) ⟨hx, hb, hml, hown, hts⟩ (m_X5_within l a (nI 1) (nI 1000)) (va_cwS 3 hts gX5_candidate_X5_within rfl rfl rfl (by decide +kernel) ⟨Nat.le_of_ble_eq_true rfl, Nat.le_of_ble_eq_true rfl⟩) (h_preS0) rfl rfl hl.1 rfl (lv_room (Nat.le_of_ble_eq_true rfl)) dX5_candidate_5 ⟨Nat.le_of_ble_eq_true rfl, Nat.le_of_ble_eq_true rfl⟩)) (fun r_1 hr_1 => ?_)
  subst hr_1
  refine lv_if_eq (tgt := 29) hx hb dX5_candidate_8 (by decide) (fun c_8 => ?_) (fun c_8 => ?_)
  · skip
    have v_8 : ¬ ((nI 1) ≤ a ∧ a ≤ (nI 1000)) := hg_in_f c_8
    refine lv_iconst (v := -1) hx hb dX5_candidate_29 (by decide) ?_
    have hq : r_cand S a b d = ((-1), S) := by unfold r_cand; rw [if_neg (fun q => v_8 q.1)]
    rw [show (S : hg_S) = (r_cand S a b d).2 from by rw [hq]] at hP hD
    exact W.iret (v := (-1)) hx hb hr (fun t ht hW => ⟨⟨_, (), rfl, by rw [hq], ⟨by rw [ht]; exact hP, hD⟩⟩, hS.F ht⟩) hS.2.2 dX5_candidate_30
  · skip
    have v_8 : ((nI 1) ≤ a ∧ a ≤ (nI 1000)) := hg_in_t c_8
    refine lv_iload_n hx hb dX5_candidate_11 rfl (lv_at hl 2 rfl) ?_
    refine vp_callSi (va_Run.run (va_runS (As := [.int b]) (rest := []) ⟨hx, hb, hml, hown, hts⟩ (m_X5_isPlanYear l b) (va_cwS 1 hts gX5_candidate_X5_isPlanYear rfl rfl rfl (by decide +kernel) ⟨Nat.le_of_ble_eq_true rfl, Nat.le_of_ble_eq_true rfl⟩) (h_preS0) rfl rfl hl.1 rfl (lv_room (Nat.le_of_ble_eq_true rfl)) dX5_candidate_12 ⟨Nat.le_of_ble_eq_true rfl, Nat.le_of_ble_eq_true rfl⟩)) (fun r_2 hr_2 => ?_)
    subst hr_2
    refine lv_if_eq (tgt := 29) hx hb dX5_candidate_15 (by decide) (fun c_15 => ?_) (fun c_15 => ?_)
    · skip
      have v_15 : ¬ ((nI 0) ≤ b ∧ b ≤ (nI 5)) := hg_in_f c_15
      refine lv_iconst (v := -1) hx hb dX5_candidate_29 (by decide) ?_
      have hq : r_cand S a b d = ((-1), S) := by unfold r_cand; rw [if_neg (fun q => v_15 q.2.1)]
      rw [show (S : hg_S) = (r_cand S a b d).2 from by rw [hq]] at hP hD
      exact W.iret (v := (-1)) hx hb hr (fun t ht hW => ⟨⟨_, (), rfl, by rw [hq], ⟨by rw [ht]; exact hP, hD⟩⟩, hS.F ht⟩) hS.2.2 dX5_candidate_30
    · skip
      have v_15 : ((nI 0) ≤ b ∧ b ≤ (nI 5)) := hg_in_t c_15
      refine lv_iload_n hx hb dX5_candidate_18 rfl (lv_at hl 3 rfl) ?_
      refine lv_iconst (v := nI 1) hx hb dX5_candidate_19 (by decide) ?_
      refine lv_sipush (v := nI 500) hx hb dX5_candidate_20 (by decide) ?_
      refine vp_callSi (va_Run.run (va_runS (As := [.int d, .int (nI 1), .int (nI 500)]) (rest := []) ⟨hx, hb, hml, hown, hts⟩ (m_X5_within l d (nI 1) (nI 500)) (va_cwS 3 hts gX5_candidate_X5_within rfl rfl rfl (by decide +kernel) ⟨Nat.le_of_ble_eq_true rfl, Nat.le_of_ble_eq_true rfl⟩) (h_preS0) rfl rfl hl.1 rfl (lv_room (Nat.le_of_ble_eq_true rfl)) dX5_candidate_23 ⟨Nat.le_of_ble_eq_true rfl, Nat.le_of_ble_eq_true rfl⟩)) (fun r_3 hr_3 => ?_)
      subst hr_3
      refine lv_if_ne (tgt := 31) hx hb dX5_candidate_26 (by decide) (fun c_26 => ?_) (fun c_26 => ?_)
      · skip
        have v_26 : ((nI 1) ≤ d ∧ d ≤ (nI 500)) := hg_in_t c_26
        refine lv_aload_n hx hb dX5_candidate_31 rfl (lv_at hl 0 rfl) ?_
        refine va_get (C := RX5) (T := TX5) (N := 6) (v := .ref (o 5)) hx hb hts hi5 hown hK hP 0 rfl rfl 4 (by decide) (hts (.fieldLink RX5 40 "HotGround" "offers" "LHotGround$Offers;") (by decide +kernel)) (fun _ h9 => h9) rfl dX5_candidate_32 ?_
        refine va_get (C := RX2) (T := TX2) (N := 5) (v := .int (nI (hg_n S 5))) hx hb hts hi2 hown hK hP 5 rfl rfl 0 (by decide) (hts (.fieldLink RX5 163 "HotGround$Offers" "count" "I") (by decide +kernel)) (fun _ h9 => h9) rfl dX5_candidate_35 ?_
        refine lv_bipush (v := nI 8) hx hb dX5_candidate_38 (by decide) ?_
        refine lv_icmp_lt (tgt := 46) hx hb dX5_candidate_40 (by decide) (fun c_40 => ?_) (fun c_40 => ?_)
        · skip
          have hc : hg_n S 5 < 8 := (nI_ltI (by omega) (by omega)).mp c_40
          refine lv_aload_n hx hb dX5_candidate_46 rfl (lv_at hl 0 rfl) ?_
          refine va_get (C := RX5) (T := TX5) (N := 6) (v := .ref (o 5)) hx hb hts hi5 hown hK hP 0 rfl rfl 4 (by decide) (hts (.fieldLink RX5 40 "HotGround" "offers" "LHotGround$Offers;") (by decide +kernel)) (fun _ h9 => h9) rfl dX5_candidate_47 ?_
          refine lv_iload_n hx hb dX5_candidate_50 rfl (lv_at hl 1 rfl) ?_
          refine lv_iload_n hx hb dX5_candidate_51 rfl (lv_at hl 2 rfl) ?_
          refine lv_iload_n hx hb dX5_candidate_52 rfl (lv_at hl 3 rfl) ?_
          refine h_calli (w1 := xW o cI cJ cZ (s_cand S a b d)) (va_runV (As := [.int a, .int b, .int d]) (rest := []) ⟨hx, hb, hml, hown, hts⟩ (m_X2_add l D o cI cJ cZ S s.heap.size hc a b d) (cwV 3 hts gX5_candidate_X2_add rfl rfl rfl (by decide +kernel) ⟨Nat.le_of_ble_eq_true rfl, Nat.le_of_ble_eq_true rfl⟩) (h_preW hK hP hD 5 rfl rfl rfl) rfl rfl hl.1 rfl (lv_room (Nat.le_of_ble_eq_true rfl)) dX5_candidate_53 ⟨Nat.le_of_ble_eq_true rfl, Nat.le_of_ble_eq_true rfl⟩) hS (h_all hD hS hA) (fun r_4 H locs hr_4 hP hD hS => ?_)
          subst hr_4
          have hq : r_cand S a b d = (nI (hg_n S 5), s_cand S a b d) := by unfold r_cand; rw [if_pos (⟨v_8, v_15, v_26⟩)]; rw [if_pos (by omega)]
          rw [show (s_cand S a b d : hg_S) = (r_cand S a b d).2 from by rw [hq]] at hP hD
          exact W.iret (v := nI (hg_n S 5)) hx hb hr (fun t ht hW => ⟨⟨_, (), rfl, by rw [hq], ⟨by rw [ht]; exact hP, hD⟩⟩, hS.F ht⟩) hS.2.2 dX5_candidate_56
        · skip
          have hc : ¬ hg_n S 5 < 8 := fun h => c_40 ((nI_ltI (by omega) (by omega)).mpr h)
          refine lv_bipush (v := -3) hx hb dX5_candidate_43 (by decide) ?_
          have hq : r_cand S a b d = ((-3), S) := by unfold r_cand; rw [if_pos (⟨v_8, v_15, v_26⟩)]; rw [if_neg (by omega)]
          rw [show (S : hg_S) = (r_cand S a b d).2 from by rw [hq]] at hP hD
          exact W.iret (v := (-3)) hx hb hr (fun t ht hW => ⟨⟨_, (), rfl, by rw [hq], ⟨by rw [ht]; exact hP, hD⟩⟩, hS.F ht⟩) hS.2.2 dX5_candidate_45
      · skip
        have v_26 : ¬ ((nI 1) ≤ d ∧ d ≤ (nI 500)) := hg_in_f c_26
        refine lv_iconst (v := -1) hx hb dX5_candidate_29 (by decide) ?_
        have hq : r_cand S a b d = ((-1), S) := by unfold r_cand; rw [if_neg (fun q => v_26 q.2.2)]
        rw [show (S : hg_S) = (r_cand S a b d).2 from by rw [hq]] at hP hD
        exact W.iret (v := (-1)) hx hb hr (fun t ht hW => ⟨⟨_, (), rfl, by rw [hq], ⟨by rw [ht]; exact hP, hD⟩⟩, hS.F ht⟩) hS.2.2 dX5_candidate_30
set_option maxHeartbeats 4000000 in
set_option maxRecDepth 100000 in
/-- promise -/
theorem m_X5_promise (l : Launch) (D : va_G) (o : Nat → Nat) (cI cJ cZ : ClassId) (S : hg_S) (sz : Nat) (y v : Int32) : Met l yX5_promise wsX5_promise ({ frames := 2, cells := 0, slots := 0, locals := 42 }) (va_Pc [.ref (o 0), .int y, .int v] (hg_Wr D (xW o cI cJ cZ S) (hg_ty cI cJ cZ) sz)) (va_Qi (fun (r : Int32) (_ : Unit) => r = (r_prom S y v).1) (fun _ t => hg_At D (xW o cI cJ cZ ((r_prom S y v).2)) (va_A (xW o cI cJ cZ S) sz) t) (va_A (xW o cI cJ cZ S) sz)) 0 0 (va_A (xW o cI cJ cZ S) sz) := by
  refine h_start (cc := cX5_promise) (maxL := 4) (ret := (some .int)) (by decide) rfl (Nat.le_of_ble_eq_true rfl) ?_
  intro pg ev s mi args below meth cd ls hx hb hr hts hown hlocks hml hnm hpic hl
  obtain ⟨hsz, hP, hK, hD0⟩ := hpic
  subst hsz
  have hD := hD0.self (sz := s.heap.size)
  generalize hAe : va_A (xW o cI cJ cZ S) s.heap.size = A at hD ⊢
  have hA : ∀ q : Nat, s.heap.size ≤ q → A q := fun q h => by rw [← hAe]; exact Or.inr h
  have hS : va_S A s.heap s.heap [] := va_S.rf
  have hi2 : ∀ w ∈ u_ws RX2 TX2 5, w ∈ wsX5_promise := by decide +kernel
  have hi5 : ∀ w ∈ u_ws RX5 TX5 6, w ∈ wsX5_promise := by decide +kernel
  have hl : lv_has ls 4 [(0, .ref (o 0)), (1, .int y), (2, .int v)] := hl
  refine lv_iload_n hx hb dX5_promise_0 rfl (lv_at hl 1 rfl) ?_
  refine vp_callSi (va_Run.run (va_runS (As := [.int y]) (rest := []) ⟨hx, hb, hml, hown, hts⟩ (m_X5_isPlanYear l y) (va_cwS 1 hts gX5_promise_X5_isPlanYear rfl rfl rfl (by decide +kernel) ⟨Nat.le_of_ble_eq_true rfl, Nat.le_of_ble_eq_true rfl⟩) (h_preS0) rfl rfl hl.1 rfl (lv_room (Nat.le_of_ble_eq_true rfl)) dX5_promise_1 ⟨Nat.le_of_ble_eq_true rfl, Nat.le_of_ble_eq_true rfl⟩)) (fun r_1 hr_1 => ?_)
  subst hr_1
  refine lv_if_eq (tgt := 18) hx hb dX5_promise_4 (by decide) (fun c_4 => ?_) (fun c_4 => ?_)
  · skip
    have v_4 : ¬ ((nI 0) ≤ y ∧ y ≤ (nI 5)) := hg_in_f c_4
    refine lv_iconst (v := -1) hx hb dX5_promise_18 (by decide) ?_
    have hq : r_prom S y v = ((-1), S) := by unfold r_prom; rw [if_neg (fun q => v_4 q.1)]
    rw [show (S : hg_S) = (r_prom S y v).2 from by rw [hq]] at hP hD
    exact W.iret (v := (-1)) hx hb hr (fun t ht hW => ⟨⟨_, (), rfl, by rw [hq], ⟨by rw [ht]; exact hP, hD⟩⟩, hS.F ht⟩) hS.2.2 dX5_promise_19
  · skip
    have v_4 : ((nI 0) ≤ y ∧ y ≤ (nI 5)) := hg_in_t c_4
    refine lv_iload_n hx hb dX5_promise_7 rfl (lv_at hl 2 rfl) ?_
    refine lv_iconst (v := nI 0) hx hb dX5_promise_8 (by decide) ?_
    refine lv_sipush (v := nI 3000) hx hb dX5_promise_9 (by decide) ?_
    refine vp_callSi (va_Run.run (va_runS (As := [.int v, .int (nI 0), .int (nI 3000)]) (rest := []) ⟨hx, hb, hml, hown, hts⟩ (m_X5_within l v (nI 0) (nI 3000)) (va_cwS 3 hts gX5_promise_X5_within rfl rfl rfl (by decide +kernel) ⟨Nat.le_of_ble_eq_true rfl, Nat.le_of_ble_eq_true rfl⟩) (h_preS0) rfl rfl hl.1 rfl (lv_room (Nat.le_of_ble_eq_true rfl)) dX5_promise_12 ⟨Nat.le_of_ble_eq_true rfl, Nat.le_of_ble_eq_true rfl⟩)) (fun r_2 hr_2 => ?_)
    subst hr_2
    refine lv_if_ne (tgt := 20) hx hb dX5_promise_15 (by decide) (fun c_15 => ?_) (fun c_15 => ?_)
    · skip
      have v_15 : ((nI 0) ≤ v ∧ v ≤ (nI 3000)) := hg_in_t c_15
      obtain ⟨ky, kyl, kyh, rfl⟩ := hg_rng (by decide) (by decide) v_4
      refine lv_aload_n hx hb dX5_promise_20 rfl (lv_at hl 0 rfl) ?_
      refine va_get (C := RX5) (T := TX5) (N := 6) (v := .ref (o 5)) hx hb hts hi5 hown hK hP 0 rfl rfl 4 (by decide) (hts (.fieldLink RX5 40 "HotGround" "offers" "LHotGround$Offers;") (by decide +kernel)) (fun _ h9 => h9) rfl dX5_promise_21 ?_
      refine va_get (C := RX2) (T := TX2) (N := 5) (v := .ref (o 25)) hx hb hts hi2 hown hK hP 5 rfl rfl 4 (by decide) (hts (.fieldLink RX5 165 "HotGround$Offers" "promised" "[I") (by decide +kernel)) (fun _ h9 => h9) rfl dX5_promise_24 ?_
      refine lv_iload_n hx hb dX5_promise_27 rfl (lv_at hl 1 rfl) ?_
      refine h_iald (f := hg_i S 16) hx hb hK hP 25 0 rfl rfl ky (rfl) (by omega) (by decide) dX5_promise_28 ?_
      refine lv_istore_n (lv' := [(3, .int (hg_i S 16 ky)), (0, .ref (o 0)), (1, .int (nI ky)), (2, .int v)]) hx hb dX5_promise_29 rfl hl (by decide) rfl (fun ls hl => ?_)
      refine lv_aload_n hx hb dX5_promise_30 rfl (lv_at hl 1 rfl) ?_
      refine va_get (C := RX5) (T := TX5) (N := 6) (v := .ref (o 5)) hx hb hts hi5 hown hK hP 0 rfl rfl 4 (by decide) (hts (.fieldLink RX5 40 "HotGround" "offers" "LHotGround$Offers;") (by decide +kernel)) (fun _ h9 => h9) rfl dX5_promise_31 ?_
      refine va_get (C := RX2) (T := TX2) (N := 5) (v := .ref (o 25)) hx hb hts hi2 hown hK hP 5 rfl rfl 4 (by decide) (hts (.fieldLink RX5 165 "HotGround$Offers" "promised" "[I") (by decide +kernel)) (fun _ h9 => h9) rfl dX5_promise_34 ?_
      refine lv_iload_n hx hb dX5_promise_37 rfl (lv_at hl 2 rfl) ?_
      refine lv_iload_n hx hb dX5_promise_38 rfl (lv_at hl 3 rfl) ?_
      refine h_iast (f := hg_i S 16) (ws' := xW o cI cJ cZ (hg_si S 16 (upd (hg_i S 16) ky v))) hx hb hK hP hD hS 25 0 rfl rfl ky (rfl) (by omega) (by decide) rfl dX5_promise_39 (fun H locs hP hD hS => ?_)
      refine lv_iload_n hx hb dX5_promise_40 rfl (lv_at hl 0 rfl) ?_
      have hq : r_prom S (nI ky) v = (hg_i S 16 ky, hg_si S 16 (upd (hg_i S 16) ky v)) := by unfold r_prom; rw [if_pos (⟨v_4, v_15⟩)]; (try rw [nI_clamp (show ky < 2 ^ 31 by omega)])
      rw [show (hg_si S 16 (upd (hg_i S 16) ky v) : hg_S) = (r_prom S (nI ky) v).2 from by rw [hq]] at hP hD
      exact W.iret (v := hg_i S 16 ky) hx hb hr (fun t ht hW => ⟨⟨_, (), rfl, by rw [hq], ⟨by rw [ht]; exact hP, hD⟩⟩, hS.F ht⟩) hS.2.2 dX5_promise_41
    · skip
      have v_15 : ¬ ((nI 0) ≤ v ∧ v ≤ (nI 3000)) := hg_in_f c_15
      refine lv_iconst (v := -1) hx hb dX5_promise_18 (by decide) ?_
      have hq : r_prom S y v = ((-1), S) := by unfold r_prom; rw [if_neg (fun q => v_15 q.2)]
      rw [show (S : hg_S) = (r_prom S y v).2 from by rw [hq]] at hP hD
      exact W.iret (v := (-1)) hx hb hr (fun t ht hW => ⟨⟨_, (), rfl, by rw [hq], ⟨by rw [ht]; exact hP, hD⟩⟩, hS.F ht⟩) hS.2.2 dX5_promise_19
set_option maxHeartbeats 4000000 in
set_option maxRecDepth 100000 in
/-- plan -/
theorem m_X5_plan (l : Launch) (D : va_G) (o : Nat → Nat) (cI cJ cZ : ClassId) (S : hg_S) (h5 : hg_n S 5 ≤ 8) (q : Int32) : Met l yX5_plan wsX5_plan ({ frames := 4, cells := 0, slots := 0, locals := 83 }) (va_Pc [.ref (o 0), .int q] (hg_R D (xW o cI cJ cZ S) (hg_ty cI cJ cZ))) (vp_Si (fun r => r = a_plan S q)) 0 0 (fun _ => False) := by
  refine h_start (cc := cX5_plan) (maxL := 3) (ret := (some .int)) (by decide) rfl (Nat.le_of_ble_eq_true rfl) ?_
  intro pg ev s mi args below meth cd ls hx hb hr hts hown hlocks hml hnm hpic hl
  obtain ⟨hP, hK⟩ := hpic
  have hi5 : ∀ w ∈ u_ws RX5 TX5 6, w ∈ wsX5_plan := by decide +kernel
  have hl : lv_has ls 3 [(0, .ref (o 0)), (1, .int q)] := hl
  refine lv_iload_n hx hb dX5_plan_0 rfl (lv_at hl 1 rfl) ?_
  refine lv_iconst (v := nI 0) hx hb dX5_plan_1 (by decide) ?_
  refine lv_iconst (v := nI 1) hx hb dX5_plan_2 (by decide) ?_
  refine vp_callSi (va_Run.run (va_runS (As := [.int q, .int (nI 0), .int (nI 1)]) (rest := []) ⟨hx, hb, hml, hown, hts⟩ (m_X5_within l q (nI 0) (nI 1)) (va_cwS 3 hts gX5_plan_X5_within rfl rfl rfl (by decide +kernel) ⟨Nat.le_of_ble_eq_true rfl, Nat.le_of_ble_eq_true rfl⟩) (h_preS0) rfl rfl hl.1 rfl (lv_room (Nat.le_of_ble_eq_true rfl)) dX5_plan_3 ⟨Nat.le_of_ble_eq_true rfl, Nat.le_of_ble_eq_true rfl⟩)) (fun r_1 hr_1 => ?_)
  subst hr_1
  refine lv_if_ne (tgt := 11) hx hb dX5_plan_6 (by decide) (fun c_6 => ?_) (fun c_6 => ?_)
  · skip
    have v_6 : ((nI 0) ≤ q ∧ q ≤ (nI 1)) := hg_in_t c_6
    refine lv_aload_n hx hb dX5_plan_11 rfl (lv_at hl 0 rfl) ?_
    refine va_get (C := RX5) (T := TX5) (N := 6) (v := .ref (o 5)) hx hb hts hi5 hown hK hP 0 rfl rfl 4 (by decide) (hts (.fieldLink RX5 40 "HotGround" "offers" "LHotGround$Offers;") (by decide +kernel)) (fun _ h9 => h9) rfl dX5_plan_12 ?_
    refine vp_callSi (va_Run.run (va_runV (As := []) (rest := []) ⟨hx, hb, hml, hown, hts⟩ (m_X2_cheapest l D o cI cJ cZ S h5) (cwV 0 hts gX5_plan_X2_cheapest rfl rfl rfl (by decide +kernel) ⟨Nat.le_of_ble_eq_true rfl, Nat.le_of_ble_eq_true rfl⟩) (h_preR hK hP 5 rfl rfl rfl) rfl rfl hl.1 rfl (lv_room (Nat.le_of_ble_eq_true rfl)) dX5_plan_15 ⟨Nat.le_of_ble_eq_true rfl, Nat.le_of_ble_eq_true rfl⟩)) (fun r_2 hr_2 => ?_)
    subst hr_2
    refine lv_istore_n (lv' := [(2, .int (f_bst S)), (0, .ref (o 0)), (1, .int q)]) hx hb dX5_plan_18 rfl hl (by decide) rfl (fun ls hl => ?_)
    refine lv_iload_n hx hb dX5_plan_19 rfl (lv_at hl 0 rfl) ?_
    refine lv_bipush (v := -9) hx hb dX5_plan_20 (by decide) ?_
    refine lv_icmp_ne (tgt := 28) hx hb dX5_plan_22 (by decide) (fun c_22 => ?_) (fun c_22 => ?_)
    · skip
      refine lv_iload_n hx hb dX5_plan_28 rfl (lv_at hl 2 rfl) ?_
      refine lv_if_ne (tgt := 36) hx hb dX5_plan_29 (by decide) (fun c_29 => ?_) (fun c_29 => ?_)
      · skip
        refine lv_aload_n hx hb dX5_plan_36 rfl (lv_at hl 1 rfl) ?_
        refine va_get (C := RX5) (T := TX5) (N := 6) (v := .ref (o 5)) hx hb hts hi5 hown hK hP 0 rfl rfl 4 (by decide) (hts (.fieldLink RX5 40 "HotGround" "offers" "LHotGround$Offers;") (by decide +kernel)) (fun _ h9 => h9) rfl dX5_plan_37 ?_
        refine lv_iload_n hx hb dX5_plan_40 rfl (lv_at hl 0 rfl) ?_
        refine vp_callSi (va_Run.run (va_runV (As := [.int (f_bst S)]) (rest := []) ⟨hx, hb, hml, hown, hts⟩ (m_X2_price l D o cI cJ cZ S h5 (f_bst S)) (cwV 1 hts gX5_plan_X2_price rfl rfl rfl (by decide +kernel) ⟨Nat.le_of_ble_eq_true rfl, Nat.le_of_ble_eq_true rfl⟩) (h_preR hK hP 5 rfl rfl rfl) rfl rfl hl.1 rfl (lv_room (Nat.le_of_ble_eq_true rfl)) dX5_plan_41 ⟨Nat.le_of_ble_eq_true rfl, Nat.le_of_ble_eq_true rfl⟩)) (fun r_3 hr_3 => ?_)
        subst hr_3
        exact W.iret (v := f_cost S (f_bst S)) hx hb hr (fun t ht hW => ⟨_, rfl, by show f_cost S (f_bst S) = a_plan S q; unfold a_plan; rw [if_pos v_6]; rw [if_neg c_22]; rw [if_neg (fun h => c_29 (h.trans nI_0))], ht⟩) (fun _ h9 => nomatch h9) dX5_plan_44
      · skip
        refine lv_iload_n hx hb dX5_plan_32 rfl (lv_at hl 0 rfl) ?_
        refine lv_goto (tgt := 44) hx hb dX5_plan_33 (by decide) ?_
        exact W.iret (v := f_bst S) hx hb hr (fun t ht hW => ⟨_, rfl, by show f_bst S = a_plan S q; unfold a_plan; rw [if_pos v_6]; rw [if_neg c_22]; rw [if_pos (c_29.trans nI_0.symm)], ht⟩) (fun _ h9 => nomatch h9) dX5_plan_44
    · skip
      refine lv_bipush (v := -9) hx hb dX5_plan_25 (by decide) ?_
      exact W.iret (v := (-9)) hx hb hr (fun t ht hW => ⟨_, rfl, by show (-9) = a_plan S q; unfold a_plan; rw [if_pos v_6]; rw [if_pos c_22], ht⟩) (fun _ h9 => nomatch h9) dX5_plan_27
  · skip
    have v_6 : ¬ ((nI 0) ≤ q ∧ q ≤ (nI 1)) := hg_in_f c_6
    refine lv_iconst (v := -1) hx hb dX5_plan_9 (by decide) ?_
    exact W.iret (v := (-1)) hx hb hr (fun t ht hW => ⟨_, rfl, by show (-1) = a_plan S q; unfold a_plan; rw [if_neg (fun q => v_6 q)], ht⟩) (fun _ h9 => nomatch h9) dX5_plan_10
set_option maxHeartbeats 4000000 in
set_option maxRecDepth 100000 in
/-- lacks -/
theorem m_X5_lacks (l : Launch) (D : va_G) (o : Nat → Nat) (cI cJ cZ : ClassId) (S : hg_S) (h5 : hg_n S 5 ≤ 8) (a y : Int32) : Met l yX5_lacks wsX5_lacks ({ frames := 2, cells := 0, slots := 0, locals := 42 }) (va_Pc [.ref (o 0), .int a, .int y] (hg_R D (xW o cI cJ cZ S) (hg_ty cI cJ cZ))) (vp_Si (fun r => r = a_lacks S a y)) 0 0 (fun _ => False) := by
  refine h_start (cc := cX5_lacks) (maxL := 3) (ret := (some .int)) (by decide) rfl (Nat.le_of_ble_eq_true rfl) ?_
  intro pg ev s mi args below meth cd ls hx hb hr hts hown hlocks hml hnm hpic hl
  obtain ⟨hP, hK⟩ := hpic
  have hi5 : ∀ w ∈ u_ws RX5 TX5 6, w ∈ wsX5_lacks := by decide +kernel
  have hl : lv_has ls 3 [(0, .ref (o 0)), (1, .int a), (2, .int y)] := hl
  refine lv_iload_n hx hb dX5_lacks_0 rfl (lv_at hl 1 rfl) ?_
  refine lv_iconst (v := nI 0) hx hb dX5_lacks_1 (by decide) ?_
  refine lv_aload_n hx hb dX5_lacks_2 rfl (lv_at hl 0 rfl) ?_
  refine va_get (C := RX5) (T := TX5) (N := 6) (v := .ref (o 5)) hx hb hts hi5 hown hK hP 0 rfl rfl 4 (by decide) (hts (.fieldLink RX5 40 "HotGround" "offers" "LHotGround$Offers;") (by decide +kernel)) (fun _ h9 => h9) rfl dX5_lacks_3 ?_
  refine vp_callSi (va_Run.run (va_runV (As := []) (rest := [.int (nI 0), .int a]) ⟨hx, hb, hml, hown, hts⟩ (m_X2_sets l D o cI cJ cZ S h5) (cwV 0 hts gX5_lacks_X2_sets rfl rfl rfl (by decide +kernel) ⟨Nat.le_of_ble_eq_true rfl, Nat.le_of_ble_eq_true rfl⟩) (h_preR hK hP 5 rfl rfl rfl) rfl rfl hl.1 rfl (lv_room (Nat.le_of_ble_eq_true rfl)) dX5_lacks_6 ⟨Nat.le_of_ble_eq_true rfl, Nat.le_of_ble_eq_true rfl⟩)) (fun r_1 hr_1 => ?_)
  subst hr_1
  refine lv_iconst (v := nI 1) hx hb dX5_lacks_9 (by decide) ?_
  refine lv_isub hx hb dX5_lacks_10 ?_
  refine vp_callSi (va_Run.run (va_runS (As := [.int a, .int (nI 0), .int ((nI (2 ^ hg_n S 5)) - (nI 1))]) (rest := []) ⟨hx, hb, hml, hown, hts⟩ (m_X5_within l a (nI 0) ((nI (2 ^ hg_n S 5)) - (nI 1))) (va_cwS 3 hts gX5_lacks_X5_within rfl rfl rfl (by decide +kernel) ⟨Nat.le_of_ble_eq_true rfl, Nat.le_of_ble_eq_true rfl⟩) (h_preS0) rfl rfl hl.1 rfl (lv_room (Nat.le_of_ble_eq_true rfl)) dX5_lacks_11 ⟨Nat.le_of_ble_eq_true rfl, Nat.le_of_ble_eq_true rfl⟩)) (fun r_2 hr_2 => ?_)
  subst hr_2
  refine lv_if_eq (tgt := 24) hx hb dX5_lacks_14 (by decide) (fun c_14 => ?_) (fun c_14 => ?_)
  · skip
    have v_14 : ¬ ((nI 0) ≤ a ∧ a ≤ ((nI (2 ^ hg_n S 5)) - (nI 1))) := hg_in_f c_14
    refine lv_iconst (v := -1) hx hb dX5_lacks_24 (by decide) ?_
    exact W.iret (v := (-1)) hx hb hr (fun t ht hW => ⟨_, rfl, by show (-1) = a_lacks S a y; unfold a_lacks; rw [if_neg (fun q => v_14 q.1)], ht⟩) (fun _ h9 => nomatch h9) dX5_lacks_25
  · skip
    have v_14 : ((nI 0) ≤ a ∧ a ≤ ((nI (2 ^ hg_n S 5)) - (nI 1))) := hg_in_t c_14
    refine lv_iload_n hx hb dX5_lacks_17 rfl (lv_at hl 2 rfl) ?_
    refine vp_callSi (va_Run.run (va_runS (As := [.int y]) (rest := []) ⟨hx, hb, hml, hown, hts⟩ (m_X5_isPlanYear l y) (va_cwS 1 hts gX5_lacks_X5_isPlanYear rfl rfl rfl (by decide +kernel) ⟨Nat.le_of_ble_eq_true rfl, Nat.le_of_ble_eq_true rfl⟩) (h_preS0) rfl rfl hl.1 rfl (lv_room (Nat.le_of_ble_eq_true rfl)) dX5_lacks_18 ⟨Nat.le_of_ble_eq_true rfl, Nat.le_of_ble_eq_true rfl⟩)) (fun r_3 hr_3 => ?_)
    subst hr_3
    refine lv_if_ne (tgt := 26) hx hb dX5_lacks_21 (by decide) (fun c_21 => ?_) (fun c_21 => ?_)
    · skip
      have v_21 : ((nI 0) ≤ y ∧ y ≤ (nI 5)) := hg_in_t c_21
      obtain ⟨ky, kyl, kyh, rfl⟩ := hg_rng (by decide) (by decide) v_21
      refine lv_aload_n hx hb dX5_lacks_26 rfl (lv_at hl 0 rfl) ?_
      refine va_get (C := RX5) (T := TX5) (N := 6) (v := .ref (o 5)) hx hb hts hi5 hown hK hP 0 rfl rfl 4 (by decide) (hts (.fieldLink RX5 40 "HotGround" "offers" "LHotGround$Offers;") (by decide +kernel)) (fun _ h9 => h9) rfl dX5_lacks_27 ?_
      refine lv_iload_n hx hb dX5_lacks_30 rfl (lv_at hl 1 rfl) ?_
      refine lv_iload_n hx hb dX5_lacks_31 rfl (lv_at hl 2 rfl) ?_
      refine vp_callSi (va_Run.run (va_runV (As := [.int a, .int (nI ky)]) (rest := []) ⟨hx, hb, hml, hown, hts⟩ (m_X2_missing l D o cI cJ cZ S h5 a ky (by omega)) (cwV 2 hts gX5_lacks_X2_missing rfl rfl rfl (by decide +kernel) ⟨Nat.le_of_ble_eq_true rfl, Nat.le_of_ble_eq_true rfl⟩) (h_preR hK hP 5 rfl rfl rfl) rfl rfl hl.1 rfl (lv_room (Nat.le_of_ble_eq_true rfl)) dX5_lacks_32 ⟨Nat.le_of_ble_eq_true rfl, Nat.le_of_ble_eq_true rfl⟩)) (fun r_4 hr_4 => ?_)
      subst hr_4
      exact W.iret (v := f_lack S a ky) hx hb hr (fun t ht hW => ⟨_, rfl, by show f_lack S a ky = a_lacks S a (nI ky); unfold a_lacks; rw [if_pos (⟨v_14, v_21⟩)]; (try rw [nI_clamp (show ky < 2 ^ 31 by omega)]), ht⟩) (fun _ h9 => nomatch h9) dX5_lacks_35
    · skip
      have v_21 : ¬ ((nI 0) ≤ y ∧ y ≤ (nI 5)) := hg_in_f c_21
      refine lv_iconst (v := -1) hx hb dX5_lacks_24 (by decide) ?_
      exact W.iret (v := (-1)) hx hb hr (fun t ht hW => ⟨_, rfl, by show (-1) = a_lacks S a y; unfold a_lacks; rw [if_neg (fun q => v_21 q.2)], ht⟩) (fun _ h9 => nomatch h9) dX5_lacks_25
set_option maxHeartbeats 4000000 in
set_option maxRecDepth 100000 in
/-- count -/
theorem m_X5_count (l : Launch) (D : va_G) (o : Nat → Nat) (cI cJ cZ : ClassId) (S : hg_S) (h0 : hg_n S 0 ≤ 8) (h1 : hg_n S 1 ≤ 4) (q : Int32) : Met l yX5_count wsX5_count ({ frames := 1, cells := 0, slots := 0, locals := 23 }) (va_Pc [.ref (o 0), .int q] (hg_R D (xW o cI cJ cZ S) (hg_ty cI cJ cZ))) (vp_Si (fun r => r = a_count S q)) 0 0 (fun _ => False) := by
  refine h_start (cc := cX5_count) (maxL := 2) (ret := (some .int)) (by decide) rfl (Nat.le_of_ble_eq_true rfl) ?_
  intro pg ev s mi args below meth cd ls hx hb hr hts hown hlocks hml hnm hpic hl
  obtain ⟨hP, hK⟩ := hpic
  have hi1 : ∀ w ∈ u_ws RX1 TX1 3, w ∈ wsX5_count := by decide +kernel
  have hi2 : ∀ w ∈ u_ws RX2 TX2 5, w ∈ wsX5_count := by decide +kernel
  have hi3 : ∀ w ∈ u_ws RX3 TX3 5, w ∈ wsX5_count := by decide +kernel
  have hi4 : ∀ w ∈ u_ws RX4 TX4 6, w ∈ wsX5_count := by decide +kernel
  have hi5 : ∀ w ∈ u_ws RX5 TX5 6, w ∈ wsX5_count := by decide +kernel
  have hl : lv_has ls 2 [(0, .ref (o 0)), (1, .int q)] := hl
  refine lv_iload_n hx hb dX5_count_0 rfl (lv_at hl 1 rfl) ?_
  by_cases e0 : q = nI 0
  · subst e0
    refine lv_tableIn (off := 39) (tgt := 40) hx hb dX5_count_1 (by decide) (by decide) (by decide) (by decide) ?_
    refine lv_aload_n hx hb dX5_count_40 rfl (lv_at hl 0 rfl) ?_
    refine va_get (C := RX5) (T := TX5) (N := 6) (v := .ref (o 1)) hx hb hts hi5 hown hK hP 0 rfl rfl 0 (by decide) (hts (.fieldLink RX5 10 "HotGround" "wells" "LHotGround$Wells;") (by decide +kernel)) (fun _ h9 => h9) rfl dX5_count_41 ?_
    refine va_get (C := RX4) (T := TX4) (N := 6) (v := .int (nI (hg_n S 0))) hx hb hts hi4 hown hK hP 1 rfl rfl 0 (by decide) (hts (.fieldLink RX5 52 "HotGround$Wells" "count" "I") (by decide +kernel)) (fun _ h9 => h9) rfl dX5_count_44 ?_
    exact W.iret (v := nI (hg_n S 0)) hx hb hr (fun t ht hW => ⟨_, rfl, by show nI (hg_n S 0) = a_count S (nI 0); unfold a_count; rw [if_pos rfl], ht⟩) (fun _ h9 => nomatch h9) dX5_count_47
  · skip
    by_cases e1 : q = nI 1
    · subst e1
      refine lv_tableIn (off := 47) (tgt := 48) hx hb dX5_count_1 (by decide) (by decide) (by decide) (by decide) ?_
      refine lv_aload_n hx hb dX5_count_48 rfl (lv_at hl 0 rfl) ?_
      refine va_get (C := RX5) (T := TX5) (N := 6) (v := .ref (o 2)) hx hb hts hi5 hown hK hP 0 rfl rfl 1 (by decide) (hts (.fieldLink RX5 19 "HotGround" "plant" "LHotGround$Plant;") (by decide +kernel)) (fun _ h9 => h9) rfl dX5_count_49 ?_
      refine va_get (C := RX3) (T := TX3) (N := 5) (v := .int (nI (hg_n S 1))) hx hb hts hi3 hown hK hP 2 rfl rfl 0 (by decide) (hts (.fieldLink RX5 95 "HotGround$Plant" "count" "I") (by decide +kernel)) (fun _ h9 => h9) rfl dX5_count_52 ?_
      exact W.iret (v := nI (hg_n S 1)) hx hb hr (fun t ht hW => ⟨_, rfl, by show nI (hg_n S 1) = a_count S (nI 1); unfold a_count; rw [if_neg (by decide)]; rw [if_pos rfl], ht⟩) (fun _ h9 => nomatch h9) dX5_count_55
    · skip
      by_cases e2 : q = nI 2
      · subst e2
        refine lv_tableIn (off := 55) (tgt := 56) hx hb dX5_count_1 (by decide) (by decide) (by decide) (by decide) ?_
        refine lv_aload_n hx hb dX5_count_56 rfl (lv_at hl 0 rfl) ?_
        refine va_get (C := RX5) (T := TX5) (N := 6) (v := .ref (o 5)) hx hb hts hi5 hown hK hP 0 rfl rfl 4 (by decide) (hts (.fieldLink RX5 40 "HotGround" "offers" "LHotGround$Offers;") (by decide +kernel)) (fun _ h9 => h9) rfl dX5_count_57 ?_
        refine va_get (C := RX2) (T := TX2) (N := 5) (v := .int (nI (hg_n S 5))) hx hb hts hi2 hown hK hP 5 rfl rfl 0 (by decide) (hts (.fieldLink RX5 163 "HotGround$Offers" "count" "I") (by decide +kernel)) (fun _ h9 => h9) rfl dX5_count_60 ?_
        exact W.iret (v := nI (hg_n S 5)) hx hb hr (fun t ht hW => ⟨_, rfl, by show nI (hg_n S 5) = a_count S (nI 2); unfold a_count; rw [if_neg (by decide)]; rw [if_neg (by decide)]; rw [if_pos rfl], ht⟩) (fun _ h9 => nomatch h9) dX5_count_63
      · skip
        by_cases e3 : q = nI 3
        · subst e3
          refine lv_tableIn (off := 63) (tgt := 64) hx hb dX5_count_1 (by decide) (by decide) (by decide) (by decide) ?_
          refine lv_aload_n hx hb dX5_count_64 rfl (lv_at hl 0 rfl) ?_
          refine va_get (C := RX5) (T := TX5) (N := 6) (v := .ref (o 4)) hx hb hts hi5 hown hK hP 0 rfl rfl 3 (by decide) (hts (.fieldLink RX5 33 "HotGround" "kernel" "LHotGround$Kernel;") (by decide +kernel)) (fun _ h9 => h9) rfl dX5_count_65 ?_
          refine va_get (C := RX1) (T := TX1) (N := 3) (v := .int (nI (hg_n S 4))) hx hb hts hi1 hown hK hP 4 rfl rfl 0 (by decide) (hts (.fieldLink RX5 153 "HotGround$Kernel" "count" "I") (by decide +kernel)) (fun _ h9 => h9) rfl dX5_count_68 ?_
          exact W.iret (v := nI (hg_n S 4)) hx hb hr (fun t ht hW => ⟨_, rfl, by show nI (hg_n S 4) = a_count S (nI 3); unfold a_count; rw [if_neg (by decide)]; rw [if_neg (by decide)]; rw [if_neg (by decide)]; rw [if_pos rfl], ht⟩) (fun _ h9 => nomatch h9) dX5_count_71
        · skip
          by_cases e4 : q = nI 4
          · subst e4
            refine lv_tableIn (off := 71) (tgt := 72) hx hb dX5_count_1 (by decide) (by decide) (by decide) (by decide) ?_
            refine lv_aload_n hx hb dX5_count_72 rfl (lv_at hl 0 rfl) ?_
            refine va_get (C := RX5) (T := TX5) (N := 6) (v := .ref (o 1)) hx hb hts hi5 hown hK hP 0 rfl rfl 0 (by decide) (hts (.fieldLink RX5 10 "HotGround" "wells" "LHotGround$Wells;") (by decide +kernel)) (fun _ h9 => h9) rfl dX5_count_73 ?_
            refine va_get (C := RX4) (T := TX4) (N := 6) (v := .ref (o 9)) hx hb hts hi4 hown hK hP 1 rfl rfl 4 (by decide) (hts (.fieldLink RX5 68 "HotGround$Wells" "open" "[Z") (by decide +kernel)) (fun _ h9 => h9) rfl dX5_count_76 ?_
            refine lv_aload_n hx hb dX5_count_79 rfl (lv_at hl 0 rfl) ?_
            refine va_get (C := RX5) (T := TX5) (N := 6) (v := .ref (o 1)) hx hb hts hi5 hown hK hP 0 rfl rfl 0 (by decide) (hts (.fieldLink RX5 10 "HotGround" "wells" "LHotGround$Wells;") (by decide +kernel)) (fun _ h9 => h9) rfl dX5_count_80 ?_
            refine va_get (C := RX4) (T := TX4) (N := 6) (v := .int (nI (hg_n S 0))) hx hb hts hi4 hown hK hP 1 rfl rfl 0 (by decide) (hts (.fieldLink RX5 52 "HotGround$Wells" "count" "I") (by decide +kernel)) (fun _ h9 => h9) rfl dX5_count_83 ?_
            refine vp_callSi (va_Run.run (va_runS (As := [.ref (o 9), .int (nI (hg_n S 0))]) (rest := []) ⟨hx, hb, hml, hown, hts⟩ (m_X5_trues3 l D o cI cJ cZ S (hg_n S 0) (by omega)) (va_cwS 2 hts gX5_count_X5_trues rfl rfl rfl (by decide +kernel) ⟨Nat.le_of_ble_eq_true rfl, Nat.le_of_ble_eq_true rfl⟩) (h_preSR hK hP) rfl rfl hl.1 rfl (lv_room (Nat.le_of_ble_eq_true rfl)) dX5_count_86 ⟨Nat.le_of_ble_eq_true rfl, Nat.le_of_ble_eq_true rfl⟩)) (fun r_1 hr_1 => ?_)
            subst hr_1
            exact W.iret (v := f_tr (hg_i S 3) (hg_n S 0)) hx hb hr (fun t ht hW => ⟨_, rfl, by show f_tr (hg_i S 3) (hg_n S 0) = a_count S (nI 4); unfold a_count; rw [if_neg (by decide)]; rw [if_neg (by decide)]; rw [if_neg (by decide)]; rw [if_neg (by decide)]; rw [if_pos rfl], ht⟩) (fun _ h9 => nomatch h9) dX5_count_89
          · skip
            by_cases e5 : q = nI 5
            · subst e5
              refine lv_tableIn (off := 89) (tgt := 90) hx hb dX5_count_1 (by decide) (by decide) (by decide) (by decide) ?_
              refine lv_aload_n hx hb dX5_count_90 rfl (lv_at hl 0 rfl) ?_
              refine va_get (C := RX5) (T := TX5) (N := 6) (v := .ref (o 2)) hx hb hts hi5 hown hK hP 0 rfl rfl 1 (by decide) (hts (.fieldLink RX5 19 "HotGround" "plant" "LHotGround$Plant;") (by decide +kernel)) (fun _ h9 => h9) rfl dX5_count_91 ?_
              refine va_get (C := RX3) (T := TX3) (N := 5) (v := .ref (o 14)) hx hb hts hi3 hown hK hP 2 rfl rfl 4 (by decide) (hts (.fieldLink RX5 99 "HotGround$Plant" "on" "[Z") (by decide +kernel)) (fun _ h9 => h9) rfl dX5_count_94 ?_
              refine lv_aload_n hx hb dX5_count_97 rfl (lv_at hl 0 rfl) ?_
              refine va_get (C := RX5) (T := TX5) (N := 6) (v := .ref (o 2)) hx hb hts hi5 hown hK hP 0 rfl rfl 1 (by decide) (hts (.fieldLink RX5 19 "HotGround" "plant" "LHotGround$Plant;") (by decide +kernel)) (fun _ h9 => h9) rfl dX5_count_98 ?_
              refine va_get (C := RX3) (T := TX3) (N := 5) (v := .int (nI (hg_n S 1))) hx hb hts hi3 hown hK hP 2 rfl rfl 0 (by decide) (hts (.fieldLink RX5 95 "HotGround$Plant" "count" "I") (by decide +kernel)) (fun _ h9 => h9) rfl dX5_count_101 ?_
              refine vp_callSi (va_Run.run (va_runS (As := [.ref (o 14), .int (nI (hg_n S 1))]) (rest := []) ⟨hx, hb, hml, hown, hts⟩ (m_X5_trues8 l D o cI cJ cZ S (hg_n S 1) (by omega)) (va_cwS 2 hts gX5_count_X5_trues rfl rfl rfl (by decide +kernel) ⟨Nat.le_of_ble_eq_true rfl, Nat.le_of_ble_eq_true rfl⟩) (h_preSR hK hP) rfl rfl hl.1 rfl (lv_room (Nat.le_of_ble_eq_true rfl)) dX5_count_104 ⟨Nat.le_of_ble_eq_true rfl, Nat.le_of_ble_eq_true rfl⟩)) (fun r_2 hr_2 => ?_)
              subst hr_2
              exact W.iret (v := f_tr (hg_i S 8) (hg_n S 1)) hx hb hr (fun t ht hW => ⟨_, rfl, by show f_tr (hg_i S 8) (hg_n S 1) = a_count S (nI 5); unfold a_count; rw [if_neg (by decide)]; rw [if_neg (by decide)]; rw [if_neg (by decide)]; rw [if_neg (by decide)]; rw [if_neg (by decide)]; rw [if_pos rfl], ht⟩) (fun _ h9 => nomatch h9) dX5_count_107
            · skip
              refine lv_tableOut (tgt := 108) hx hb dX5_count_1 (hg_out (n := 5) (by decide) (fun j hj => by rcases (show j = 0 ∨ j = 1 ∨ j = 2 ∨ j = 3 ∨ j = 4 ∨ j = 5 by omega) with rfl | rfl | rfl | rfl | rfl | rfl <;> assumption)) (by decide) ?_
              refine lv_iconst (v := -1) hx hb dX5_count_108 (by decide) ?_
              exact W.iret (v := (-1)) hx hb hr (fun t ht hW => ⟨_, rfl, by show (-1) = a_count S q; unfold a_count; rw [if_neg e0, if_neg e1, if_neg e2, if_neg e3, if_neg e4, if_neg e5], ht⟩) (fun _ h9 => nomatch h9) dX5_count_109
set_option maxHeartbeats 4000000 in
set_option maxRecDepth 100000 in
/-- trace -/
theorem m_X5_trace (l : Launch) (D : va_G) (o : Nat → Nat) (cI cJ cZ : ClassId) (S : hg_S)  : Met l yX5_trace wsX5_trace ({ frames := 0, cells := 0, slots := 0, locals := 0 }) (va_Pc [.ref (o 0)] (hg_R D (xW o cI cJ cZ S) (hg_ty cI cJ cZ))) (vp_Sl (fun r => r = hg_t S)) 0 0 (fun _ => False) := by
  refine h_start (cc := cX5_trace) (maxL := 1) (ret := (some .long)) (by decide) rfl (Nat.le_of_ble_eq_true rfl) ?_
  intro pg ev s mi args below meth cd ls hx hb hr hts hown hlocks hml hnm hpic hl
  obtain ⟨hP, hK⟩ := hpic
  have hi5 : ∀ w ∈ u_ws RX5 TX5 6, w ∈ wsX5_trace := by decide +kernel
  have hl : lv_has ls 1 [(0, .ref (o 0))] := hl
  refine lv_aload_n hx hb dX5_trace_0 rfl (lv_at hl 0 rfl) ?_
  refine va_get (C := RX5) (T := TX5) (N := 6) (v := .long (hg_t S)) hx hb hts hi5 hown hK hP 0 rfl rfl 5 (by decide) (hts (.fieldLink RX5 44 "HotGround" "trace" "J") (by decide +kernel)) (fun _ h9 => h9) rfl dX5_trace_1 ?_
  exact W.lret (v := hg_t S) hx hb hr (fun t ht hW => ⟨_, rfl, rfl, ht⟩) (fun _ h9 => nomatch h9) dX5_trace_4
