set_option maxHeartbeats 4000000 in
set_option maxRecDepth 100000 in
/-- a leak -/
theorem m_X6_leaks (l : Launch) (D : va_G) (o : Nat → Nat) (cI cJ cZ : ClassId) (S : hg_S) (sz : Nat) (hlk : ok_lk S) (B : Int) (hB : B < 2 ^ 62) (hm : ok_ms S B) (k : Nat) (hk : k < 3) : Met l yX6_leaks wsX6_leaks ({ frames := 1, cells := 0, slots := 0, locals := 25 }) (va_Pc [.ref (o 0), .int (nI k)] (hg_Wr D (mW o cI cJ cZ S) (hg_ty cI cJ cZ) sz)) (va_Qv (fun (_ : Unit) => True) (fun _ t => hg_At D (mW o cI cJ cZ (s_leak S k)) (va_A (mW o cI cJ cZ S) sz) t) (va_A (mW o cI cJ cZ S) sz)) 0 0 (va_A (mW o cI cJ cZ S) sz) := by
  refine h_start (cc := cX6_leaks) (maxL := 9) (ret := none) (by decide) rfl (Nat.le_of_ble_eq_true rfl) ?_
  intro pg ev s mi args below meth cd ls hx hb hr hts hown hlocks hml hnm hpic hl
  obtain ⟨hsz, hP, hK, hD0⟩ := hpic
  subst hsz
  have hD := hD0.self (sz := s.heap.size)
  generalize hAe : va_A (mW o cI cJ cZ S) s.heap.size = A at hD ⊢
  have hA : ∀ q : Nat, s.heap.size ≤ q → A q := fun q h => by rw [← hAe]; exact Or.inr h
  have hS : va_S A s.heap s.heap [] := va_S.rf
  have hi6 : ∀ w ∈ u_ws RX6 TX6 27, w ∈ wsX6_leaks := by decide +kernel
  have hl : lv_has ls 9 [(0, .ref (o 0)), (1, .int (nI k))] := hl
  refine lv_aload_n hx hb dX6_leaks_0 rfl (lv_at hl 0 rfl) ?_
  refine va_get (C := RX6) (T := TX6) (N := 27) (v := .ref (o 10)) hx hb hts hi6 hown hK hP 0 rfl rfl 12 (by decide) (hts (.fieldLink RX6 38 "HotGroundModel" "mass" "[J") (by decide +kernel)) (fun _ h9 => h9) rfl dX6_leaks_1 ?_
  refine lv_iload_n hx hb dX6_leaks_4 rfl (lv_at hl 1 rfl) ?_
  refine h_lald (f := hg_l S 0) hx hb hK hP 10 1 rfl rfl k (rfl) (by omega) (by decide) dX6_leaks_5 ?_
  refine lv_aload_n hx hb dX6_leaks_6 rfl (lv_at hl 0 rfl) ?_
  refine va_get (C := RX6) (T := TX6) (N := 27) (v := .ref (o 10)) hx hb hts hi6 hown hK hP 0 rfl rfl 12 (by decide) (hts (.fieldLink RX6 38 "HotGroundModel" "mass" "[J") (by decide +kernel)) (fun _ h9 => h9) rfl dX6_leaks_7 ?_
  refine lv_iload_n hx hb dX6_leaks_10 rfl (lv_at hl 1 rfl) ?_
  refine lv_iconst (v := nI 1) hx hb dX6_leaks_11 (by decide) ?_
  refine lv_iadd hx hb dX6_leaks_12 ?_
  refine h_topi (y := nI (k + 1)) (nI_add _ _) ?_
  refine h_lald (f := hg_l S 0) hx hb hK hP 10 1 rfl rfl (k + 1) (rfl) (by omega) (by decide) dX6_leaks_13 ?_
  refine lv_lsub hx hb dX6_leaks_14 ?_
  refine lv_lstore_n (lv' := [(2, .long ((hg_l S 0 k) - (hg_l S 0 (k + 1)))), (0, .ref (o 0)), (1, .int (nI k))]) hx hb dX6_leaks_15 rfl hl (by decide) rfl (fun ls hl => ?_)
  refine lv_lload_n hx hb dX6_leaks_16 rfl (lv_at hl 0 rfl) ?_
  refine lv_lconst (v := 0) hx hb dX6_leaks_17 (by decide) ?_
  refine W.lcmp hx hb dX6_leaks_18 ?_
  refine lv_if_le (tgt := 26) hx hb dX6_leaks_19 (by decide) (fun c_19 => ?_) (fun c_19 => ?_)
  · skip
    refine lv_iload_n hx hb dX6_leaks_26 rfl (lv_at hl 2 rfl) ?_
    refine lv_iconst (v := nI 1) hx hb dX6_leaks_27 (by decide) ?_
    refine lv_iadd hx hb dX6_leaks_28 ?_
    refine h_topi (y := nI (k + 1)) (nI_add _ _) ?_
    refine lv_istore (lv' := [(4, .int (nI (k + 1))), (2, .long ((hg_l S 0 k) - (hg_l S 0 (k + 1)))), (0, .ref (o 0)), (1, .int (nI k))]) hx hb dX6_leaks_29 hl (by decide) rfl (fun ls hl => ?_)
    refine lv_lload_n hx hb dX6_leaks_31 rfl (lv_at hl 1 rfl) ?_
    refine lv_lconst (v := 0) hx hb dX6_leaks_32 (by decide) ?_
    refine W.lcmp hx hb dX6_leaks_33 ?_
    refine lv_if_le (tgt := 41) hx hb dX6_leaks_34 (by decide) (fun c_34 => ?_) (fun c_34 => absurd (c_19) c_34)
    refine lv_lload_n hx hb dX6_leaks_41 rfl (lv_at hl 1 rfl) ?_
    refine lv_lneg hx hb dX6_leaks_42 ?_
    refine lv_aload_n hx hb dX6_leaks_43 rfl (lv_at hl 2 rfl) ?_
    refine va_get (C := RX6) (T := TX6) (N := 27) (v := .ref (o 12)) hx hb hts hi6 hown hK hP 0 rfl rfl 14 (by decide) (hts (.fieldLink RX6 45 "HotGroundModel" "leak" "[I") (by decide +kernel)) (fun _ h9 => h9) rfl dX6_leaks_44 ?_
    refine lv_iload_n hx hb dX6_leaks_47 rfl (lv_at hl 3 rfl) ?_
    refine h_iald (f := hg_i S 9) hx hb hK hP 12 0 rfl rfl k (rfl) (by omega) (by decide) dX6_leaks_48 ?_
    refine lv_i2l (v := Int32.toInt64 (hg_i S 9 k)) hx hb dX6_leaks_49 rfl ?_
    refine lv_ldiv hx hb dX6_leaks_50 ((hlk k hk).2) ?_
    refine h_topl (y := f_leakP S k (k + 1) k) (by unfold f_leakP; rw [Int64.neg_sub]) ?_
    refine lv_lstore (lv' := [(5, .long (f_leakP S k (k + 1) k)), (4, .int (nI (k + 1))), (2, .long ((hg_l S 0 k) - (hg_l S 0 (k + 1)))), (0, .ref (o 0)), (1, .int (nI k))]) hx hb dX6_leaks_51 hl (by decide) rfl (fun ls hl => ?_)
    refine lv_aload_n hx hb dX6_leaks_53 rfl (lv_at hl 3 rfl) ?_
    refine lv_iload hx hb dX6_leaks_54 (lv_at hl 1 rfl) ?_
    refine lv_lload hx hb dX6_leaks_56 (lv_at hl 0 rfl) ?_
    refine h_calll (w1 := mW o cI cJ cZ (s_drain S (k + 1) (f_leakP S k (k + 1) k) (f_wm S (k + 1) (f_leakP S k (k + 1) k)))) (va_runV (As := [.int (nI (k + 1)), .long (f_leakP S k (k + 1) k)]) (rest := []) ⟨hx, hb, hml, hown, hts⟩ (m_X6_goes l D o cI cJ cZ S s.heap.size (k + 1) (by omega) (hm.nn (by omega)) (f_leakP S k (k + 1) k)) (cwV 2 hts gX6_leaks_X6_goes rfl rfl rfl (by decide +kernel) ⟨Nat.le_of_ble_eq_true rfl, Nat.le_of_ble_eq_true rfl⟩) (h_preW hK hP hD 0 rfl rfl rfl) rfl rfl hl.1 rfl (lv_room (Nat.le_of_ble_eq_true rfl)) dX6_leaks_58 ⟨Nat.le_of_ble_eq_true rfl, Nat.le_of_ble_eq_true rfl⟩) hS (h_all hD hS hA) (fun r_1 H locs hr_1 hP hD hS => ?_)
    subst hr_1
    refine lv_lstore (lv' := [(7, .long (f_wm S (k + 1) (f_leakP S k (k + 1) k))), (5, .long (f_leakP S k (k + 1) k)), (4, .int (nI (k + 1))), (2, .long ((hg_l S 0 k) - (hg_l S 0 (k + 1)))), (0, .ref (o 0)), (1, .int (nI k))]) hx hb dX6_leaks_61 hl (by decide) rfl (fun ls hl => ?_)
    refine lv_aload_n hx hb dX6_leaks_63 rfl (lv_at hl 4 rfl) ?_
    refine lv_iconst (v := nI 2) hx hb dX6_leaks_64 (by decide) ?_
    refine lv_iload_n hx hb dX6_leaks_65 rfl (lv_at hl 5 rfl) ?_
    refine lv_imul hx hb dX6_leaks_66 ?_
    refine h_topi (y := nI (2 * k)) (pk_mul _ _) ?_
    refine lv_iconst (v := nI 1) hx hb dX6_leaks_67 (by decide) ?_
    refine lv_iadd hx hb dX6_leaks_68 ?_
    refine h_topi (y := nI ((2 * k) + 1)) (nI_add _ _) ?_
    refine lv_iload hx hb dX6_leaks_69 (lv_at hl 2 rfl) ?_
    refine lv_isub hx hb dX6_leaks_71 ?_
    refine h_topi (y := nI (((2 * k) + 1) - (k + 1))) (pk_sub (by omega)) ?_
    refine h_topi (y := nI k) (congrArg nI (by omega)) ?_
    refine lv_lload hx hb dX6_leaks_72 (lv_at hl 1 rfl) ?_
    refine lv_lload hx hb dX6_leaks_74 (lv_at hl 0 rfl) ?_
    refine h_callv (w1 := mW o cI cJ cZ (s_pour (s_drain S (k + 1) (f_leakP S k (k + 1) k) (f_wm S (k + 1) (f_leakP S k (k + 1) k))) k (f_leakP S k (k + 1) k) (f_wm S (k + 1) (f_leakP S k (k + 1) k)))) (va_runV (As := [.int (nI k), .long (f_leakP S k (k + 1) k), .long (f_wm S (k + 1) (f_leakP S k (k + 1) k))]) (rest := []) ⟨hx, hb, hml, hown, hts⟩ (m_X6_comes l D o cI cJ cZ (s_drain S (k + 1) (f_leakP S k (k + 1) k) (f_wm S (k + 1) (f_leakP S k (k + 1) k))) H.size k (by omega) (f_leakP S k (k + 1) k) (f_wm S (k + 1) (f_leakP S k (k + 1) k))) (cwV 3 hts gX6_leaks_X6_comes rfl rfl rfl (by decide +kernel) ⟨Nat.le_of_ble_eq_true rfl, Nat.le_of_ble_eq_true rfl⟩) (h_preW hK hP hD 0 rfl rfl rfl) rfl rfl hl.1 rfl (lv_room (Nat.le_of_ble_eq_true rfl)) dX6_leaks_76 ⟨Nat.le_of_ble_eq_true rfl, Nat.le_of_ble_eq_true rfl⟩) hS (h_all hD hS hA) (fun H locs hP hD hS => ?_)
    rw [show (s_pour (s_drain S (k + 1) (f_leakP S k (k + 1) k) (f_wm S (k + 1) (f_leakP S k (k + 1) k))) k (f_leakP S k (k + 1) k) (f_wm S (k + 1) (f_leakP S k (k + 1) k)) : hg_S) = s_leak S k from s_leak_t hB hm hk c_19] at hP hD
    exact W.vret hx hb hr (fun t ht hW => ⟨⟨(), rfl, trivial, ⟨by rw [ht]; exact hP, hD⟩⟩, hS.F ht⟩) hS.2.2 dX6_leaks_79
  · skip
    refine lv_iload_n hx hb dX6_leaks_22 rfl (lv_at hl 2 rfl) ?_
    refine lv_goto (tgt := 29) hx hb dX6_leaks_23 (by decide) ?_
    refine lv_istore (lv' := [(4, .int (nI k)), (2, .long ((hg_l S 0 k) - (hg_l S 0 (k + 1)))), (0, .ref (o 0)), (1, .int (nI k))]) hx hb dX6_leaks_29 hl (by decide) rfl (fun ls hl => ?_)
    refine lv_lload_n hx hb dX6_leaks_31 rfl (lv_at hl 1 rfl) ?_
    refine lv_lconst (v := 0) hx hb dX6_leaks_32 (by decide) ?_
    refine W.lcmp hx hb dX6_leaks_33 ?_
    refine lv_if_le (tgt := 41) hx hb dX6_leaks_34 (by decide) (fun c_34 => absurd c_34 (c_19)) (fun c_34 => ?_)
    refine lv_lload_n hx hb dX6_leaks_37 rfl (lv_at hl 1 rfl) ?_
    refine lv_goto (tgt := 43) hx hb dX6_leaks_38 (by decide) ?_
    refine lv_aload_n hx hb dX6_leaks_43 rfl (lv_at hl 2 rfl) ?_
    refine va_get (C := RX6) (T := TX6) (N := 27) (v := .ref (o 12)) hx hb hts hi6 hown hK hP 0 rfl rfl 14 (by decide) (hts (.fieldLink RX6 45 "HotGroundModel" "leak" "[I") (by decide +kernel)) (fun _ h9 => h9) rfl dX6_leaks_44 ?_
    refine lv_iload_n hx hb dX6_leaks_47 rfl (lv_at hl 3 rfl) ?_
    refine h_iald (f := hg_i S 9) hx hb hK hP 12 0 rfl rfl k (rfl) (by omega) (by decide) dX6_leaks_48 ?_
    refine lv_i2l (v := Int32.toInt64 (hg_i S 9 k)) hx hb dX6_leaks_49 rfl ?_
    refine lv_ldiv hx hb dX6_leaks_50 ((hlk k hk).2) ?_
    refine h_topl (y := f_leakP S k k (k + 1)) (rfl) ?_
    refine lv_lstore (lv' := [(5, .long (f_leakP S k k (k + 1))), (4, .int (nI k)), (2, .long ((hg_l S 0 k) - (hg_l S 0 (k + 1)))), (0, .ref (o 0)), (1, .int (nI k))]) hx hb dX6_leaks_51 hl (by decide) rfl (fun ls hl => ?_)
    refine lv_aload_n hx hb dX6_leaks_53 rfl (lv_at hl 3 rfl) ?_
    refine lv_iload hx hb dX6_leaks_54 (lv_at hl 1 rfl) ?_
    refine lv_lload hx hb dX6_leaks_56 (lv_at hl 0 rfl) ?_
    refine h_calll (w1 := mW o cI cJ cZ (s_drain S k (f_leakP S k k (k + 1)) (f_wm S k (f_leakP S k k (k + 1))))) (va_runV (As := [.int (nI k), .long (f_leakP S k k (k + 1))]) (rest := []) ⟨hx, hb, hml, hown, hts⟩ (m_X6_goes l D o cI cJ cZ S s.heap.size k (by omega) (hm.nn (by omega)) (f_leakP S k k (k + 1))) (cwV 2 hts gX6_leaks_X6_goes rfl rfl rfl (by decide +kernel) ⟨Nat.le_of_ble_eq_true rfl, Nat.le_of_ble_eq_true rfl⟩) (h_preW hK hP hD 0 rfl rfl rfl) rfl rfl hl.1 rfl (lv_room (Nat.le_of_ble_eq_true rfl)) dX6_leaks_58 ⟨Nat.le_of_ble_eq_true rfl, Nat.le_of_ble_eq_true rfl⟩) hS (h_all hD hS hA) (fun r_2 H locs hr_2 hP hD hS => ?_)
    subst hr_2
    refine lv_lstore (lv' := [(7, .long (f_wm S k (f_leakP S k k (k + 1)))), (5, .long (f_leakP S k k (k + 1))), (4, .int (nI k)), (2, .long ((hg_l S 0 k) - (hg_l S 0 (k + 1)))), (0, .ref (o 0)), (1, .int (nI k))]) hx hb dX6_leaks_61 hl (by decide) rfl (fun ls hl => ?_)
    refine lv_aload_n hx hb dX6_leaks_63 rfl (lv_at hl 4 rfl) ?_
    refine lv_iconst (v := nI 2) hx hb dX6_leaks_64 (by decide) ?_
    refine lv_iload_n hx hb dX6_leaks_65 rfl (lv_at hl 5 rfl) ?_
    refine lv_imul hx hb dX6_leaks_66 ?_
    refine h_topi (y := nI (2 * k)) (pk_mul _ _) ?_
    refine lv_iconst (v := nI 1) hx hb dX6_leaks_67 (by decide) ?_
    refine lv_iadd hx hb dX6_leaks_68 ?_
    refine h_topi (y := nI ((2 * k) + 1)) (nI_add _ _) ?_
    refine lv_iload hx hb dX6_leaks_69 (lv_at hl 2 rfl) ?_
    refine lv_isub hx hb dX6_leaks_71 ?_
    refine h_topi (y := nI (((2 * k) + 1) - k)) (pk_sub (by omega)) ?_
    refine h_topi (y := nI (k + 1)) (congrArg nI (by omega)) ?_
    refine lv_lload hx hb dX6_leaks_72 (lv_at hl 1 rfl) ?_
    refine lv_lload hx hb dX6_leaks_74 (lv_at hl 0 rfl) ?_
    refine h_callv (w1 := mW o cI cJ cZ (s_pour (s_drain S k (f_leakP S k k (k + 1)) (f_wm S k (f_leakP S k k (k + 1)))) (k + 1) (f_leakP S k k (k + 1)) (f_wm S k (f_leakP S k k (k + 1))))) (va_runV (As := [.int (nI (k + 1)), .long (f_leakP S k k (k + 1)), .long (f_wm S k (f_leakP S k k (k + 1)))]) (rest := []) ⟨hx, hb, hml, hown, hts⟩ (m_X6_comes l D o cI cJ cZ (s_drain S k (f_leakP S k k (k + 1)) (f_wm S k (f_leakP S k k (k + 1)))) H.size (k + 1) (by omega) (f_leakP S k k (k + 1)) (f_wm S k (f_leakP S k k (k + 1)))) (cwV 3 hts gX6_leaks_X6_comes rfl rfl rfl (by decide +kernel) ⟨Nat.le_of_ble_eq_true rfl, Nat.le_of_ble_eq_true rfl⟩) (h_preW hK hP hD 0 rfl rfl rfl) rfl rfl hl.1 rfl (lv_room (Nat.le_of_ble_eq_true rfl)) dX6_leaks_76 ⟨Nat.le_of_ble_eq_true rfl, Nat.le_of_ble_eq_true rfl⟩) hS (h_all hD hS hA) (fun H locs hP hD hS => ?_)
    rw [show (s_pour (s_drain S k (f_leakP S k k (k + 1)) (f_wm S k (f_leakP S k k (k + 1)))) (k + 1) (f_leakP S k k (k + 1)) (f_wm S k (f_leakP S k k (k + 1))) : hg_S) = s_leak S k from s_leak_f hB hm hk c_19] at hP hD
    exact W.vret hx hb hr (fun t ht hW => ⟨⟨(), rfl, trivial, ⟨by rw [ht]; exact hP, hD⟩⟩, hS.F ht⟩) hS.2.2 dX6_leaks_79
set_option maxHeartbeats 4000000 in
set_option maxRecDepth 100000 in
/-- a year -/
theorem m_X6_oneYear (l : Launch) (D : va_G) (o : Nat → Nat) (cI cJ cZ : ClassId) (S : hg_S) (sz : Nat) (h0 : hg_n S 0 ≤ 8) (h1 : hg_n S 1 ≤ 4) (hg3 : hg_n S 3 < 4) (hbx : ok_bx S) (hlk : ok_lk S) (hkd : ok_kd S) (hms : ∀ p, p ≤ 20 → ∀ i b, i ≤ 8 → b < 4 → ¬ hg_l (s_tk S p i) 0 b < 0) (B : Int) (hB : B < 2 ^ 62) (hmL : ∀ i, i ≤ 3 → ok_ms (s_leaks (s_first S) i) B)  : Met l yX6_oneYear wsX6_oneYear ({ frames := 3, cells := 0, slots := 0, locals := 69 }) (va_Pc [.ref (o 0)] (hg_Wr D (mW o cI cJ cZ S) (hg_ty cI cJ cZ) sz)) (va_Qv (fun (_ : Unit) => True) (fun _ t => hg_At D (mW o cI cJ cZ (s_year S)) (va_A (mW o cI cJ cZ S) sz) t) (va_A (mW o cI cJ cZ S) sz)) 0 0 (va_A (mW o cI cJ cZ S) sz) := by
  refine h_start (cc := cX6_oneYear) (maxL := 3) (ret := none) (by decide) rfl (Nat.le_of_ble_eq_true rfl) ?_
  intro pg ev s mi args below meth cd ls hx hb hr hts hown hlocks hml hnm hpic hl
  obtain ⟨hsz, hP, hK, hD0⟩ := hpic
  subst hsz
  have hD := hD0.self (sz := s.heap.size)
  generalize hAe : va_A (mW o cI cJ cZ S) s.heap.size = A at hD ⊢
  have hA : ∀ q : Nat, s.heap.size ≤ q → A q := fun q h => by rw [← hAe]; exact Or.inr h
  have hS : va_S A s.heap s.heap [] := va_S.rf
  have hi6 : ∀ w ∈ u_ws RX6 TX6 27, w ∈ wsX6_oneYear := by decide +kernel
  have hl : lv_has ls 3 [(0, .ref (o 0))] := hl
  refine lv_aload_n hx hb dX6_oneYear_0 rfl (lv_at hl 0 rfl) ?_
  refine vp_callSi (va_Run.run (va_runV (As := []) (rest := []) ⟨hx, hb, hml, hown, hts⟩ (m_X6_point l D o cI cJ cZ S h0 h1 hkd) (cwV 0 hts gX6_oneYear_X6_point rfl rfl rfl (by decide +kernel) ⟨Nat.le_of_ble_eq_true rfl, Nat.le_of_ble_eq_true rfl⟩) (h_preR hK hP 0 rfl rfl rfl) rfl rfl hl.1 rfl (lv_room (Nat.le_of_ble_eq_true rfl)) dX6_oneYear_1 ⟨Nat.le_of_ble_eq_true rfl, Nat.le_of_ble_eq_true rfl⟩)) (fun r_1 hr_1 => ?_)
  subst hr_1
  by_cases hpt : f_point S = -9
  · skip
    refine h_topi (y := (-9)) (hpt) ?_
    have hf : s_first S = s_add S 8 1 := if_pos hpt
    refine lv_istore_n (lv' := [(1, .int (-9)), (0, .ref (o 0))]) hx hb dX6_oneYear_4 rfl hl (by decide) rfl (fun ls hl => ?_)
    refine lv_iload_n hx hb dX6_oneYear_5 rfl (lv_at hl 0 rfl) ?_
    refine lv_if_lt (tgt := 17) hx hb dX6_oneYear_6 (by decide) (fun c_6 => ?_) (fun c_6 => absurd (by decide) c_6)
    refine lv_aload_n hx hb dX6_oneYear_17 rfl (lv_at hl 1 rfl) ?_
    refine va_get (C := RX6) (T := TX6) (N := 27) (v := .ref (o 14)) hx hb hts hi6 hown hK hP 0 rfl rfl 18 (by decide) (hts (.fieldLink RX6 51 "HotGroundModel" "sums" "[J") (by decide +kernel)) (fun _ h9 => h9) rfl dX6_oneYear_18 ?_
    refine lv_bipush (v := nI 8) hx hb dX6_oneYear_21 (by decide) ?_
    refine lv_dup2_11 hx hb dX6_oneYear_23 rfl rfl ?_
    refine h_lald (f := hg_l S 2) hx hb hK hP 14 1 rfl rfl 8 (rfl) (by omega) (by decide) dX6_oneYear_24 ?_
    refine lv_lconst (v := 1) hx hb dX6_oneYear_25 (by decide) ?_
    refine lv_ladd hx hb dX6_oneYear_26 ?_
    refine lv_topl (fun z_2 ez_2 => ?_)
    refine h_last (f := hg_l S 2) (ws' := mW o cI cJ cZ (hg_sl S 2 (vp_updL (hg_l S 2) 8 z_2))) hx hb hK hP hD hS 14 1 rfl rfl 8 (rfl) (by omega) (by decide) rfl dX6_oneYear_27 (fun H locs hP hD hS => ?_)
    subst ez_2
    rw [show (hg_sl S 2 (vp_updL (hg_l S 2) 8 ((hg_l S 2 8) + 1)) : hg_S) = s_first S from hf.symm] at hP hD
    refine lv_iconst (v := nI 0) hx hb dX6_oneYear_28 (by decide) ?_
    refine lv_istore_n (lv' := [(2, .int (nI 0)), (1, .int (-9)), (0, .ref (o 0))]) hx hb dX6_oneYear_29 rfl hl (by decide) rfl (fun ls hl => ?_)
    have hP : va_P D vwCl (mW o cI cJ cZ (s_leaks (s_first S) 0)) H := hP
    have hD : va_D A (mW o cI cJ cZ (s_leaks (s_first S) 0)) := hD
    refine h_forW (nL := 3) (3) (fun i => [(2, .int (nI i)), (0, .ref (o 0))]) (fun i => mW o cI cJ cZ (s_leaks (s_first S) i)) ?_ ?_ (lv_sub hl [0, 2] rfl) hP hD hS
    · intro i ls H locs hi hl hP hD hS ih
      have hl : lv_has ls 3 [(2, .int (nI i)), (0, .ref (o 0))] := hl
      refine lv_iload_n hx hb dX6_oneYear_30 rfl (lv_at hl 0 rfl) ?_
      refine lv_iconst (v := nI 3) hx hb dX6_oneYear_31 (by decide) ?_
      refine lv_icmp_ge (tgt := 46) hx hb dX6_oneYear_32 (by decide) (fun c_32 => absurd c_32 (nI_ge hi (by omega))) (fun c_32 => ?_)
      refine lv_aload_n hx hb dX6_oneYear_35 rfl (lv_at hl 1 rfl) ?_
      refine lv_iload_n hx hb dX6_oneYear_36 rfl (lv_at hl 0 rfl) ?_
      refine h_callv (w1 := mW o cI cJ cZ (s_leak (s_leaks (s_first S) i) i)) (va_runV (As := [.int (nI i)]) (rest := []) ⟨hx, hb, hml, hown, hts⟩ (m_X6_leaks l D o cI cJ cZ (s_leaks (s_first S) i) H.size (fun j hj => by rw [s_leaks_i, s_first_i]; exact hlk j hj) B hB (hmL i (by omega)) i (by omega)) (cwV 1 hts gX6_oneYear_X6_leaks rfl rfl rfl (by decide +kernel) ⟨Nat.le_of_ble_eq_true rfl, Nat.le_of_ble_eq_true rfl⟩) (h_preW hK hP hD 0 rfl rfl rfl) rfl rfl hl.1 rfl (lv_room (Nat.le_of_ble_eq_true rfl)) dX6_oneYear_37 ⟨Nat.le_of_ble_eq_true rfl, Nat.le_of_ble_eq_true rfl⟩) hS (h_all hD hS hA) (fun H locs hP hD hS => ?_)
      refine lv_iinc (v := nI (i + 1)) (lv' := [(2, .int (nI (i + 1))), (0, .ref (o 0))]) hx hb dX6_oneYear_40 hl (k := 0) rfl (nI_1 _) (by decide) rfl (fun ls hl => ?_)
      refine lv_goto (tgt := 30) hx hb dX6_oneYear_43 (by decide) ?_
      have hP : va_P D vwCl (mW o cI cJ cZ (s_leaks (s_first S) (i + 1))) H := hP
      have hD : va_D A (mW o cI cJ cZ (s_leaks (s_first S) (i + 1))) := hD
      exact ih ls H locs (lv_sub hl [0, 1] rfl) hP hD hS
    · intro ls H locs hl hP hD hS
      have hl : lv_has ls 3 [(2, .int (nI 3)), (0, .ref (o 0))] := hl
      refine lv_iload_n hx hb dX6_oneYear_30 rfl (lv_at hl 0 rfl) ?_
      refine lv_iconst (v := nI 3) hx hb dX6_oneYear_31 (by decide) ?_
      refine lv_icmp_ge (tgt := 46) hx hb dX6_oneYear_32 (by decide) (fun c_32 => ?_) (fun c_32 => absurd (nI_le (Nat.le_refl _) (by omega)) c_32)
      refine lv_iconst (v := nI 0) hx hb dX6_oneYear_46 (by decide) ?_
      refine lv_istore_n (lv' := [(2, .int (nI 0)), (0, .ref (o 0))]) hx hb dX6_oneYear_47 rfl hl (by decide) rfl (fun ls hl => ?_)
      have hP : va_P D vwCl (mW o cI cJ cZ (s_feeds (s_leaks (s_first S) 3) 0)) H := hP
      have hD : va_D A (mW o cI cJ cZ (s_feeds (s_leaks (s_first S) 3) 0)) := hD
      refine h_forW (nL := 3) (4) (fun i => [(2, .int (nI i)), (0, .ref (o 0))]) (fun i => mW o cI cJ cZ (s_feeds (s_leaks (s_first S) 3) i)) ?_ ?_ (lv_sub hl [0, 1] rfl) hP hD hS
      · intro i ls H locs hi hl hP hD hS ih
        have hl : lv_has ls 3 [(2, .int (nI i)), (0, .ref (o 0))] := hl
        refine lv_iload_n hx hb dX6_oneYear_48 rfl (lv_at hl 0 rfl) ?_
        refine lv_iconst (v := nI 4) hx hb dX6_oneYear_49 (by decide) ?_
        refine lv_icmp_ge (tgt := 118) hx hb dX6_oneYear_50 (by decide) (fun c_50 => absurd c_50 (nI_ge hi (by omega))) (fun c_50 => ?_)
        refine lv_aload_n hx hb dX6_oneYear_53 rfl (lv_at hl 1 rfl) ?_
        refine lv_iload_n hx hb dX6_oneYear_54 rfl (lv_at hl 0 rfl) ?_
        refine lv_aload_n hx hb dX6_oneYear_55 rfl (lv_at hl 1 rfl) ?_
        refine va_get (C := RX6) (T := TX6) (N := 27) (v := .ref (o 13)) hx hb hts hi6 hown hK hP 0 rfl rfl 15 (by decide) (hts (.fieldLink RX6 48 "HotGroundModel" "feed" "[I") (by decide +kernel)) (fun _ h9 => h9) rfl dX6_oneYear_56 ?_
        refine lv_iload_n hx hb dX6_oneYear_59 rfl (lv_at hl 0 rfl) ?_
        refine h_iald (f := hg_i (s_feeds (s_leaks (s_first S) 3) i) 10) hx hb hK hP 13 0 rfl rfl i (rfl) (by omega) (by decide) dX6_oneYear_60 ?_
        refine lv_i2l (v := Int32.toInt64 ((hg_i (s_feeds (s_leaks (s_first S) 3) i) 10) i)) hx hb dX6_oneYear_61 rfl ?_
        refine h_topl (y := f_feedM (s_feeds (s_leaks (s_first S) 3) i) i) (rfl) ?_
        refine lv_ldc2 (v := 10) hx hb hown (hts (.constantLong RX6 142 (10)) (by decide +kernel)) dX6_oneYear_62 ?_
        refine lv_aload_n hx hb dX6_oneYear_65 rfl (lv_at hl 1 rfl) ?_
        refine va_get (C := RX6) (T := TX6) (N := 27) (v := .ref (o 13)) hx hb hts hi6 hown hK hP 0 rfl rfl 15 (by decide) (hts (.fieldLink RX6 48 "HotGroundModel" "feed" "[I") (by decide +kernel)) (fun _ h9 => h9) rfl dX6_oneYear_66 ?_
        refine lv_iload_n hx hb dX6_oneYear_69 rfl (lv_at hl 0 rfl) ?_
        refine h_iald (f := hg_i (s_feeds (s_leaks (s_first S) 3) i) 10) hx hb hK hP 13 0 rfl rfl i (rfl) (by omega) (by decide) dX6_oneYear_70 ?_
        refine lv_i2l (v := Int32.toInt64 ((hg_i (s_feeds (s_leaks (s_first S) 3) i) 10) i)) hx hb dX6_oneYear_71 rfl ?_
        refine h_topl (y := f_feedM (s_feeds (s_leaks (s_first S) 3) i) i) (rfl) ?_
        refine lv_lmul hx hb dX6_oneYear_72 ?_
        refine h_topl (y := (f_feedM (s_feeds (s_leaks (s_first S) 3) i) i) * 10) (Int64.mul_comm _ _) ?_
        refine h_callv (w1 := mW o cI cJ cZ (s_pour (s_feeds (s_leaks (s_first S) 3) i) i (f_feedM (s_feeds (s_leaks (s_first S) 3) i) i) ((f_feedM (s_feeds (s_leaks (s_first S) 3) i) i) * 10))) (va_runV (As := [.int (nI i), .long (f_feedM (s_feeds (s_leaks (s_first S) 3) i) i), .long ((f_feedM (s_feeds (s_leaks (s_first S) 3) i) i) * 10)]) (rest := []) ⟨hx, hb, hml, hown, hts⟩ (m_X6_comes l D o cI cJ cZ (s_feeds (s_leaks (s_first S) 3) i) H.size i (by omega) (f_feedM (s_feeds (s_leaks (s_first S) 3) i) i) ((f_feedM (s_feeds (s_leaks (s_first S) 3) i) i) * 10)) (cwV 3 hts gX6_oneYear_X6_comes rfl rfl rfl (by decide +kernel) ⟨Nat.le_of_ble_eq_true rfl, Nat.le_of_ble_eq_true rfl⟩) (h_preW hK hP hD 0 rfl rfl rfl) rfl rfl hl.1 rfl (lv_room (Nat.le_of_ble_eq_true rfl)) dX6_oneYear_73 ⟨Nat.le_of_ble_eq_true rfl, Nat.le_of_ble_eq_true rfl⟩) hS (h_all hD hS hA) (fun H locs hP hD hS => ?_)
        obtain ⟨T1, hT1⟩ : ∃ y : hg_S, y = s_pour (s_feeds (s_leaks (s_first S) 3) i) i (f_feedM (s_feeds (s_leaks (s_first S) 3) i) i) ((f_feedM (s_feeds (s_leaks (s_first S) 3) i) i) * 10) := ⟨_, rfl⟩
        rw [← hT1] at hP hD
        refine lv_aload_n hx hb dX6_oneYear_76 rfl (lv_at hl 1 rfl) ?_
        refine va_get (C := RX6) (T := TX6) (N := 27) (v := .ref (o 14)) hx hb hts hi6 hown hK hP 0 rfl rfl 18 (by decide) (hts (.fieldLink RX6 51 "HotGroundModel" "sums" "[J") (by decide +kernel)) (fun _ h9 => h9) rfl dX6_oneYear_77 ?_
        refine lv_iconst (v := nI 4) hx hb dX6_oneYear_80 (by decide) ?_
        refine lv_dup2_11 hx hb dX6_oneYear_81 rfl rfl ?_
        refine h_lald (f := hg_l T1 2) hx hb hK hP 14 1 rfl rfl 4 (rfl) (by omega) (by decide) dX6_oneYear_82 ?_
        refine lv_aload_n hx hb dX6_oneYear_83 rfl (lv_at hl 1 rfl) ?_
        refine va_get (C := RX6) (T := TX6) (N := 27) (v := .ref (o 13)) hx hb hts hi6 hown hK hP 0 rfl rfl 15 (by decide) (hts (.fieldLink RX6 48 "HotGroundModel" "feed" "[I") (by decide +kernel)) (fun _ h9 => h9) rfl dX6_oneYear_84 ?_
        refine lv_iload_n hx hb dX6_oneYear_87 rfl (lv_at hl 0 rfl) ?_
        refine h_iald (f := hg_i T1 10) hx hb hK hP 13 0 rfl rfl i (rfl) (by omega) (by decide) dX6_oneYear_88 ?_
        refine lv_i2l (v := Int32.toInt64 (hg_i T1 10 i)) hx hb dX6_oneYear_89 rfl ?_
        refine h_topl (y := f_feedM (s_feeds (s_leaks (s_first S) 3) i) i) (by rw [hT1]; rfl) ?_
        refine lv_ladd hx hb dX6_oneYear_90 ?_
        refine lv_topl (fun z_3 ez_3 => ?_)
        refine h_last (f := hg_l T1 2) (ws' := mW o cI cJ cZ (hg_sl T1 2 (vp_updL (hg_l T1 2) 4 z_3))) hx hb hK hP hD hS 14 1 rfl rfl 4 (rfl) (by omega) (by decide) rfl dX6_oneYear_91 (fun H locs hP hD hS => ?_)
        refine lv_aload_n hx hb dX6_oneYear_92 rfl (lv_at hl 1 rfl) ?_
        refine va_get (C := RX6) (T := TX6) (N := 27) (v := .ref (o 14)) hx hb hts hi6 hown hK hP 0 rfl rfl 18 (by decide) (hts (.fieldLink RX6 51 "HotGroundModel" "sums" "[J") (by decide +kernel)) (fun _ h9 => h9) rfl dX6_oneYear_93 ?_
        refine lv_iconst (v := nI 5) hx hb dX6_oneYear_96 (by decide) ?_
        refine lv_dup2_11 hx hb dX6_oneYear_97 rfl rfl ?_
        refine h_lald (f := vp_updL (hg_l T1 2) 4 z_3) hx hb hK hP 14 1 rfl rfl 5 (rfl) (by omega) (by decide) dX6_oneYear_98 ?_
        refine lv_ldc2 (v := 10) hx hb hown (hts (.constantLong RX6 142 (10)) (by decide +kernel)) dX6_oneYear_99 ?_
        refine lv_aload_n hx hb dX6_oneYear_102 rfl (lv_at hl 1 rfl) ?_
        refine va_get (C := RX6) (T := TX6) (N := 27) (v := .ref (o 13)) hx hb hts hi6 hown hK hP 0 rfl rfl 15 (by decide) (hts (.fieldLink RX6 48 "HotGroundModel" "feed" "[I") (by decide +kernel)) (fun _ h9 => h9) rfl dX6_oneYear_103 ?_
        refine lv_iload_n hx hb dX6_oneYear_106 rfl (lv_at hl 0 rfl) ?_
        refine h_iald (f := hg_i T1 10) hx hb hK hP 13 0 rfl rfl i (rfl) (by omega) (by decide) dX6_oneYear_107 ?_
        refine lv_i2l (v := Int32.toInt64 (hg_i T1 10 i)) hx hb dX6_oneYear_108 rfl ?_
        refine h_topl (y := f_feedM (s_feeds (s_leaks (s_first S) 3) i) i) (by rw [hT1]; rfl) ?_
        refine lv_lmul hx hb dX6_oneYear_109 ?_
        refine h_topl (y := (f_feedM (s_feeds (s_leaks (s_first S) 3) i) i) * 10) (Int64.mul_comm _ _) ?_
        refine lv_ladd hx hb dX6_oneYear_110 ?_
        refine lv_topl (fun z_4 ez_4 => ?_)
        refine h_last (f := vp_updL (hg_l T1 2) 4 z_3) (ws' := mW o cI cJ cZ (hg_sl T1 2 (vp_updL (vp_updL (hg_l T1 2) 4 z_3) 5 z_4))) hx hb hK hP hD hS 14 1 rfl rfl 5 (rfl) (by omega) (by decide) rfl dX6_oneYear_111 (fun H locs hP hD hS => ?_)
        refine lv_iinc (v := nI (i + 1)) (lv' := [(2, .int (nI (i + 1))), (0, .ref (o 0))]) hx hb dX6_oneYear_112 hl (k := 0) rfl (nI_1 _) (by decide) rfl (fun ls hl => ?_)
        refine lv_goto (tgt := 48) hx hb dX6_oneYear_115 (by decide) ?_
        subst ez_4
        subst ez_3
        rw [show (hg_sl T1 2 (vp_updL (vp_updL (hg_l T1 2) 4 ((hg_l T1 2 4) + (f_feedM (s_feeds (s_leaks (s_first S) 3) i) i))) 5 (((vp_updL (hg_l T1 2) 4 ((hg_l T1 2 4) + (f_feedM (s_feeds (s_leaks (s_first S) 3) i) i))) 5) + ((f_feedM (s_feeds (s_leaks (s_first S) 3) i) i) * 10))) : hg_S) = s_feeds (s_leaks (s_first S) 3) (i + 1) from by rw [hT1]; rfl] at hP hD
        exact ih ls H locs (lv_sub hl [0, 1] rfl) hP hD hS
      · intro ls H locs hl hP hD hS
        have hl : lv_has ls 3 [(2, .int (nI 4)), (0, .ref (o 0))] := hl
        refine lv_iload_n hx hb dX6_oneYear_48 rfl (lv_at hl 0 rfl) ?_
        refine lv_iconst (v := nI 4) hx hb dX6_oneYear_49 (by decide) ?_
        refine lv_icmp_ge (tgt := 118) hx hb dX6_oneYear_50 (by decide) (fun c_50 => ?_) (fun c_50 => absurd (nI_le (Nat.le_refl _) (by omega)) c_50)
        refine lv_iconst (v := nI 0) hx hb dX6_oneYear_118 (by decide) ?_
        refine lv_istore_n (lv' := [(2, .int (nI 0)), (0, .ref (o 0))]) hx hb dX6_oneYear_119 rfl hl (by decide) rfl (fun ls hl => ?_)
        obtain ⟨U, hU⟩ : ∃ y : hg_S, y = s_feeds (s_leaks (s_first S) 3) 4 := ⟨_, rfl⟩
        rw [← hU] at hP hD
        have hU0 : hg_n U 0 = hg_n S 0 := by rw [hU, s_feeds_n, s_leaks_n, s_first_n]
        rw [show U = hg_si U 2 (f_ages U 0) from f_ages_0 U] at hP hD
        refine h_forW (nL := 3) (hg_n S 0) (fun i => [(2, .int (nI i)), (0, .ref (o 0))]) (fun i => mW o cI cJ cZ (hg_si U 2 (f_ages U i))) ?_ ?_ (lv_sub hl [0, 1] rfl) hP hD hS
        · intro i ls H locs hi hl hP hD hS ih
          have hl : lv_has ls 3 [(2, .int (nI i)), (0, .ref (o 0))] := hl
          refine lv_iload_n hx hb dX6_oneYear_120 rfl (lv_at hl 0 rfl) ?_
          refine lv_aload_n hx hb dX6_oneYear_121 rfl (lv_at hl 1 rfl) ?_
          refine va_get (C := RX6) (T := TX6) (N := 27) (v := .int (nI (hg_n U 0))) hx hb hts hi6 hown hK hP 0 rfl rfl 0 (by decide) (hts (.fieldLink RX6 72 "HotGroundModel" "wells" "I") (by decide +kernel)) (fun _ h9 => h9) rfl dX6_oneYear_122 ?_
          refine h_topi (y := nI (hg_n S 0)) (by rw [hU0]) ?_
          refine lv_icmp_ge (tgt := 157) hx hb dX6_oneYear_125 (by decide) (fun c_125 => absurd c_125 (nI_ge hi (by omega))) (fun c_125 => ?_)
          refine lv_aload_n hx hb dX6_oneYear_128 rfl (lv_at hl 1 rfl) ?_
          refine va_get (C := RX6) (T := TX6) (N := 27) (v := .ref (o 3)) hx hb hts hi6 hown hK hP 0 rfl rfl 3 (by decide) (hts (.fieldLink RX6 16 "HotGroundModel" "age" "[I") (by decide +kernel)) (fun _ h9 => h9) rfl dX6_oneYear_129 ?_
          refine lv_iload_n hx hb dX6_oneYear_132 rfl (lv_at hl 0 rfl) ?_
          refine lv_dup2_11 hx hb dX6_oneYear_133 rfl rfl ?_
          refine h_iald (f := f_ages U i) hx hb hK hP 3 0 rfl rfl i (rfl) (by omega) (by decide) dX6_oneYear_134 ?_
          refine lv_aload_n hx hb dX6_oneYear_135 rfl (lv_at hl 1 rfl) ?_
          refine va_get (C := RX6) (T := TX6) (N := 27) (v := .ref (o 4)) hx hb hts hi6 hown hK hP 0 rfl rfl 4 (by decide) (hts (.fieldLink RX6 19 "HotGroundModel" "isOpen" "[Z") (by decide +kernel)) (fun _ h9 => h9) rfl dX6_oneYear_136 ?_
          refine lv_iload_n hx hb dX6_oneYear_139 rfl (lv_at hl 0 rfl) ?_
          refine h_zald (f := hg_i U 3) hx hb hK hP 4 2 rfl rfl i (rfl) (by omega) (by decide) dX6_oneYear_140 ?_
          refine lv_if_eq (tgt := 148) hx hb dX6_oneYear_141 (by decide) (fun c_141 => ?_) (fun c_141 => ?_)
          · skip
            refine lv_iconst (v := nI 0) hx hb dX6_oneYear_148 (by decide) ?_
            refine lv_iadd hx hb dX6_oneYear_149 ?_
            refine lv_topi (fun z_5 ez_5 => ?_)
            refine h_iast (f := f_ages U i) (ws' := mW o cI cJ cZ (hg_si U 2 (upd (f_ages U i) i z_5))) hx hb hK hP hD hS 3 0 rfl rfl i (rfl) (by omega) (by decide) rfl dX6_oneYear_150 (fun H locs hP hD hS => ?_)
            refine lv_iinc (v := nI (i + 1)) (lv' := [(2, .int (nI (i + 1))), (0, .ref (o 0))]) hx hb dX6_oneYear_151 hl (k := 0) rfl (nI_1 _) (by decide) rfl (fun ls hl => ?_)
            refine lv_goto (tgt := 120) hx hb dX6_oneYear_154 (by decide) ?_
            subst ez_5
            rw [show (hg_si U 2 (upd (f_ages U i) i ((f_ages U i i) + (nI 0))) : hg_S) = hg_si U 2 (f_ages U (i + 1)) from congrArg (hg_si U 2) (f_ages_put0 c_141)] at hP hD
            exact ih ls H locs (lv_sub hl [0, 1] rfl) hP hD hS
          · skip
            refine lv_iconst (v := nI 1) hx hb dX6_oneYear_144 (by decide) ?_
            refine lv_goto (tgt := 149) hx hb dX6_oneYear_145 (by decide) ?_
            refine lv_iadd hx hb dX6_oneYear_149 ?_
            refine lv_topi (fun z_6 ez_6 => ?_)
            refine h_iast (f := f_ages U i) (ws' := mW o cI cJ cZ (hg_si U 2 (upd (f_ages U i) i z_6))) hx hb hK hP hD hS 3 0 rfl rfl i (rfl) (by omega) (by decide) rfl dX6_oneYear_150 (fun H locs hP hD hS => ?_)
            refine lv_iinc (v := nI (i + 1)) (lv' := [(2, .int (nI (i + 1))), (0, .ref (o 0))]) hx hb dX6_oneYear_151 hl (k := 0) rfl (nI_1 _) (by decide) rfl (fun ls hl => ?_)
            refine lv_goto (tgt := 120) hx hb dX6_oneYear_154 (by decide) ?_
            subst ez_6
            rw [show (hg_si U 2 (upd (f_ages U i) i ((f_ages U i i) + (nI 1))) : hg_S) = hg_si U 2 (f_ages U (i + 1)) from congrArg (hg_si U 2) (f_ages_put c_141)] at hP hD
            exact ih ls H locs (lv_sub hl [0, 1] rfl) hP hD hS
        · intro ls H locs hl hP hD hS
          have hl : lv_has ls 3 [(2, .int (nI (hg_n S 0))), (0, .ref (o 0))] := hl
          have hg : hg_si U 2 (f_ages U (hg_n S 0)) = s_grow U := by unfold s_grow; rw [hU0]
          refine lv_iload_n hx hb dX6_oneYear_120 rfl (lv_at hl 0 rfl) ?_
          refine lv_aload_n hx hb dX6_oneYear_121 rfl (lv_at hl 1 rfl) ?_
          refine va_get (C := RX6) (T := TX6) (N := 27) (v := .int (nI (hg_n U 0))) hx hb hts hi6 hown hK hP 0 rfl rfl 0 (by decide) (hts (.fieldLink RX6 72 "HotGroundModel" "wells" "I") (by decide +kernel)) (fun _ h9 => h9) rfl dX6_oneYear_122 ?_
          refine h_topi (y := nI (hg_n S 0)) (by rw [hU0]) ?_
          refine lv_icmp_ge (tgt := 157) hx hb dX6_oneYear_125 (by decide) (fun c_125 => ?_) (fun c_125 => absurd (nI_le (Nat.le_refl _) (by omega)) c_125)
          rw [show (hg_si U 2 (f_ages U (hg_n S 0)) : hg_S) = s_grow U from hg] at hP hD
          refine lv_aload_n hx hb dX6_oneYear_157 rfl (lv_at hl 1 rfl) ?_
          refine va_get (C := RX6) (T := TX6) (N := 27) (v := .ref (o 14)) hx hb hts hi6 hown hK hP 0 rfl rfl 18 (by decide) (hts (.fieldLink RX6 51 "HotGroundModel" "sums" "[J") (by decide +kernel)) (fun _ h9 => h9) rfl dX6_oneYear_158 ?_
          refine lv_bipush (v := nI 7) hx hb dX6_oneYear_161 (by decide) ?_
          refine lv_dup2_11 hx hb dX6_oneYear_163 rfl rfl ?_
          refine h_lald (f := hg_l (s_grow U) 2) hx hb hK hP 14 1 rfl rfl 7 (rfl) (by omega) (by decide) dX6_oneYear_164 ?_
          refine lv_lconst (v := 1) hx hb dX6_oneYear_165 (by decide) ?_
          refine lv_ladd hx hb dX6_oneYear_166 ?_
          refine lv_topl (fun z_7 ez_7 => ?_)
          refine h_last (f := hg_l (s_grow U) 2) (ws' := mW o cI cJ cZ (hg_sl (s_grow U) 2 (vp_updL (hg_l (s_grow U) 2) 7 z_7))) hx hb hK hP hD hS 14 1 rfl rfl 7 (rfl) (by omega) (by decide) rfl dX6_oneYear_167 (fun H locs hP hD hS => ?_)
          subst ez_7
          rw [show (hg_sl (s_grow U) 2 (vp_updL (hg_l (s_grow U) 2) 7 (((hg_l (s_grow U) 2) 7) + 1)) : hg_S) = s_year S from by rw [hU]; rfl] at hP hD
          exact W.vret hx hb hr (fun t ht hW => ⟨⟨(), rfl, trivial, ⟨by rw [ht]; exact hP, hD⟩⟩, hS.F ht⟩) hS.2.2 dX6_oneYear_168
  · skip
    obtain ⟨k, hk, ek⟩ := f_point_nat hpt
    refine h_topi (y := nI k) (ek) ?_
    have hf : s_first S = s_prod S k := by unfold s_first; rw [if_neg hpt, ek, nI_clamp (by omega)]
    refine lv_istore_n (lv' := [(1, .int (nI k)), (0, .ref (o 0))]) hx hb dX6_oneYear_4 rfl hl (by decide) rfl (fun ls hl => ?_)
    refine lv_iload_n hx hb dX6_oneYear_5 rfl (lv_at hl 0 rfl) ?_
    refine lv_if_lt (tgt := 17) hx hb dX6_oneYear_6 (by decide) (fun c_6 => absurd c_6 (nI_pos (by omega))) (fun c_6 => ?_)
    refine lv_aload_n hx hb dX6_oneYear_9 rfl (lv_at hl 1 rfl) ?_
    refine lv_iload_n hx hb dX6_oneYear_10 rfl (lv_at hl 0 rfl) ?_
    refine h_callv (w1 := mW o cI cJ cZ (s_prod S k)) (va_runV (As := [.int (nI k)]) (rest := []) ⟨hx, hb, hml, hown, hts⟩ (m_X6_wellsGive l D o cI cJ cZ S s.heap.size h0 h1 hg3 hbx hkd k (by omega) (hms k (by omega))) (cwV 1 hts gX6_oneYear_X6_wellsGive rfl rfl rfl (by decide +kernel) ⟨Nat.le_of_ble_eq_true rfl, Nat.le_of_ble_eq_true rfl⟩) (h_preW hK hP hD 0 rfl rfl rfl) rfl rfl hl.1 rfl (lv_room (Nat.le_of_ble_eq_true rfl)) dX6_oneYear_11 ⟨Nat.le_of_ble_eq_true rfl, Nat.le_of_ble_eq_true rfl⟩) hS (h_all hD hS hA) (fun H locs hP hD hS => ?_)
    refine lv_goto (tgt := 28) hx hb dX6_oneYear_14 (by decide) ?_
    rw [show (s_prod S k : hg_S) = s_first S from hf.symm] at hP hD
    refine lv_iconst (v := nI 0) hx hb dX6_oneYear_28 (by decide) ?_
    refine lv_istore_n (lv' := [(2, .int (nI 0)), (1, .int (nI k)), (0, .ref (o 0))]) hx hb dX6_oneYear_29 rfl hl (by decide) rfl (fun ls hl => ?_)
    have hP : va_P D vwCl (mW o cI cJ cZ (s_leaks (s_first S) 0)) H := hP
    have hD : va_D A (mW o cI cJ cZ (s_leaks (s_first S) 0)) := hD
    refine h_forW (nL := 3) (3) (fun i => [(2, .int (nI i)), (0, .ref (o 0))]) (fun i => mW o cI cJ cZ (s_leaks (s_first S) i)) ?_ ?_ (lv_sub hl [0, 2] rfl) hP hD hS
    · intro i ls H locs hi hl hP hD hS ih
      have hl : lv_has ls 3 [(2, .int (nI i)), (0, .ref (o 0))] := hl
      refine lv_iload_n hx hb dX6_oneYear_30 rfl (lv_at hl 0 rfl) ?_
      refine lv_iconst (v := nI 3) hx hb dX6_oneYear_31 (by decide) ?_
      refine lv_icmp_ge (tgt := 46) hx hb dX6_oneYear_32 (by decide) (fun c_32 => absurd c_32 (nI_ge hi (by omega))) (fun c_32 => ?_)
      refine lv_aload_n hx hb dX6_oneYear_35 rfl (lv_at hl 1 rfl) ?_
      refine lv_iload_n hx hb dX6_oneYear_36 rfl (lv_at hl 0 rfl) ?_
      refine h_callv (w1 := mW o cI cJ cZ (s_leak (s_leaks (s_first S) i) i)) (va_runV (As := [.int (nI i)]) (rest := []) ⟨hx, hb, hml, hown, hts⟩ (m_X6_leaks l D o cI cJ cZ (s_leaks (s_first S) i) H.size (fun j hj => by rw [s_leaks_i, s_first_i]; exact hlk j hj) B hB (hmL i (by omega)) i (by omega)) (cwV 1 hts gX6_oneYear_X6_leaks rfl rfl rfl (by decide +kernel) ⟨Nat.le_of_ble_eq_true rfl, Nat.le_of_ble_eq_true rfl⟩) (h_preW hK hP hD 0 rfl rfl rfl) rfl rfl hl.1 rfl (lv_room (Nat.le_of_ble_eq_true rfl)) dX6_oneYear_37 ⟨Nat.le_of_ble_eq_true rfl, Nat.le_of_ble_eq_true rfl⟩) hS (h_all hD hS hA) (fun H locs hP hD hS => ?_)
      refine lv_iinc (v := nI (i + 1)) (lv' := [(2, .int (nI (i + 1))), (0, .ref (o 0))]) hx hb dX6_oneYear_40 hl (k := 0) rfl (nI_1 _) (by decide) rfl (fun ls hl => ?_)
      refine lv_goto (tgt := 30) hx hb dX6_oneYear_43 (by decide) ?_
      have hP : va_P D vwCl (mW o cI cJ cZ (s_leaks (s_first S) (i + 1))) H := hP
      have hD : va_D A (mW o cI cJ cZ (s_leaks (s_first S) (i + 1))) := hD
      exact ih ls H locs (lv_sub hl [0, 1] rfl) hP hD hS
    · intro ls H locs hl hP hD hS
      have hl : lv_has ls 3 [(2, .int (nI 3)), (0, .ref (o 0))] := hl
      refine lv_iload_n hx hb dX6_oneYear_30 rfl (lv_at hl 0 rfl) ?_
      refine lv_iconst (v := nI 3) hx hb dX6_oneYear_31 (by decide) ?_
      refine lv_icmp_ge (tgt := 46) hx hb dX6_oneYear_32 (by decide) (fun c_32 => ?_) (fun c_32 => absurd (nI_le (Nat.le_refl _) (by omega)) c_32)
      refine lv_iconst (v := nI 0) hx hb dX6_oneYear_46 (by decide) ?_
      refine lv_istore_n (lv' := [(2, .int (nI 0)), (0, .ref (o 0))]) hx hb dX6_oneYear_47 rfl hl (by decide) rfl (fun ls hl => ?_)
      have hP : va_P D vwCl (mW o cI cJ cZ (s_feeds (s_leaks (s_first S) 3) 0)) H := hP
      have hD : va_D A (mW o cI cJ cZ (s_feeds (s_leaks (s_first S) 3) 0)) := hD
      refine h_forW (nL := 3) (4) (fun i => [(2, .int (nI i)), (0, .ref (o 0))]) (fun i => mW o cI cJ cZ (s_feeds (s_leaks (s_first S) 3) i)) ?_ ?_ (lv_sub hl [0, 1] rfl) hP hD hS
      · intro i ls H locs hi hl hP hD hS ih
        have hl : lv_has ls 3 [(2, .int (nI i)), (0, .ref (o 0))] := hl
        refine lv_iload_n hx hb dX6_oneYear_48 rfl (lv_at hl 0 rfl) ?_
        refine lv_iconst (v := nI 4) hx hb dX6_oneYear_49 (by decide) ?_
        refine lv_icmp_ge (tgt := 118) hx hb dX6_oneYear_50 (by decide) (fun c_50 => absurd c_50 (nI_ge hi (by omega))) (fun c_50 => ?_)
        refine lv_aload_n hx hb dX6_oneYear_53 rfl (lv_at hl 1 rfl) ?_
        refine lv_iload_n hx hb dX6_oneYear_54 rfl (lv_at hl 0 rfl) ?_
        refine lv_aload_n hx hb dX6_oneYear_55 rfl (lv_at hl 1 rfl) ?_
        refine va_get (C := RX6) (T := TX6) (N := 27) (v := .ref (o 13)) hx hb hts hi6 hown hK hP 0 rfl rfl 15 (by decide) (hts (.fieldLink RX6 48 "HotGroundModel" "feed" "[I") (by decide +kernel)) (fun _ h9 => h9) rfl dX6_oneYear_56 ?_
        refine lv_iload_n hx hb dX6_oneYear_59 rfl (lv_at hl 0 rfl) ?_
        refine h_iald (f := hg_i (s_feeds (s_leaks (s_first S) 3) i) 10) hx hb hK hP 13 0 rfl rfl i (rfl) (by omega) (by decide) dX6_oneYear_60 ?_
        refine lv_i2l (v := Int32.toInt64 ((hg_i (s_feeds (s_leaks (s_first S) 3) i) 10) i)) hx hb dX6_oneYear_61 rfl ?_
        refine h_topl (y := f_feedM (s_feeds (s_leaks (s_first S) 3) i) i) (rfl) ?_
        refine lv_ldc2 (v := 10) hx hb hown (hts (.constantLong RX6 142 (10)) (by decide +kernel)) dX6_oneYear_62 ?_
        refine lv_aload_n hx hb dX6_oneYear_65 rfl (lv_at hl 1 rfl) ?_
        refine va_get (C := RX6) (T := TX6) (N := 27) (v := .ref (o 13)) hx hb hts hi6 hown hK hP 0 rfl rfl 15 (by decide) (hts (.fieldLink RX6 48 "HotGroundModel" "feed" "[I") (by decide +kernel)) (fun _ h9 => h9) rfl dX6_oneYear_66 ?_
        refine lv_iload_n hx hb dX6_oneYear_69 rfl (lv_at hl 0 rfl) ?_
        refine h_iald (f := hg_i (s_feeds (s_leaks (s_first S) 3) i) 10) hx hb hK hP 13 0 rfl rfl i (rfl) (by omega) (by decide) dX6_oneYear_70 ?_
        refine lv_i2l (v := Int32.toInt64 ((hg_i (s_feeds (s_leaks (s_first S) 3) i) 10) i)) hx hb dX6_oneYear_71 rfl ?_
        refine h_topl (y := f_feedM (s_feeds (s_leaks (s_first S) 3) i) i) (rfl) ?_
        refine lv_lmul hx hb dX6_oneYear_72 ?_
        refine h_topl (y := (f_feedM (s_feeds (s_leaks (s_first S) 3) i) i) * 10) (Int64.mul_comm _ _) ?_
        refine h_callv (w1 := mW o cI cJ cZ (s_pour (s_feeds (s_leaks (s_first S) 3) i) i (f_feedM (s_feeds (s_leaks (s_first S) 3) i) i) ((f_feedM (s_feeds (s_leaks (s_first S) 3) i) i) * 10))) (va_runV (As := [.int (nI i), .long (f_feedM (s_feeds (s_leaks (s_first S) 3) i) i), .long ((f_feedM (s_feeds (s_leaks (s_first S) 3) i) i) * 10)]) (rest := []) ⟨hx, hb, hml, hown, hts⟩ (m_X6_comes l D o cI cJ cZ (s_feeds (s_leaks (s_first S) 3) i) H.size i (by omega) (f_feedM (s_feeds (s_leaks (s_first S) 3) i) i) ((f_feedM (s_feeds (s_leaks (s_first S) 3) i) i) * 10)) (cwV 3 hts gX6_oneYear_X6_comes rfl rfl rfl (by decide +kernel) ⟨Nat.le_of_ble_eq_true rfl, Nat.le_of_ble_eq_true rfl⟩) (h_preW hK hP hD 0 rfl rfl rfl) rfl rfl hl.1 rfl (lv_room (Nat.le_of_ble_eq_true rfl)) dX6_oneYear_73 ⟨Nat.le_of_ble_eq_true rfl, Nat.le_of_ble_eq_true rfl⟩) hS (h_all hD hS hA) (fun H locs hP hD hS => ?_)
        obtain ⟨T1, hT1⟩ : ∃ y : hg_S, y = s_pour (s_feeds (s_leaks (s_first S) 3) i) i (f_feedM (s_feeds (s_leaks (s_first S) 3) i) i) ((f_feedM (s_feeds (s_leaks (s_first S) 3) i) i) * 10) := ⟨_, rfl⟩
        rw [← hT1] at hP hD
        refine lv_aload_n hx hb dX6_oneYear_76 rfl (lv_at hl 1 rfl) ?_
        refine va_get (C := RX6) (T := TX6) (N := 27) (v := .ref (o 14)) hx hb hts hi6 hown hK hP 0 rfl rfl 18 (by decide) (hts (.fieldLink RX6 51 "HotGroundModel" "sums" "[J") (by decide +kernel)) (fun _ h9 => h9) rfl dX6_oneYear_77 ?_
        refine lv_iconst (v := nI 4) hx hb dX6_oneYear_80 (by decide) ?_
        refine lv_dup2_11 hx hb dX6_oneYear_81 rfl rfl ?_
        refine h_lald (f := hg_l T1 2) hx hb hK hP 14 1 rfl rfl 4 (rfl) (by omega) (by decide) dX6_oneYear_82 ?_
        refine lv_aload_n hx hb dX6_oneYear_83 rfl (lv_at hl 1 rfl) ?_
        refine va_get (C := RX6) (T := TX6) (N := 27) (v := .ref (o 13)) hx hb hts hi6 hown hK hP 0 rfl rfl 15 (by decide) (hts (.fieldLink RX6 48 "HotGroundModel" "feed" "[I") (by decide +kernel)) (fun _ h9 => h9) rfl dX6_oneYear_84 ?_
        refine lv_iload_n hx hb dX6_oneYear_87 rfl (lv_at hl 0 rfl) ?_
        refine h_iald (f := hg_i T1 10) hx hb hK hP 13 0 rfl rfl i (rfl) (by omega) (by decide) dX6_oneYear_88 ?_
        refine lv_i2l (v := Int32.toInt64 (hg_i T1 10 i)) hx hb dX6_oneYear_89 rfl ?_
        refine h_topl (y := f_feedM (s_feeds (s_leaks (s_first S) 3) i) i) (by rw [hT1]; rfl) ?_
        refine lv_ladd hx hb dX6_oneYear_90 ?_
        refine lv_topl (fun z_8 ez_8 => ?_)
        refine h_last (f := hg_l T1 2) (ws' := mW o cI cJ cZ (hg_sl T1 2 (vp_updL (hg_l T1 2) 4 z_8))) hx hb hK hP hD hS 14 1 rfl rfl 4 (rfl) (by omega) (by decide) rfl dX6_oneYear_91 (fun H locs hP hD hS => ?_)
        refine lv_aload_n hx hb dX6_oneYear_92 rfl (lv_at hl 1 rfl) ?_
        refine va_get (C := RX6) (T := TX6) (N := 27) (v := .ref (o 14)) hx hb hts hi6 hown hK hP 0 rfl rfl 18 (by decide) (hts (.fieldLink RX6 51 "HotGroundModel" "sums" "[J") (by decide +kernel)) (fun _ h9 => h9) rfl dX6_oneYear_93 ?_
        refine lv_iconst (v := nI 5) hx hb dX6_oneYear_96 (by decide) ?_
        refine lv_dup2_11 hx hb dX6_oneYear_97 rfl rfl ?_
        refine h_lald (f := vp_updL (hg_l T1 2) 4 z_8) hx hb hK hP 14 1 rfl rfl 5 (rfl) (by omega) (by decide) dX6_oneYear_98 ?_
        refine lv_ldc2 (v := 10) hx hb hown (hts (.constantLong RX6 142 (10)) (by decide +kernel)) dX6_oneYear_99 ?_
        refine lv_aload_n hx hb dX6_oneYear_102 rfl (lv_at hl 1 rfl) ?_
        refine va_get (C := RX6) (T := TX6) (N := 27) (v := .ref (o 13)) hx hb hts hi6 hown hK hP 0 rfl rfl 15 (by decide) (hts (.fieldLink RX6 48 "HotGroundModel" "feed" "[I") (by decide +kernel)) (fun _ h9 => h9) rfl dX6_oneYear_103 ?_
        refine lv_iload_n hx hb dX6_oneYear_106 rfl (lv_at hl 0 rfl) ?_
        refine h_iald (f := hg_i T1 10) hx hb hK hP 13 0 rfl rfl i (rfl) (by omega) (by decide) dX6_oneYear_107 ?_
        refine lv_i2l (v := Int32.toInt64 (hg_i T1 10 i)) hx hb dX6_oneYear_108 rfl ?_
        refine h_topl (y := f_feedM (s_feeds (s_leaks (s_first S) 3) i) i) (by rw [hT1]; rfl) ?_
        refine lv_lmul hx hb dX6_oneYear_109 ?_
        refine h_topl (y := (f_feedM (s_feeds (s_leaks (s_first S) 3) i) i) * 10) (Int64.mul_comm _ _) ?_
        refine lv_ladd hx hb dX6_oneYear_110 ?_
        refine lv_topl (fun z_9 ez_9 => ?_)
        refine h_last (f := vp_updL (hg_l T1 2) 4 z_8) (ws' := mW o cI cJ cZ (hg_sl T1 2 (vp_updL (vp_updL (hg_l T1 2) 4 z_8) 5 z_9))) hx hb hK hP hD hS 14 1 rfl rfl 5 (rfl) (by omega) (by decide) rfl dX6_oneYear_111 (fun H locs hP hD hS => ?_)
        refine lv_iinc (v := nI (i + 1)) (lv' := [(2, .int (nI (i + 1))), (0, .ref (o 0))]) hx hb dX6_oneYear_112 hl (k := 0) rfl (nI_1 _) (by decide) rfl (fun ls hl => ?_)
        refine lv_goto (tgt := 48) hx hb dX6_oneYear_115 (by decide) ?_
        subst ez_9
        subst ez_8
        rw [show (hg_sl T1 2 (vp_updL (vp_updL (hg_l T1 2) 4 ((hg_l T1 2 4) + (f_feedM (s_feeds (s_leaks (s_first S) 3) i) i))) 5 (((vp_updL (hg_l T1 2) 4 ((hg_l T1 2 4) + (f_feedM (s_feeds (s_leaks (s_first S) 3) i) i))) 5) + ((f_feedM (s_feeds (s_leaks (s_first S) 3) i) i) * 10))) : hg_S) = s_feeds (s_leaks (s_first S) 3) (i + 1) from by rw [hT1]; rfl] at hP hD
        exact ih ls H locs (lv_sub hl [0, 1] rfl) hP hD hS
      · intro ls H locs hl hP hD hS
        have hl : lv_has ls 3 [(2, .int (nI 4)), (0, .ref (o 0))] := hl
        refine lv_iload_n hx hb dX6_oneYear_48 rfl (lv_at hl 0 rfl) ?_
        refine lv_iconst (v := nI 4) hx hb dX6_oneYear_49 (by decide) ?_
        refine lv_icmp_ge (tgt := 118) hx hb dX6_oneYear_50 (by decide) (fun c_50 => ?_) (fun c_50 => absurd (nI_le (Nat.le_refl _) (by omega)) c_50)
        refine lv_iconst (v := nI 0) hx hb dX6_oneYear_118 (by decide) ?_
        refine lv_istore_n (lv' := [(2, .int (nI 0)), (0, .ref (o 0))]) hx hb dX6_oneYear_119 rfl hl (by decide) rfl (fun ls hl => ?_)
        obtain ⟨U, hU⟩ : ∃ y : hg_S, y = s_feeds (s_leaks (s_first S) 3) 4 := ⟨_, rfl⟩
        rw [← hU] at hP hD
        have hU0 : hg_n U 0 = hg_n S 0 := by rw [hU, s_feeds_n, s_leaks_n, s_first_n]
        rw [show U = hg_si U 2 (f_ages U 0) from f_ages_0 U] at hP hD
        refine h_forW (nL := 3) (hg_n S 0) (fun i => [(2, .int (nI i)), (0, .ref (o 0))]) (fun i => mW o cI cJ cZ (hg_si U 2 (f_ages U i))) ?_ ?_ (lv_sub hl [0, 1] rfl) hP hD hS
        · intro i ls H locs hi hl hP hD hS ih
          have hl : lv_has ls 3 [(2, .int (nI i)), (0, .ref (o 0))] := hl
          refine lv_iload_n hx hb dX6_oneYear_120 rfl (lv_at hl 0 rfl) ?_
          refine lv_aload_n hx hb dX6_oneYear_121 rfl (lv_at hl 1 rfl) ?_
          refine va_get (C := RX6) (T := TX6) (N := 27) (v := .int (nI (hg_n U 0))) hx hb hts hi6 hown hK hP 0 rfl rfl 0 (by decide) (hts (.fieldLink RX6 72 "HotGroundModel" "wells" "I") (by decide +kernel)) (fun _ h9 => h9) rfl dX6_oneYear_122 ?_
          refine h_topi (y := nI (hg_n S 0)) (by rw [hU0]) ?_
          refine lv_icmp_ge (tgt := 157) hx hb dX6_oneYear_125 (by decide) (fun c_125 => absurd c_125 (nI_ge hi (by omega))) (fun c_125 => ?_)
          refine lv_aload_n hx hb dX6_oneYear_128 rfl (lv_at hl 1 rfl) ?_
          refine va_get (C := RX6) (T := TX6) (N := 27) (v := .ref (o 3)) hx hb hts hi6 hown hK hP 0 rfl rfl 3 (by decide) (hts (.fieldLink RX6 16 "HotGroundModel" "age" "[I") (by decide +kernel)) (fun _ h9 => h9) rfl dX6_oneYear_129 ?_
          refine lv_iload_n hx hb dX6_oneYear_132 rfl (lv_at hl 0 rfl) ?_
          refine lv_dup2_11 hx hb dX6_oneYear_133 rfl rfl ?_
          refine h_iald (f := f_ages U i) hx hb hK hP 3 0 rfl rfl i (rfl) (by omega) (by decide) dX6_oneYear_134 ?_
          refine lv_aload_n hx hb dX6_oneYear_135 rfl (lv_at hl 1 rfl) ?_
          refine va_get (C := RX6) (T := TX6) (N := 27) (v := .ref (o 4)) hx hb hts hi6 hown hK hP 0 rfl rfl 4 (by decide) (hts (.fieldLink RX6 19 "HotGroundModel" "isOpen" "[Z") (by decide +kernel)) (fun _ h9 => h9) rfl dX6_oneYear_136 ?_
          refine lv_iload_n hx hb dX6_oneYear_139 rfl (lv_at hl 0 rfl) ?_
          refine h_zald (f := hg_i U 3) hx hb hK hP 4 2 rfl rfl i (rfl) (by omega) (by decide) dX6_oneYear_140 ?_
          refine lv_if_eq (tgt := 148) hx hb dX6_oneYear_141 (by decide) (fun c_141 => ?_) (fun c_141 => ?_)
          · skip
            refine lv_iconst (v := nI 0) hx hb dX6_oneYear_148 (by decide) ?_
            refine lv_iadd hx hb dX6_oneYear_149 ?_
            refine lv_topi (fun z_10 ez_10 => ?_)
            refine h_iast (f := f_ages U i) (ws' := mW o cI cJ cZ (hg_si U 2 (upd (f_ages U i) i z_10))) hx hb hK hP hD hS 3 0 rfl rfl i (rfl) (by omega) (by decide) rfl dX6_oneYear_150 (fun H locs hP hD hS => ?_)
            refine lv_iinc (v := nI (i + 1)) (lv' := [(2, .int (nI (i + 1))), (0, .ref (o 0))]) hx hb dX6_oneYear_151 hl (k := 0) rfl (nI_1 _) (by decide) rfl (fun ls hl => ?_)
            refine lv_goto (tgt := 120) hx hb dX6_oneYear_154 (by decide) ?_
            subst ez_10
            rw [show (hg_si U 2 (upd (f_ages U i) i ((f_ages U i i) + (nI 0))) : hg_S) = hg_si U 2 (f_ages U (i + 1)) from congrArg (hg_si U 2) (f_ages_put0 c_141)] at hP hD
            exact ih ls H locs (lv_sub hl [0, 1] rfl) hP hD hS
          · skip
            refine lv_iconst (v := nI 1) hx hb dX6_oneYear_144 (by decide) ?_
            refine lv_goto (tgt := 149) hx hb dX6_oneYear_145 (by decide) ?_
            refine lv_iadd hx hb dX6_oneYear_149 ?_
            refine lv_topi (fun z_11 ez_11 => ?_)
            refine h_iast (f := f_ages U i) (ws' := mW o cI cJ cZ (hg_si U 2 (upd (f_ages U i) i z_11))) hx hb hK hP hD hS 3 0 rfl rfl i (rfl) (by omega) (by decide) rfl dX6_oneYear_150 (fun H locs hP hD hS => ?_)
            refine lv_iinc (v := nI (i + 1)) (lv' := [(2, .int (nI (i + 1))), (0, .ref (o 0))]) hx hb dX6_oneYear_151 hl (k := 0) rfl (nI_1 _) (by decide) rfl (fun ls hl => ?_)
            refine lv_goto (tgt := 120) hx hb dX6_oneYear_154 (by decide) ?_
            subst ez_11
            rw [show (hg_si U 2 (upd (f_ages U i) i ((f_ages U i i) + (nI 1))) : hg_S) = hg_si U 2 (f_ages U (i + 1)) from congrArg (hg_si U 2) (f_ages_put c_141)] at hP hD
            exact ih ls H locs (lv_sub hl [0, 1] rfl) hP hD hS
        · intro ls H locs hl hP hD hS
          have hl : lv_has ls 3 [(2, .int (nI (hg_n S 0))), (0, .ref (o 0))] := hl
          have hg : hg_si U 2 (f_ages U (hg_n S 0)) = s_grow U := by unfold s_grow; rw [hU0]
          refine lv_iload_n hx hb dX6_oneYear_120 rfl (lv_at hl 0 rfl) ?_
          refine lv_aload_n hx hb dX6_oneYear_121 rfl (lv_at hl 1 rfl) ?_
          refine va_get (C := RX6) (T := TX6) (N := 27) (v := .int (nI (hg_n U 0))) hx hb hts hi6 hown hK hP 0 rfl rfl 0 (by decide) (hts (.fieldLink RX6 72 "HotGroundModel" "wells" "I") (by decide +kernel)) (fun _ h9 => h9) rfl dX6_oneYear_122 ?_
          refine h_topi (y := nI (hg_n S 0)) (by rw [hU0]) ?_
          refine lv_icmp_ge (tgt := 157) hx hb dX6_oneYear_125 (by decide) (fun c_125 => ?_) (fun c_125 => absurd (nI_le (Nat.le_refl _) (by omega)) c_125)
          rw [show (hg_si U 2 (f_ages U (hg_n S 0)) : hg_S) = s_grow U from hg] at hP hD
          refine lv_aload_n hx hb dX6_oneYear_157 rfl (lv_at hl 1 rfl) ?_
          refine va_get (C := RX6) (T := TX6) (N := 27) (v := .ref (o 14)) hx hb hts hi6 hown hK hP 0 rfl rfl 18 (by decide) (hts (.fieldLink RX6 51 "HotGroundModel" "sums" "[J") (by decide +kernel)) (fun _ h9 => h9) rfl dX6_oneYear_158 ?_
          refine lv_bipush (v := nI 7) hx hb dX6_oneYear_161 (by decide) ?_
          refine lv_dup2_11 hx hb dX6_oneYear_163 rfl rfl ?_
          refine h_lald (f := hg_l (s_grow U) 2) hx hb hK hP 14 1 rfl rfl 7 (rfl) (by omega) (by decide) dX6_oneYear_164 ?_
          refine lv_lconst (v := 1) hx hb dX6_oneYear_165 (by decide) ?_
          refine lv_ladd hx hb dX6_oneYear_166 ?_
          refine lv_topl (fun z_12 ez_12 => ?_)
          refine h_last (f := hg_l (s_grow U) 2) (ws' := mW o cI cJ cZ (hg_sl (s_grow U) 2 (vp_updL (hg_l (s_grow U) 2) 7 z_12))) hx hb hK hP hD hS 14 1 rfl rfl 7 (rfl) (by omega) (by decide) rfl dX6_oneYear_167 (fun H locs hP hD hS => ?_)
          subst ez_12
          rw [show (hg_sl (s_grow U) 2 (vp_updL (hg_l (s_grow U) 2) 7 (((hg_l (s_grow U) 2) 7) + 1)) : hg_S) = s_year S from by rw [hU]; rfl] at hP hD
          exact W.vret hx hb hr (fun t ht hW => ⟨⟨(), rfl, trivial, ⟨by rw [ht]; exact hP, hD⟩⟩, hS.F ht⟩) hS.2.2 dX6_oneYear_168
set_option maxHeartbeats 4000000 in
set_option maxRecDepth 100000 in
/-- year -/
theorem m_X6_year (l : Launch) (D : va_G) (o : Nat → Nat) (cI cJ cZ : ClassId) (S : hg_S) (sz : Nat) (h0 : hg_n S 0 ≤ 8) (h1 : hg_n S 1 ≤ 4) (hg3 : hg_n S 3 < 4) (hbx : ok_bx S) (hlk : ok_lk S) (hkd : ok_kd S) (B : Int) (hB : B < 2 ^ 62) (hys : ∀ i, i < 20 → (∀ p, p ≤ 20 → ∀ j b, j ≤ 8 → b < 4 → ¬ hg_l (s_tk (s_years S i) p j) 0 b < 0) ∧ (∀ j, j ≤ 3 → ok_ms (s_leaks (s_first (s_years S i)) j) B)) (n : Int32) : Met l yX6_year wsX6_year ({ frames := 4, cells := 0, slots := 0, locals := 91 }) (va_Pc [.ref (o 0), .int n] (hg_Wr D (mW o cI cJ cZ S) (hg_ty cI cJ cZ) sz)) (va_Qi (fun (r : Int32) (_ : Unit) => r = (r_year S n).1) (fun _ t => hg_At D (mW o cI cJ cZ ((r_year S n).2)) (va_A (mW o cI cJ cZ S) sz) t) (va_A (mW o cI cJ cZ S) sz)) 0 0 (va_A (mW o cI cJ cZ S) sz) := by
  refine h_start (cc := cX6_year) (maxL := 3) (ret := (some .int)) (by decide) rfl (Nat.le_of_ble_eq_true rfl) ?_
  intro pg ev s mi args below meth cd ls hx hb hr hts hown hlocks hml hnm hpic hl
  obtain ⟨hsz, hP, hK, hD0⟩ := hpic
  subst hsz
  have hD := hD0.self (sz := s.heap.size)
  generalize hAe : va_A (mW o cI cJ cZ S) s.heap.size = A at hD ⊢
  have hA : ∀ q : Nat, s.heap.size ≤ q → A q := fun q h => by rw [← hAe]; exact Or.inr h
  have hS : va_S A s.heap s.heap [] := va_S.rf
  have hi6 : ∀ w ∈ u_ws RX6 TX6 27, w ∈ wsX6_year := by decide +kernel
  have hl : lv_has ls 3 [(0, .ref (o 0)), (1, .int n)] := hl
  refine lv_iload_n hx hb dX6_year_0 rfl (lv_at hl 1 rfl) ?_
  refine lv_iconst (v := nI 1) hx hb dX6_year_1 (by decide) ?_
  refine lv_bipush (v := nI 20) hx hb dX6_year_2 (by decide) ?_
  refine vp_callSi (va_Run.run (va_runS (As := [.int n, .int (nI 1), .int (nI 20)]) (rest := []) ⟨hx, hb, hml, hown, hts⟩ (m_X6_in l n (nI 1) (nI 20)) (va_cwS 3 hts gX6_year_X6_in rfl rfl rfl (by decide +kernel) ⟨Nat.le_of_ble_eq_true rfl, Nat.le_of_ble_eq_true rfl⟩) (h_preS0) rfl rfl hl.1 rfl (lv_room (Nat.le_of_ble_eq_true rfl)) dX6_year_4 ⟨Nat.le_of_ble_eq_true rfl, Nat.le_of_ble_eq_true rfl⟩)) (fun r_1 hr_1 => ?_)
  subst hr_1
  refine lv_if_ne (tgt := 12) hx hb dX6_year_7 (by decide) (fun c_7 => ?_) (fun c_7 => ?_)
  · skip
    have v_7 : ((nI 1) ≤ n ∧ n ≤ (nI 20)) := hg_in_t c_7
    obtain ⟨kn, knl, knh, rfl⟩ := hg_rng (by decide) (by decide) v_7
    refine lv_iconst (v := nI 0) hx hb dX6_year_12 (by decide) ?_
    refine lv_istore_n (lv' := [(2, .int (nI 0)), (0, .ref (o 0)), (1, .int (nI kn))]) hx hb dX6_year_13 rfl hl (by decide) rfl (fun ls hl => ?_)
    have hP : va_P D vwCl (mW o cI cJ cZ (s_years S 0)) s.heap := hP
    have hD : va_D A (mW o cI cJ cZ (s_years S 0)) := hD
    refine h_forW (nL := 3) (kn) (fun i => [(2, .int (nI i)), (0, .ref (o 0)), (1, .int (nI kn))]) (fun i => mW o cI cJ cZ (s_years S i)) ?_ ?_ (lv_sub hl [0, 1, 2] rfl) hP hD hS
    · intro i ls H locs hi hl hP hD hS ih
      have hl : lv_has ls 3 [(2, .int (nI i)), (0, .ref (o 0)), (1, .int (nI kn))] := hl
      refine lv_iload_n hx hb dX6_year_14 rfl (lv_at hl 0 rfl) ?_
      refine lv_iload_n hx hb dX6_year_15 rfl (lv_at hl 2 rfl) ?_
      refine lv_icmp_ge (tgt := 29) hx hb dX6_year_16 (by decide) (fun c_16 => absurd c_16 (nI_ge hi (by omega))) (fun c_16 => ?_)
      refine lv_aload_n hx hb dX6_year_19 rfl (lv_at hl 1 rfl) ?_
      refine h_callv (w1 := mW o cI cJ cZ (s_year (s_years S i))) (va_runV (As := []) (rest := []) ⟨hx, hb, hml, hown, hts⟩ (m_X6_oneYear l D o cI cJ cZ (s_years S i) H.size (by rw [s_years_n]; exact h0) (by rw [s_years_n]; exact h1) (by rw [s_years_n]; exact hg3) (hbx.years i) (hlk.years i) (fun w hw => by rw [s_years_i S i (by decide)]; exact hkd w hw) (hys i (by omega)).1 B hB (hys i (by omega)).2) (cwV 0 hts gX6_year_X6_oneYear rfl rfl rfl (by decide +kernel) ⟨Nat.le_of_ble_eq_true rfl, Nat.le_of_ble_eq_true rfl⟩) (h_preW hK hP hD 0 rfl rfl rfl) rfl rfl hl.1 rfl (lv_room (Nat.le_of_ble_eq_true rfl)) dX6_year_20 ⟨Nat.le_of_ble_eq_true rfl, Nat.le_of_ble_eq_true rfl⟩) hS (h_all hD hS hA) (fun H locs hP hD hS => ?_)
      refine lv_iinc (v := nI (i + 1)) (lv' := [(2, .int (nI (i + 1))), (0, .ref (o 0)), (1, .int (nI kn))]) hx hb dX6_year_23 hl (k := 0) rfl (nI_1 _) (by decide) rfl (fun ls hl => ?_)
      refine lv_goto (tgt := 14) hx hb dX6_year_26 (by decide) ?_
      have hP : va_P D vwCl (mW o cI cJ cZ (s_years S (i + 1))) H := hP
      have hD : va_D A (mW o cI cJ cZ (s_years S (i + 1))) := hD
      exact ih ls H locs (lv_sub hl [0, 1, 2] rfl) hP hD hS
    · intro ls H locs hl hP hD hS
      have hl : lv_has ls 3 [(2, .int (nI kn)), (0, .ref (o 0)), (1, .int (nI kn))] := hl
      refine lv_iload_n hx hb dX6_year_14 rfl (lv_at hl 0 rfl) ?_
      refine lv_iload_n hx hb dX6_year_15 rfl (lv_at hl 2 rfl) ?_
      refine lv_icmp_ge (tgt := 29) hx hb dX6_year_16 (by decide) (fun c_16 => ?_) (fun c_16 => absurd (nI_le (Nat.le_refl _) (by omega)) c_16)
      refine lv_aload_n hx hb dX6_year_29 rfl (lv_at hl 1 rfl) ?_
      refine va_get (C := RX6) (T := TX6) (N := 27) (v := .ref (o 14)) hx hb hts hi6 hown hK hP 0 rfl rfl 18 (by decide) (hts (.fieldLink RX6 51 "HotGroundModel" "sums" "[J") (by decide +kernel)) (fun _ h9 => h9) rfl dX6_year_30 ?_
      refine lv_bipush (v := nI 7) hx hb dX6_year_33 (by decide) ?_
      refine h_lald (f := hg_l (s_years S kn) 2) hx hb hK hP 14 1 rfl rfl 7 (rfl) (by omega) (by decide) dX6_year_35 ?_
      refine lv_l2i (v := Int64.toInt32 ((hg_l (s_years S kn) 2) 7)) hx hb dX6_year_36 rfl ?_
      have hq : r_year S (nI kn) = (Int64.toInt32 ((hg_l (s_years S kn) 2) 7), s_years S kn) := by unfold r_year; rw [if_pos v_7]; (try rw [nI_clamp (show kn < 2 ^ 31 by omega)])
      rw [show (s_years S kn : hg_S) = (r_year S (nI kn)).2 from by rw [hq]] at hP hD
      exact W.iret (v := Int64.toInt32 ((hg_l (s_years S kn) 2) 7)) hx hb hr (fun t ht hW => ⟨⟨_, (), rfl, by rw [hq], ⟨by rw [ht]; exact hP, hD⟩⟩, hS.F ht⟩) hS.2.2 dX6_year_37
  · skip
    have v_7 : ¬ ((nI 1) ≤ n ∧ n ≤ (nI 20)) := hg_in_f c_7
    refine lv_iconst (v := -1) hx hb dX6_year_10 (by decide) ?_
    have hq : r_year S n = ((-1), S) := by unfold r_year; rw [if_neg (fun q => v_7 q)]
    rw [show (S : hg_S) = (r_year S n).2 from by rw [hq]] at hP hD
    exact W.iret (v := (-1)) hx hb hr (fun t ht hW => ⟨⟨_, (), rfl, by rw [hq], ⟨by rw [ht]; exact hP, hD⟩⟩, hS.F ht⟩) hS.2.2 dX6_year_11
set_option maxHeartbeats 4000000 in
set_option maxRecDepth 100000 in
/-- box -/
theorem m_X6_box (l : Launch) (D : va_G) (o : Nat → Nat) (cI cJ cZ : ClassId) (S : hg_S) (b q : Int32) : Met l yX6_box wsX6_box ({ frames := 2, cells := 0, slots := 0, locals := 42 }) (va_Pc [.ref (o 0), .int b, .int q] (hg_R D (mW o cI cJ cZ S) (hg_ty cI cJ cZ))) (vp_Sl (fun r => r = a_box S b q)) 0 0 (fun _ => False) := by
  refine h_start (cc := cX6_box) (maxL := 3) (ret := (some .long)) (by decide) rfl (Nat.le_of_ble_eq_true rfl) ?_
  intro pg ev s mi args below meth cd ls hx hb hr hts hown hlocks hml hnm hpic hl
  obtain ⟨hP, hK⟩ := hpic
  have hi6 : ∀ w ∈ u_ws RX6 TX6 27, w ∈ wsX6_box := by decide +kernel
  have hl : lv_has ls 3 [(0, .ref (o 0)), (1, .int b), (2, .int q)] := hl
  refine lv_iload_n hx hb dX6_box_0 rfl (lv_at hl 1 rfl) ?_
  refine vp_callSi (va_Run.run (va_runS (As := [.int b]) (rest := []) ⟨hx, hb, hml, hown, hts⟩ (m_X6_isBox l b) (va_cwS 1 hts gX6_box_X6_isBox rfl rfl rfl (by decide +kernel) ⟨Nat.le_of_ble_eq_true rfl, Nat.le_of_ble_eq_true rfl⟩) (h_preS0) rfl rfl hl.1 rfl (lv_room (Nat.le_of_ble_eq_true rfl)) dX6_box_1 ⟨Nat.le_of_ble_eq_true rfl, Nat.le_of_ble_eq_true rfl⟩)) (fun r_1 hr_1 => ?_)
  subst hr_1
  refine lv_if_eq (tgt := 16) hx hb dX6_box_4 (by decide) (fun c_4 => ?_) (fun c_4 => ?_)
  · skip
    have v_4 : ¬ ((nI 0) ≤ b ∧ b ≤ (nI 3)) := hg_in_f c_4
    refine lv_ldc2 (v := -1) hx hb hown (hts (.constantLong RX6 147 (-1)) (by decide +kernel)) dX6_box_16 ?_
    refine lv_goto (tgt := 41) hx hb dX6_box_19 (by decide) ?_
    exact W.lret (v := (-1)) hx hb hr (fun t ht hW => ⟨_, rfl, by show (-1) = a_box S b q; unfold a_box; rw [if_neg (fun q => v_4 q.1)], ht⟩) (fun _ h9 => nomatch h9) dX6_box_41
  · skip
    have v_4 : ((nI 0) ≤ b ∧ b ≤ (nI 3)) := hg_in_t c_4
    refine lv_iload_n hx hb dX6_box_7 rfl (lv_at hl 2 rfl) ?_
    refine lv_iconst (v := nI 0) hx hb dX6_box_8 (by decide) ?_
    refine lv_iconst (v := nI 1) hx hb dX6_box_9 (by decide) ?_
    refine vp_callSi (va_Run.run (va_runS (As := [.int q, .int (nI 0), .int (nI 1)]) (rest := []) ⟨hx, hb, hml, hown, hts⟩ (m_X6_in l q (nI 0) (nI 1)) (va_cwS 3 hts gX6_box_X6_in rfl rfl rfl (by decide +kernel) ⟨Nat.le_of_ble_eq_true rfl, Nat.le_of_ble_eq_true rfl⟩) (h_preS0) rfl rfl hl.1 rfl (lv_room (Nat.le_of_ble_eq_true rfl)) dX6_box_10 ⟨Nat.le_of_ble_eq_true rfl, Nat.le_of_ble_eq_true rfl⟩)) (fun r_2 hr_2 => ?_)
    subst hr_2
    refine lv_if_ne (tgt := 22) hx hb dX6_box_13 (by decide) (fun c_13 => ?_) (fun c_13 => ?_)
    · skip
      have v_13 : ((nI 0) ≤ q ∧ q ≤ (nI 1)) := hg_in_t c_13
      obtain ⟨kb, kbl, kbh, rfl⟩ := hg_rng (by decide) (by decide) v_4
      refine lv_iload_n hx hb dX6_box_22 rfl (lv_at hl 2 rfl) ?_
      refine lv_if_ne (tgt := 35) hx hb dX6_box_23 (by decide) (fun c_23 => ?_) (fun c_23 => ?_)
      · skip
        refine lv_aload_n hx hb dX6_box_35 rfl (lv_at hl 0 rfl) ?_
        refine va_get (C := RX6) (T := TX6) (N := 27) (v := .ref (o 11)) hx hb hts hi6 hown hK hP 0 rfl rfl 13 (by decide) (hts (.fieldLink RX6 42 "HotGroundModel" "heat" "[J") (by decide +kernel)) (fun _ h9 => h9) rfl dX6_box_36 ?_
        refine lv_iload_n hx hb dX6_box_39 rfl (lv_at hl 1 rfl) ?_
        refine h_lald (f := hg_l S 1) hx hb hK hP 11 1 rfl rfl kb (rfl) (by omega) (by decide) dX6_box_40 ?_
        exact W.lret (v := hg_l S 1 kb) hx hb hr (fun t ht hW => ⟨_, rfl, by show hg_l S 1 kb = a_box S (nI kb) q; unfold a_box; rw [if_pos (⟨v_4, v_13⟩)]; (try rw [nI_clamp (show kb < 2 ^ 31 by omega)]); rw [if_neg (fun h => c_23 (h.trans nI_0))], ht⟩) (fun _ h9 => nomatch h9) dX6_box_41
      · skip
        refine lv_aload_n hx hb dX6_box_26 rfl (lv_at hl 0 rfl) ?_
        refine va_get (C := RX6) (T := TX6) (N := 27) (v := .ref (o 10)) hx hb hts hi6 hown hK hP 0 rfl rfl 12 (by decide) (hts (.fieldLink RX6 38 "HotGroundModel" "mass" "[J") (by decide +kernel)) (fun _ h9 => h9) rfl dX6_box_27 ?_
        refine lv_iload_n hx hb dX6_box_30 rfl (lv_at hl 1 rfl) ?_
        refine h_lald (f := hg_l S 0) hx hb hK hP 10 1 rfl rfl kb (rfl) (by omega) (by decide) dX6_box_31 ?_
        refine lv_goto (tgt := 41) hx hb dX6_box_32 (by decide) ?_
        exact W.lret (v := hg_l S 0 kb) hx hb hr (fun t ht hW => ⟨_, rfl, by show hg_l S 0 kb = a_box S (nI kb) q; unfold a_box; rw [if_pos (⟨v_4, v_13⟩)]; (try rw [nI_clamp (show kb < 2 ^ 31 by omega)]); rw [if_pos (c_23.trans nI_0.symm)], ht⟩) (fun _ h9 => nomatch h9) dX6_box_41
    · skip
      have v_13 : ¬ ((nI 0) ≤ q ∧ q ≤ (nI 1)) := hg_in_f c_13
      refine lv_ldc2 (v := -1) hx hb hown (hts (.constantLong RX6 147 (-1)) (by decide +kernel)) dX6_box_16 ?_
      refine lv_goto (tgt := 41) hx hb dX6_box_19 (by decide) ?_
      exact W.lret (v := (-1)) hx hb hr (fun t ht hW => ⟨_, rfl, by show (-1) = a_box S b q; unfold a_box; rw [if_neg (fun q => v_13 q.2)], ht⟩) (fun _ h9 => nomatch h9) dX6_box_41
set_option maxHeartbeats 4000000 in
set_option maxRecDepth 100000 in
/-- sum -/
theorem m_X6_sum (l : Launch) (D : va_G) (o : Nat → Nat) (cI cJ cZ : ClassId) (S : hg_S) (q : Int32) : Met l yX6_sum wsX6_sum ({ frames := 1, cells := 0, slots := 0, locals := 22 }) (va_Pc [.ref (o 0), .int q] (hg_R D (mW o cI cJ cZ S) (hg_ty cI cJ cZ))) (vp_Sl (fun r => r = a_sum S q)) 0 0 (fun _ => False) := by
  refine h_start (cc := cX6_sum) (maxL := 2) (ret := (some .long)) (by decide) rfl (Nat.le_of_ble_eq_true rfl) ?_
  intro pg ev s mi args below meth cd ls hx hb hr hts hown hlocks hml hnm hpic hl
  obtain ⟨hP, hK⟩ := hpic
  have hi6 : ∀ w ∈ u_ws RX6 TX6 27, w ∈ wsX6_sum := by decide +kernel
  have hl : lv_has ls 2 [(0, .ref (o 0)), (1, .int q)] := hl
  refine lv_iload_n hx hb dX6_sum_0 rfl (lv_at hl 1 rfl) ?_
  refine lv_iconst (v := nI 0) hx hb dX6_sum_1 (by decide) ?_
  refine lv_bipush (v := nI 8) hx hb dX6_sum_2 (by decide) ?_
  refine vp_callSi (va_Run.run (va_runS (As := [.int q, .int (nI 0), .int (nI 8)]) (rest := []) ⟨hx, hb, hml, hown, hts⟩ (m_X6_in l q (nI 0) (nI 8)) (va_cwS 3 hts gX6_sum_X6_in rfl rfl rfl (by decide +kernel) ⟨Nat.le_of_ble_eq_true rfl, Nat.le_of_ble_eq_true rfl⟩) (h_preS0) rfl rfl hl.1 rfl (lv_room (Nat.le_of_ble_eq_true rfl)) dX6_sum_4 ⟨Nat.le_of_ble_eq_true rfl, Nat.le_of_ble_eq_true rfl⟩)) (fun r_1 hr_1 => ?_)
  subst hr_1
  refine lv_if_eq (tgt := 19) hx hb dX6_sum_7 (by decide) (fun c_7 => ?_) (fun c_7 => ?_)
  · skip
    have v_7 : ¬ ((nI 0) ≤ q ∧ q ≤ (nI 8)) := hg_in_f c_7
    refine lv_ldc2 (v := -1) hx hb hown (hts (.constantLong RX6 147 (-1)) (by decide +kernel)) dX6_sum_19 ?_
    exact W.lret (v := (-1)) hx hb hr (fun t ht hW => ⟨_, rfl, by show (-1) = a_sum S q; unfold a_sum; rw [if_neg (fun q => v_7 q)], ht⟩) (fun _ h9 => nomatch h9) dX6_sum_22
  · skip
    have v_7 : ((nI 0) ≤ q ∧ q ≤ (nI 8)) := hg_in_t c_7
    obtain ⟨kq, kql, kqh, rfl⟩ := hg_rng (by decide) (by decide) v_7
    refine lv_aload_n hx hb dX6_sum_10 rfl (lv_at hl 0 rfl) ?_
    refine va_get (C := RX6) (T := TX6) (N := 27) (v := .ref (o 14)) hx hb hts hi6 hown hK hP 0 rfl rfl 18 (by decide) (hts (.fieldLink RX6 51 "HotGroundModel" "sums" "[J") (by decide +kernel)) (fun _ h9 => h9) rfl dX6_sum_11 ?_
    refine lv_iload_n hx hb dX6_sum_14 rfl (lv_at hl 1 rfl) ?_
    refine h_lald (f := hg_l S 2) hx hb hK hP 14 1 rfl rfl kq (rfl) (by omega) (by decide) dX6_sum_15 ?_
    refine lv_goto (tgt := 22) hx hb dX6_sum_16 (by decide) ?_
    exact W.lret (v := hg_l S 2 kq) hx hb hr (fun t ht hW => ⟨_, rfl, by show hg_l S 2 kq = a_sum S (nI kq); unfold a_sum; rw [if_pos v_7]; (try rw [nI_clamp (show kq < 2 ^ 31 by omega)]), ht⟩) (fun _ h9 => nomatch h9) dX6_sum_22
set_option maxHeartbeats 4000000 in
set_option maxRecDepth 100000 in
/-- share -/
theorem m_X6_share (l : Launch) (D : va_G) (o : Nat → Nat) (cI cJ cZ : ClassId) (S : hg_S) (sz : Nat) (k v : Int32) : Met l yX6_share wsX6_share ({ frames := 1, cells := 0, slots := 0, locals := 22 }) (va_Pc [.ref (o 0), .int k, .int v] (hg_Wr D (mW o cI cJ cZ S) (hg_ty cI cJ cZ) sz)) (va_Qi (fun (r : Int32) (_ : Unit) => r = (r_share S k v).1) (fun _ t => hg_At D (mW o cI cJ cZ ((r_share S k v).2)) (va_A (mW o cI cJ cZ S) sz) t) (va_A (mW o cI cJ cZ S) sz)) 0 0 (va_A (mW o cI cJ cZ S) sz) := by
  refine h_start (cc := cX6_share) (maxL := 5) (ret := (some .int)) (by decide) rfl (Nat.le_of_ble_eq_true rfl) ?_
  intro pg ev s mi args below meth cd ls hx hb hr hts hown hlocks hml hnm hpic hl
  obtain ⟨hsz, hP, hK, hD0⟩ := hpic
  subst hsz
  have hD := hD0.self (sz := s.heap.size)
  generalize hAe : va_A (mW o cI cJ cZ S) s.heap.size = A at hD ⊢
  have hA : ∀ q : Nat, s.heap.size ≤ q → A q := fun q h => by rw [← hAe]; exact Or.inr h
  have hS : va_S A s.heap s.heap [] := va_S.rf
  have hi6 : ∀ w ∈ u_ws RX6 TX6 27, w ∈ wsX6_share := by decide +kernel
  have hl : lv_has ls 5 [(0, .ref (o 0)), (1, .int k), (2, .int v)] := hl
  refine lv_iload_n hx hb dX6_share_0 rfl (lv_at hl 1 rfl) ?_
  refine lv_iconst (v := nI 0) hx hb dX6_share_1 (by decide) ?_
  refine lv_iconst (v := nI 5) hx hb dX6_share_2 (by decide) ?_
  refine vp_callSi (va_Run.run (va_runS (As := [.int k, .int (nI 0), .int (nI 5)]) (rest := []) ⟨hx, hb, hml, hown, hts⟩ (m_X6_in l k (nI 0) (nI 5)) (va_cwS 3 hts gX6_share_X6_in rfl rfl rfl (by decide +kernel) ⟨Nat.le_of_ble_eq_true rfl, Nat.le_of_ble_eq_true rfl⟩) (h_preS0) rfl rfl hl.1 rfl (lv_room (Nat.le_of_ble_eq_true rfl)) dX6_share_3 ⟨Nat.le_of_ble_eq_true rfl, Nat.le_of_ble_eq_true rfl⟩)) (fun r_1 hr_1 => ?_)
  subst hr_1
  refine lv_if_eq (tgt := 20) hx hb dX6_share_6 (by decide) (fun c_6 => ?_) (fun c_6 => ?_)
  · skip
    have v_6 : ¬ ((nI 0) ≤ k ∧ k ≤ (nI 5)) := hg_in_f c_6
    refine lv_iconst (v := -1) hx hb dX6_share_20 (by decide) ?_
    have hq : r_share S k v = ((-1), S) := by unfold r_share; rw [if_neg (fun q => v_6 q.1)]
    rw [show (S : hg_S) = (r_share S k v).2 from by rw [hq]] at hP hD
    exact W.iret (v := (-1)) hx hb hr (fun t ht hW => ⟨⟨_, (), rfl, by rw [hq], ⟨by rw [ht]; exact hP, hD⟩⟩, hS.F ht⟩) hS.2.2 dX6_share_21
  · skip
    have v_6 : ((nI 0) ≤ k ∧ k ≤ (nI 5)) := hg_in_t c_6
    refine lv_iload_n hx hb dX6_share_9 rfl (lv_at hl 2 rfl) ?_
    refine lv_iconst (v := nI 0) hx hb dX6_share_10 (by decide) ?_
    refine lv_sipush (v := nI 1000) hx hb dX6_share_11 (by decide) ?_
    refine vp_callSi (va_Run.run (va_runS (As := [.int v, .int (nI 0), .int (nI 1000)]) (rest := []) ⟨hx, hb, hml, hown, hts⟩ (m_X6_in l v (nI 0) (nI 1000)) (va_cwS 3 hts gX6_share_X6_in rfl rfl rfl (by decide +kernel) ⟨Nat.le_of_ble_eq_true rfl, Nat.le_of_ble_eq_true rfl⟩) (h_preS0) rfl rfl hl.1 rfl (lv_room (Nat.le_of_ble_eq_true rfl)) dX6_share_14 ⟨Nat.le_of_ble_eq_true rfl, Nat.le_of_ble_eq_true rfl⟩)) (fun r_2 hr_2 => ?_)
    subst hr_2
    refine lv_if_ne (tgt := 22) hx hb dX6_share_17 (by decide) (fun c_17 => ?_) (fun c_17 => ?_)
    · skip
      have v_17 : ((nI 0) ≤ v ∧ v ≤ (nI 1000)) := hg_in_t c_17
      obtain ⟨kk, kkl, kkh, rfl⟩ := hg_rng (by decide) (by decide) v_6
      refine lv_iload_n hx hb dX6_share_22 rfl (lv_at hl 2 rfl) ?_
      refine h_topi (y := f_oth S kk v 0) (rfl) ?_
      refine lv_istore_n (lv' := [(3, .int (f_oth S kk v 0)), (0, .ref (o 0)), (1, .int (nI kk)), (2, .int v)]) hx hb dX6_share_23 rfl hl (by decide) rfl (fun ls hl => ?_)
      refine lv_iconst (v := nI 0) hx hb dX6_share_24 (by decide) ?_
      refine lv_istore (lv' := [(4, .int (nI 0)), (3, .int (f_oth S kk v 0)), (0, .ref (o 0)), (1, .int (nI kk)), (2, .int v)]) hx hb dX6_share_25 hl (by decide) rfl (fun ls hl => ?_)
      refine h_for (nL := 5) (6) (fun i => [(4, .int (nI i)), (3, .int (f_oth S kk v i)), (0, .ref (o 0)), (1, .int (nI kk)), (2, .int v)]) ?_ ?_ (lv_sub hl [0, 1, 2, 3, 4] rfl)
      · intro i ls hi hl ih
        have hl : lv_has ls 5 [(4, .int (nI i)), (3, .int (f_oth S kk v i)), (0, .ref (o 0)), (1, .int (nI kk)), (2, .int v)] := hl
        refine lv_iload hx hb dX6_share_27 (lv_at hl 0 rfl) ?_
        refine lv_bipush (v := nI 6) hx hb dX6_share_29 (by decide) ?_
        refine lv_icmp_ge (tgt := 60) hx hb dX6_share_31 (by decide) (fun c_31 => absurd c_31 (nI_ge hi (by omega))) (fun c_31 => ?_)
        refine lv_iload_n hx hb dX6_share_34 rfl (lv_at hl 1 rfl) ?_
        refine lv_iload hx hb dX6_share_35 (lv_at hl 0 rfl) ?_
        refine lv_iload_n hx hb dX6_share_37 rfl (lv_at hl 3 rfl) ?_
        refine lv_icmp_ne (tgt := 45) hx hb dX6_share_38 (by decide) (fun c_38 => ?_) (fun c_38 => ?_)
        · skip
          refine lv_aload_n hx hb dX6_share_45 rfl (lv_at hl 2 rfl) ?_
          refine va_get (C := RX6) (T := TX6) (N := 27) (v := .ref (o 15)) hx hb hts hi6 hown hK hP 0 rfl rfl 19 (by decide) (hts (.fieldLink RX6 54 "HotGroundModel" "share" "[I") (by decide +kernel)) (fun _ h9 => h9) rfl dX6_share_46 ?_
          refine lv_iload hx hb dX6_share_49 (lv_at hl 0 rfl) ?_
          refine h_iald (f := hg_i S 11) hx hb hK hP 15 0 rfl rfl i (rfl) (by omega) (by decide) dX6_share_51 ?_
          refine lv_iadd hx hb dX6_share_52 ?_
          refine h_topi (y := f_oth S kk v (i + 1)) (by show _ + _ = _ + f_oth1 S kk i; unfold f_oth1; rw [if_neg (fun h => c_38 (congrArg nI h))]) ?_
          refine lv_istore_n (lv' := [(3, .int (f_oth S kk v (i + 1))), (4, .int (nI i)), (0, .ref (o 0)), (1, .int (nI kk)), (2, .int v)]) hx hb dX6_share_53 rfl hl (by decide) rfl (fun ls hl => ?_)
          refine lv_iinc (v := nI (i + 1)) (lv' := [(4, .int (nI (i + 1))), (3, .int (f_oth S kk v (i + 1))), (0, .ref (o 0)), (1, .int (nI kk)), (2, .int v)]) hx hb dX6_share_54 hl (k := 1) rfl (nI_1 _) (by decide) rfl (fun ls hl => ?_)
          refine lv_goto (tgt := 27) hx hb dX6_share_57 (by decide) ?_
          exact ih ls (lv_sub hl [0, 1, 2, 3, 4] rfl)
        · skip
          refine lv_iconst (v := nI 0) hx hb dX6_share_41 (by decide) ?_
          refine lv_goto (tgt := 52) hx hb dX6_share_42 (by decide) ?_
          refine lv_iadd hx hb dX6_share_52 ?_
          refine h_topi (y := f_oth S kk v (i + 1)) (by show _ + _ = _ + f_oth1 S kk i; unfold f_oth1; rw [if_pos ((nI_eq (by omega) (by omega)).mp c_38)]) ?_
          refine lv_istore_n (lv' := [(3, .int (f_oth S kk v (i + 1))), (4, .int (nI i)), (0, .ref (o 0)), (1, .int (nI kk)), (2, .int v)]) hx hb dX6_share_53 rfl hl (by decide) rfl (fun ls hl => ?_)
          refine lv_iinc (v := nI (i + 1)) (lv' := [(4, .int (nI (i + 1))), (3, .int (f_oth S kk v (i + 1))), (0, .ref (o 0)), (1, .int (nI kk)), (2, .int v)]) hx hb dX6_share_54 hl (k := 1) rfl (nI_1 _) (by decide) rfl (fun ls hl => ?_)
          refine lv_goto (tgt := 27) hx hb dX6_share_57 (by decide) ?_
          exact ih ls (lv_sub hl [0, 1, 2, 3, 4] rfl)
      · intro ls hl
        have hl : lv_has ls 5 [(4, .int (nI 6)), (3, .int (f_oth S kk v 6)), (0, .ref (o 0)), (1, .int (nI kk)), (2, .int v)] := hl
        refine lv_iload hx hb dX6_share_27 (lv_at hl 0 rfl) ?_
        refine lv_bipush (v := nI 6) hx hb dX6_share_29 (by decide) ?_
        refine lv_icmp_ge (tgt := 60) hx hb dX6_share_31 (by decide) (fun c_31 => ?_) (fun c_31 => absurd (nI_le (Nat.le_refl _) (by omega)) c_31)
        rw [show f_oth S kk v 6 = f_shr S kk v from f_oth_eq S (by omega) v] at hl
        have hl : lv_has ls 5 [(4, .int (nI 6)), (3, .int (f_shr S kk v)), (0, .ref (o 0)), (1, .int (nI kk)), (2, .int v)] := hl
        refine lv_iload_n hx hb dX6_share_60 rfl (lv_at hl 1 rfl) ?_
        refine lv_sipush (v := nI 1000) hx hb dX6_share_61 (by decide) ?_
        refine lv_icmp_le (tgt := 69) hx hb dX6_share_64 (by decide) (fun c_64 => ?_) (fun c_64 => ?_)
        · skip
          refine lv_aload_n hx hb dX6_share_69 rfl (lv_at hl 2 rfl) ?_
          refine va_get (C := RX6) (T := TX6) (N := 27) (v := .ref (o 15)) hx hb hts hi6 hown hK hP 0 rfl rfl 19 (by decide) (hts (.fieldLink RX6 54 "HotGroundModel" "share" "[I") (by decide +kernel)) (fun _ h9 => h9) rfl dX6_share_70 ?_
          refine lv_iload_n hx hb dX6_share_73 rfl (lv_at hl 3 rfl) ?_
          refine h_iald (f := hg_i S 11) hx hb hK hP 15 0 rfl rfl kk (rfl) (by omega) (by decide) dX6_share_74 ?_
          refine lv_istore (lv' := [(4, .int (hg_i S 11 kk)), (3, .int (f_shr S kk v)), (0, .ref (o 0)), (1, .int (nI kk)), (2, .int v)]) hx hb dX6_share_75 hl (by decide) rfl (fun ls hl => ?_)
          refine lv_aload_n hx hb dX6_share_77 rfl (lv_at hl 2 rfl) ?_
          refine va_get (C := RX6) (T := TX6) (N := 27) (v := .ref (o 15)) hx hb hts hi6 hown hK hP 0 rfl rfl 19 (by decide) (hts (.fieldLink RX6 54 "HotGroundModel" "share" "[I") (by decide +kernel)) (fun _ h9 => h9) rfl dX6_share_78 ?_
          refine lv_iload_n hx hb dX6_share_81 rfl (lv_at hl 3 rfl) ?_
          refine lv_iload_n hx hb dX6_share_82 rfl (lv_at hl 4 rfl) ?_
          refine h_iast (f := hg_i S 11) (ws' := mW o cI cJ cZ (hg_si S 11 (upd (hg_i S 11) kk v))) hx hb hK hP hD hS 15 0 rfl rfl kk (rfl) (by omega) (by decide) rfl dX6_share_83 (fun H locs hP hD hS => ?_)
          refine lv_iload hx hb dX6_share_84 (lv_at hl 0 rfl) ?_
          have hq : r_share S (nI kk) v = (hg_i S 11 kk, hg_si S 11 (upd (hg_i S 11) kk v)) := by unfold r_share; rw [if_pos ⟨v_6, v_17, by rw [nI_clamp (show kk < 2 ^ 31 by omega)]; exact c_64⟩, nI_clamp (show kk < 2 ^ 31 by omega)]
          rw [show (hg_si S 11 (upd (hg_i S 11) kk v) : hg_S) = (r_share S (nI kk) v).2 from by rw [hq]] at hP hD
          exact W.iret (v := hg_i S 11 kk) hx hb hr (fun t ht hW => ⟨⟨_, (), rfl, by rw [hq], ⟨by rw [ht]; exact hP, hD⟩⟩, hS.F ht⟩) hS.2.2 dX6_share_86
        · skip
          refine lv_iconst (v := -1) hx hb dX6_share_67 (by decide) ?_
          have hq : r_share S (nI kk) v = ((-1), S) := by unfold r_share; rw [if_neg (fun q => c_64 (by have := q.2.2; rw [nI_clamp (show kk < 2 ^ 31 by omega)] at this; exact this))]
          rw [show (S : hg_S) = (r_share S (nI kk) v).2 from by rw [hq]] at hP hD
          exact W.iret (v := (-1)) hx hb hr (fun t ht hW => ⟨⟨_, (), rfl, by rw [hq], ⟨by rw [ht]; exact hP, hD⟩⟩, hS.F ht⟩) hS.2.2 dX6_share_68
    · skip
      have v_17 : ¬ ((nI 0) ≤ v ∧ v ≤ (nI 1000)) := hg_in_f c_17
      refine lv_iconst (v := -1) hx hb dX6_share_20 (by decide) ?_
      have hq : r_share S k v = ((-1), S) := by unfold r_share; rw [if_neg (fun q => v_17 q.2.1)]
      rw [show (S : hg_S) = (r_share S k v).2 from by rw [hq]] at hP hD
      exact W.iret (v := (-1)) hx hb hr (fun t ht hW => ⟨⟨_, (), rfl, by rw [hq], ⟨by rw [ht]; exact hP, hD⟩⟩, hS.F ht⟩) hS.2.2 dX6_share_21
set_option maxHeartbeats 4000000 in
set_option maxRecDepth 100000 in
/-- put -/
theorem m_X6_put (l : Launch) (D : va_G) (o : Nat → Nat) (cI cJ cZ : ClassId) (S : hg_S) (sz : Nat) (h4 : hg_n S 4 ≤ 12) (v : Int32) : Met l yX6_put wsX6_put ({ frames := 1, cells := 0, slots := 0, locals := 22 }) (va_Pc [.ref (o 0), .int v] (hg_Wr D (mW o cI cJ cZ S) (hg_ty cI cJ cZ) sz)) (va_Qi (fun (r : Int32) (_ : Unit) => r = (r_put S v).1) (fun _ t => hg_At D (mW o cI cJ cZ ((r_put S v).2)) (va_A (mW o cI cJ cZ S) sz) t) (va_A (mW o cI cJ cZ S) sz)) 0 0 (va_A (mW o cI cJ cZ S) sz) := by
  refine h_start (cc := cX6_put) (maxL := 2) (ret := (some .int)) (by decide) rfl (Nat.le_of_ble_eq_true rfl) ?_
  intro pg ev s mi args below meth cd ls hx hb hr hts hown hlocks hml hnm hpic hl
  obtain ⟨hsz, hP, hK, hD0⟩ := hpic
  subst hsz
  have hD := hD0.self (sz := s.heap.size)
  generalize hAe : va_A (mW o cI cJ cZ S) s.heap.size = A at hD ⊢
  have hA : ∀ q : Nat, s.heap.size ≤ q → A q := fun q h => by rw [← hAe]; exact Or.inr h
  have hS : va_S A s.heap s.heap [] := va_S.rf
  have hi6 : ∀ w ∈ u_ws RX6 TX6 27, w ∈ wsX6_put := by decide +kernel
  have hl : lv_has ls 2 [(0, .ref (o 0)), (1, .int v)] := hl
  refine lv_iload_n hx hb dX6_put_0 rfl (lv_at hl 1 rfl) ?_
  refine lv_iconst (v := nI 0) hx hb dX6_put_1 (by decide) ?_
  refine lv_ldc (v := 1000000) hx hb hown (hts (.constant RX6 149 (1000000)) (by decide +kernel)) dX6_put_2 ?_
  refine h_topi (y := nI 1000000) (by decide) ?_
  refine vp_callSi (va_Run.run (va_runS (As := [.int v, .int (nI 0), .int (nI 1000000)]) (rest := []) ⟨hx, hb, hml, hown, hts⟩ (m_X6_in l v (nI 0) (nI 1000000)) (va_cwS 3 hts gX6_put_X6_in rfl rfl rfl (by decide +kernel) ⟨Nat.le_of_ble_eq_true rfl, Nat.le_of_ble_eq_true rfl⟩) (h_preS0) rfl rfl hl.1 rfl (lv_room (Nat.le_of_ble_eq_true rfl)) dX6_put_4 ⟨Nat.le_of_ble_eq_true rfl, Nat.le_of_ble_eq_true rfl⟩)) (fun r_1 hr_1 => ?_)
  subst hr_1
  refine lv_if_ne (tgt := 12) hx hb dX6_put_7 (by decide) (fun c_7 => ?_) (fun c_7 => ?_)
  · skip
    have v_7 : ((nI 0) ≤ v ∧ v ≤ (nI 1000000)) := hg_in_t c_7
    refine lv_aload_n hx hb dX6_put_12 rfl (lv_at hl 0 rfl) ?_
    refine va_get (C := RX6) (T := TX6) (N := 27) (v := .int (nI (hg_n S 4))) hx hb hts hi6 hown hK hP 0 rfl rfl 20 (by decide) (hts (.fieldLink RX6 150 "HotGroundModel" "told" "I") (by decide +kernel)) (fun _ h9 => h9) rfl dX6_put_13 ?_
    refine lv_bipush (v := nI 12) hx hb dX6_put_16 (by decide) ?_
    refine lv_icmp_ne (tgt := 24) hx hb dX6_put_18 (by decide) (fun c_18 => ?_) (fun c_18 => ?_)
    · skip
      have hc : hg_n S 4 < 12 := by have : ¬ hg_n S 4 = 12 := fun h => c_18 ((nI_eq (by omega) (by omega)).mpr h); omega
      refine lv_aload_n hx hb dX6_put_24 rfl (lv_at hl 0 rfl) ?_
      refine va_get (C := RX6) (T := TX6) (N := 27) (v := .ref (o 16)) hx hb hts hi6 hown hK hP 0 rfl rfl 21 (by decide) (hts (.fieldLink RX6 57 "HotGroundModel" "put" "[I") (by decide +kernel)) (fun _ h9 => h9) rfl dX6_put_25 ?_
      refine lv_aload_n hx hb dX6_put_28 rfl (lv_at hl 0 rfl) ?_
      refine va_get (C := RX6) (T := TX6) (N := 27) (v := .int (nI (hg_n S 4))) hx hb hts hi6 hown hK hP 0 rfl rfl 20 (by decide) (hts (.fieldLink RX6 150 "HotGroundModel" "told" "I") (by decide +kernel)) (fun _ h9 => h9) rfl dX6_put_29 ?_
      refine lv_iload_n hx hb dX6_put_32 rfl (lv_at hl 1 rfl) ?_
      refine h_iast (f := hg_i S 12) (ws' := mW o cI cJ cZ (hg_si S 12 (upd (hg_i S 12) (hg_n S 4) v))) hx hb hK hP hD hS 16 0 rfl rfl (hg_n S 4) (rfl) (by omega) (by decide) rfl dX6_put_33 (fun H locs hP hD hS => ?_)
      refine lv_aload_n hx hb dX6_put_34 rfl (lv_at hl 0 rfl) ?_
      refine lv_dup hx hb dX6_put_35 rfl ?_
      refine va_get (C := RX6) (T := TX6) (N := 27) (v := .int (nI (hg_n S 4))) hx hb hts hi6 hown hK hP 0 rfl rfl 20 (by decide) (hts (.fieldLink RX6 150 "HotGroundModel" "told" "I") (by decide +kernel)) (fun _ h9 => h9) rfl dX6_put_36 ?_
      refine lv_iconst (v := nI 1) hx hb dX6_put_39 (by decide) ?_
      refine lv_iadd hx hb dX6_put_40 ?_
      refine h_topi (y := nI ((hg_n S 4) + 1)) (nI_add _ _) ?_
      refine h_put (C := RX6) (T := TX6) (N := 27) (v := .int (nI ((hg_n S 4) + 1))) (ty := .int) (ws' := mW o cI cJ cZ (hg_sn (hg_si S 12 (upd (hg_i S 12) (hg_n S 4) v)) 4 ((hg_n S 4) + 1))) hx hb hts hi6 tyX6 tyX6_ok nmX6 hown hK hP hD hS 0 rfl rfl 20 (by decide) (hts (.fieldLink RX6 150 "HotGroundModel" "told" "I") (by decide +kernel)) (fun _ h9 => h9) rfl (by decide +kernel) rfl rfl (Nat.le_of_ble_eq_true rfl) rfl dX6_put_41 (fun H locs hP hD hS => ?_)
      refine lv_aload_n hx hb dX6_put_44 rfl (lv_at hl 0 rfl) ?_
      refine va_get (C := RX6) (T := TX6) (N := 27) (v := .int (nI ((hg_n S 4) + 1))) hx hb hts hi6 hown hK hP 0 rfl rfl 20 (by decide) (hts (.fieldLink RX6 150 "HotGroundModel" "told" "I") (by decide +kernel)) (fun _ h9 => h9) rfl dX6_put_45 ?_
      have hq : r_put S v = (nI ((hg_n S 4) + 1), hg_sn (hg_si S 12 (upd (hg_i S 12) (hg_n S 4) v)) 4 ((hg_n S 4) + 1)) := by unfold r_put; rw [if_pos v_7]; rw [if_pos (by omega)]
      rw [show (hg_sn (hg_si S 12 (upd (hg_i S 12) (hg_n S 4) v)) 4 ((hg_n S 4) + 1) : hg_S) = (r_put S v).2 from by rw [hq]] at hP hD
      exact W.iret (v := nI ((hg_n S 4) + 1)) hx hb hr (fun t ht hW => ⟨⟨_, (), rfl, by rw [hq], ⟨by rw [ht]; exact hP, hD⟩⟩, hS.F ht⟩) hS.2.2 dX6_put_48
    · skip
      have hc : ¬ hg_n S 4 < 12 := by have := (nI_eq (by omega) (by omega)).mp c_18; omega
      refine lv_bipush (v := -3) hx hb dX6_put_21 (by decide) ?_
      have hq : r_put S v = ((-3), S) := by unfold r_put; rw [if_pos v_7]; rw [if_neg (by omega)]
      rw [show (S : hg_S) = (r_put S v).2 from by rw [hq]] at hP hD
      exact W.iret (v := (-3)) hx hb hr (fun t ht hW => ⟨⟨_, (), rfl, by rw [hq], ⟨by rw [ht]; exact hP, hD⟩⟩, hS.F ht⟩) hS.2.2 dX6_put_23
  · skip
    have v_7 : ¬ ((nI 0) ≤ v ∧ v ≤ (nI 1000000)) := hg_in_f c_7
    refine lv_iconst (v := -1) hx hb dX6_put_10 (by decide) ?_
    have hq : r_put S v = ((-1), S) := by unfold r_put; rw [if_neg (fun q => v_7 q)]
    rw [show (S : hg_S) = (r_put S v).2 from by rw [hq]] at hP hD
    exact W.iret (v := (-1)) hx hb hr (fun t ht hW => ⟨⟨_, (), rfl, by rw [hq], ⟨by rw [ht]; exact hP, hD⟩⟩, hS.F ht⟩) hS.2.2 dX6_put_11
set_option maxHeartbeats 4000000 in
set_option maxRecDepth 100000 in
/-- back -/
theorem m_X6_back (l : Launch) (D : va_G) (o : Nat → Nat) (cI cJ cZ : ClassId) (S : hg_S) (h4 : hg_n S 4 ≤ 12) (y : Int32) : Met l yX6_back wsX6_back ({ frames := 1, cells := 0, slots := 0, locals := 22 }) (va_Pc [.ref (o 0), .int y] (hg_R D (mW o cI cJ cZ S) (hg_ty cI cJ cZ))) (vp_Si (fun r => r = a_back S y)) 0 0 (fun _ => False) := by
  refine h_start (cc := cX6_back) (maxL := 5) (ret := (some .int)) (by decide) rfl (Nat.le_of_ble_eq_true rfl) ?_
  intro pg ev s mi args below meth cd ls hx hb hr hts hown hlocks hml hnm hpic hl
  obtain ⟨hP, hK⟩ := hpic
  have hi6 : ∀ w ∈ u_ws RX6 TX6 27, w ∈ wsX6_back := by decide +kernel
  have hl : lv_has ls 5 [(0, .ref (o 0)), (1, .int y)] := hl
  refine lv_iload_n hx hb dX6_back_0 rfl (lv_at hl 1 rfl) ?_
  refine lv_iconst (v := nI 0) hx hb dX6_back_1 (by decide) ?_
  refine lv_bipush (v := nI 16) hx hb dX6_back_2 (by decide) ?_
  refine vp_callSi (va_Run.run (va_runS (As := [.int y, .int (nI 0), .int (nI 16)]) (rest := []) ⟨hx, hb, hml, hown, hts⟩ (m_X6_in l y (nI 0) (nI 16)) (va_cwS 3 hts gX6_back_X6_in rfl rfl rfl (by decide +kernel) ⟨Nat.le_of_ble_eq_true rfl, Nat.le_of_ble_eq_true rfl⟩) (h_preS0) rfl rfl hl.1 rfl (lv_room (Nat.le_of_ble_eq_true rfl)) dX6_back_4 ⟨Nat.le_of_ble_eq_true rfl, Nat.le_of_ble_eq_true rfl⟩)) (fun r_1 hr_1 => ?_)
  subst hr_1
  refine lv_if_ne (tgt := 12) hx hb dX6_back_7 (by decide) (fun c_7 => ?_) (fun c_7 => ?_)
  · skip
    have v_7 : ((nI 0) ≤ y ∧ y ≤ (nI 16)) := hg_in_t c_7
    obtain ⟨ky, kyl, kyh, rfl⟩ := hg_rng (by decide) (by decide) v_7
    refine lv_iconst (v := nI 0) hx hb dX6_back_12 (by decide) ?_
    refine h_topi (y := hg_sum (f_bk1 S ky) 0) (hg_sum_0) ?_
    refine lv_istore_n (lv' := [(2, .int (hg_sum (f_bk1 S ky) 0)), (0, .ref (o 0)), (1, .int (nI ky))]) hx hb dX6_back_13 rfl hl (by decide) rfl (fun ls hl => ?_)
    refine lv_iconst (v := nI 0) hx hb dX6_back_14 (by decide) ?_
    refine lv_istore_n (lv' := [(3, .int (nI 0)), (2, .int (hg_sum (f_bk1 S ky) 0)), (0, .ref (o 0)), (1, .int (nI ky))]) hx hb dX6_back_15 rfl hl (by decide) rfl (fun ls hl => ?_)
    refine h_for (nL := 5) (hg_n S 4) (fun i => [(3, .int (nI i)), (2, .int (hg_sum (f_bk1 S ky) i)), (0, .ref (o 0)), (1, .int (nI ky))]) ?_ ?_ (lv_sub hl [0, 1, 2, 3] rfl)
    · intro i ls hi hl ih
      have hl : lv_has ls 5 [(3, .int (nI i)), (2, .int (hg_sum (f_bk1 S ky) i)), (0, .ref (o 0)), (1, .int (nI ky))] := hl
      refine lv_iload_n hx hb dX6_back_16 rfl (lv_at hl 0 rfl) ?_
      refine lv_aload_n hx hb dX6_back_17 rfl (lv_at hl 2 rfl) ?_
      refine va_get (C := RX6) (T := TX6) (N := 27) (v := .int (nI (hg_n S 4))) hx hb hts hi6 hown hK hP 0 rfl rfl 20 (by decide) (hts (.fieldLink RX6 150 "HotGroundModel" "told" "I") (by decide +kernel)) (fun _ h9 => h9) rfl dX6_back_18 ?_
      refine lv_icmp_ge (tgt := 70) hx hb dX6_back_21 (by decide) (fun c_21 => absurd c_21 (nI_ge hi (by omega))) (fun c_21 => ?_)
      refine lv_iload_n hx hb dX6_back_24 rfl (lv_at hl 3 rfl) ?_
      refine lv_iload_n hx hb dX6_back_25 rfl (lv_at hl 0 rfl) ?_
      refine lv_isub hx hb dX6_back_26 ?_
      refine lv_istore (lv' := [(4, .int ((nI ky) - (nI i))), (3, .int (nI i)), (2, .int (hg_sum (f_bk1 S ky) i)), (0, .ref (o 0)), (1, .int (nI ky))]) hx hb dX6_back_27 hl (by decide) rfl (fun ls hl => ?_)
      refine lv_iload_n hx hb dX6_back_29 rfl (lv_at hl 2 rfl) ?_
      refine lv_iload hx hb dX6_back_30 (lv_at hl 0 rfl) ?_
      refine lv_iconst (v := nI 0) hx hb dX6_back_32 (by decide) ?_
      refine lv_iconst (v := nI 5) hx hb dX6_back_33 (by decide) ?_
      refine vp_callSi (va_Run.run (va_runS (As := [.int ((nI ky) - (nI i)), .int (nI 0), .int (nI 5)]) (rest := [.int (hg_sum (f_bk1 S ky) i)]) ⟨hx, hb, hml, hown, hts⟩ (m_X6_in l ((nI ky) - (nI i)) (nI 0) (nI 5)) (va_cwS 3 hts gX6_back_X6_in rfl rfl rfl (by decide +kernel) ⟨Nat.le_of_ble_eq_true rfl, Nat.le_of_ble_eq_true rfl⟩) (h_preS0) rfl rfl hl.1 rfl (lv_room (Nat.le_of_ble_eq_true rfl)) dX6_back_34 ⟨Nat.le_of_ble_eq_true rfl, Nat.le_of_ble_eq_true rfl⟩)) (fun r_2 hr_2 => ?_)
      subst hr_2
      refine lv_if_eq (tgt := 61) hx hb dX6_back_37 (by decide) (fun c_37 => ?_) (fun c_37 => ?_)
      · skip
        have v_37 : ¬ ((nI 0) ≤ ((nI ky) - (nI i)) ∧ ((nI ky) - (nI i)) ≤ (nI 5)) := hg_in_f c_37
        have hr1 := fun h => v_37 ((hg_bkr (a := ky) (b := i) (by omega) (by omega)).mpr h)
        refine lv_iconst (v := nI 0) hx hb dX6_back_61 (by decide) ?_
        refine lv_iadd hx hb dX6_back_62 ?_
        refine h_topi (y := hg_sum (f_bk1 S ky) (i + 1)) (by show _ + _ = _ + f_bk1 S ky i; unfold f_bk1; rw [if_neg hr1]) ?_
        refine lv_istore_n (lv' := [(2, .int (hg_sum (f_bk1 S ky) (i + 1))), (4, .int ((nI ky) - (nI i))), (3, .int (nI i)), (0, .ref (o 0)), (1, .int (nI ky))]) hx hb dX6_back_63 rfl hl (by decide) rfl (fun ls hl => ?_)
        refine lv_iinc (v := nI (i + 1)) (lv' := [(3, .int (nI (i + 1))), (2, .int (hg_sum (f_bk1 S ky) (i + 1))), (4, .int ((nI ky) - (nI i))), (0, .ref (o 0)), (1, .int (nI ky))]) hx hb dX6_back_64 hl (k := 2) rfl (nI_1 _) (by decide) rfl (fun ls hl => ?_)
        refine lv_goto (tgt := 16) hx hb dX6_back_67 (by decide) ?_
        exact ih ls (lv_sub hl [0, 1, 3, 4] rfl)
      · skip
        have v_37 : ((nI 0) ≤ ((nI ky) - (nI i)) ∧ ((nI ky) - (nI i)) ≤ (nI 5)) := hg_in_t c_37
        have hr1 := (hg_bkr (by omega) (by omega)).mp v_37
        rw [show (nI ky) - (nI i) = nI (ky - i) from pk_sub hr1.1] at hl
        have hl : lv_has ls 5 [(4, .int (nI (ky - i))), (3, .int (nI i)), (2, .int (hg_sum (f_bk1 S ky) i)), (0, .ref (o 0)), (1, .int (nI ky))] := hl
        refine lv_aload_n hx hb dX6_back_40 rfl (lv_at hl 3 rfl) ?_
        refine va_get (C := RX6) (T := TX6) (N := 27) (v := .ref (o 16)) hx hb hts hi6 hown hK hP 0 rfl rfl 21 (by decide) (hts (.fieldLink RX6 57 "HotGroundModel" "put" "[I") (by decide +kernel)) (fun _ h9 => h9) rfl dX6_back_41 ?_
        refine lv_iload_n hx hb dX6_back_44 rfl (lv_at hl 1 rfl) ?_
        refine h_iald (f := hg_i S 12) hx hb hK hP 16 0 rfl rfl i (rfl) (by omega) (by decide) dX6_back_45 ?_
        refine lv_aload_n hx hb dX6_back_46 rfl (lv_at hl 3 rfl) ?_
        refine va_get (C := RX6) (T := TX6) (N := 27) (v := .ref (o 15)) hx hb hts hi6 hown hK hP 0 rfl rfl 19 (by decide) (hts (.fieldLink RX6 54 "HotGroundModel" "share" "[I") (by decide +kernel)) (fun _ h9 => h9) rfl dX6_back_47 ?_
        refine lv_iload hx hb dX6_back_50 (lv_at hl 0 rfl) ?_
        refine h_iald (f := hg_i S 11) hx hb hK hP 15 0 rfl rfl (ky - i) (rfl) (by omega) (by decide) dX6_back_52 ?_
        refine lv_imul hx hb dX6_back_53 ?_
        refine lv_sipush (v := nI 1000) hx hb dX6_back_54 (by decide) ?_
        refine lv_idiv hx hb dX6_back_57 (by decide) ?_
        refine lv_goto (tgt := 62) hx hb dX6_back_58 (by decide) ?_
        refine lv_iadd hx hb dX6_back_62 ?_
        refine h_topi (y := hg_sum (f_bk1 S ky) (i + 1)) (by show _ + _ = _ + f_bk1 S ky i; unfold f_bk1; rw [if_pos hr1]) ?_
        refine lv_istore_n (lv' := [(2, .int (hg_sum (f_bk1 S ky) (i + 1))), (4, .int (nI (ky - i))), (3, .int (nI i)), (0, .ref (o 0)), (1, .int (nI ky))]) hx hb dX6_back_63 rfl hl (by decide) rfl (fun ls hl => ?_)
        refine lv_iinc (v := nI (i + 1)) (lv' := [(3, .int (nI (i + 1))), (2, .int (hg_sum (f_bk1 S ky) (i + 1))), (4, .int (nI (ky - i))), (0, .ref (o 0)), (1, .int (nI ky))]) hx hb dX6_back_64 hl (k := 2) rfl (nI_1 _) (by decide) rfl (fun ls hl => ?_)
        refine lv_goto (tgt := 16) hx hb dX6_back_67 (by decide) ?_
        exact ih ls (lv_sub hl [0, 1, 3, 4] rfl)
    · intro ls hl
      have hl : lv_has ls 5 [(3, .int (nI (hg_n S 4))), (2, .int (hg_sum (f_bk1 S ky) (hg_n S 4))), (0, .ref (o 0)), (1, .int (nI ky))] := hl
      refine lv_iload_n hx hb dX6_back_16 rfl (lv_at hl 0 rfl) ?_
      refine lv_aload_n hx hb dX6_back_17 rfl (lv_at hl 2 rfl) ?_
      refine va_get (C := RX6) (T := TX6) (N := 27) (v := .int (nI (hg_n S 4))) hx hb hts hi6 hown hK hP 0 rfl rfl 20 (by decide) (hts (.fieldLink RX6 150 "HotGroundModel" "told" "I") (by decide +kernel)) (fun _ h9 => h9) rfl dX6_back_18 ?_
      refine lv_icmp_ge (tgt := 70) hx hb dX6_back_21 (by decide) (fun c_21 => ?_) (fun c_21 => absurd (nI_le (Nat.le_refl _) (by omega)) c_21)
      refine lv_iload_n hx hb dX6_back_70 rfl (lv_at hl 1 rfl) ?_
      exact W.iret (v := hg_sum (f_bk1 S ky) (hg_n S 4)) hx hb hr (fun t ht hW => ⟨_, rfl, by show hg_sum (f_bk1 S ky) (hg_n S 4) = a_back S (nI ky); unfold a_back; rw [if_pos v_7]; (try rw [nI_clamp (show ky < 2 ^ 31 by omega)]); exact f_bk_eq S ky, ht⟩) (fun _ h9 => nomatch h9) dX6_back_71
  · skip
    have v_7 : ¬ ((nI 0) ≤ y ∧ y ≤ (nI 16)) := hg_in_f c_7
    refine lv_iconst (v := -1) hx hb dX6_back_10 (by decide) ?_
    exact W.iret (v := (-1)) hx hb hr (fun t ht hW => ⟨_, rfl, by show (-1) = a_back S y; unfold a_back; rw [if_neg (fun q => v_7 q)], ht⟩) (fun _ h9 => nomatch h9) dX6_back_11
set_option maxHeartbeats 4000000 in
set_option maxRecDepth 100000 in
/-- cut -/
theorem m_X6_cut (l : Launch) (D : va_G) (o : Nat → Nat) (cI cJ cZ : ClassId) (S : hg_S) (sz : Nat) (h4 : hg_n S 4 ≤ 12)  : Met l yX6_cut wsX6_cut ({ frames := 0, cells := 0, slots := 0, locals := 0 }) (va_Pc [.ref (o 0)] (hg_Wr D (mW o cI cJ cZ S) (hg_ty cI cJ cZ) sz)) (va_Qi (fun (r : Int32) (_ : Unit) => r = (r_cut S).1) (fun _ t => hg_At D (mW o cI cJ cZ ((r_cut S).2)) (va_A (mW o cI cJ cZ S) sz) t) (va_A (mW o cI cJ cZ S) sz)) 0 0 (va_A (mW o cI cJ cZ S) sz) := by
  refine h_start (cc := cX6_cut) (maxL := 1) (ret := (some .int)) (by decide) rfl (Nat.le_of_ble_eq_true rfl) ?_
  intro pg ev s mi args below meth cd ls hx hb hr hts hown hlocks hml hnm hpic hl
  obtain ⟨hsz, hP, hK, hD0⟩ := hpic
  subst hsz
  have hD := hD0.self (sz := s.heap.size)
  generalize hAe : va_A (mW o cI cJ cZ S) s.heap.size = A at hD ⊢
  have hA : ∀ q : Nat, s.heap.size ≤ q → A q := fun q h => by rw [← hAe]; exact Or.inr h
  have hS : va_S A s.heap s.heap [] := va_S.rf
  have hi6 : ∀ w ∈ u_ws RX6 TX6 27, w ∈ wsX6_cut := by decide +kernel
  have hl : lv_has ls 1 [(0, .ref (o 0))] := hl
  refine lv_aload_n hx hb dX6_cut_0 rfl (lv_at hl 0 rfl) ?_
  refine va_get (C := RX6) (T := TX6) (N := 27) (v := .int (nI (hg_n S 4))) hx hb hts hi6 hown hK hP 0 rfl rfl 20 (by decide) (hts (.fieldLink RX6 150 "HotGroundModel" "told" "I") (by decide +kernel)) (fun _ h9 => h9) rfl dX6_cut_1 ?_
  refine lv_if_ne (tgt := 10) hx hb dX6_cut_4 (by decide) (fun c_4 => ?_) (fun c_4 => ?_)
  · skip
    have hc : 0 < hg_n S 4 := by have : ¬ hg_n S 4 = 0 := fun h => c_4 ((nI_eq0 (by omega)).mpr h); omega
    refine lv_aload_n hx hb dX6_cut_10 rfl (lv_at hl 0 rfl) ?_
    refine lv_dup hx hb dX6_cut_11 rfl ?_
    refine va_get (C := RX6) (T := TX6) (N := 27) (v := .int (nI (hg_n S 4))) hx hb hts hi6 hown hK hP 0 rfl rfl 20 (by decide) (hts (.fieldLink RX6 150 "HotGroundModel" "told" "I") (by decide +kernel)) (fun _ h9 => h9) rfl dX6_cut_12 ?_
    refine lv_iconst (v := nI 1) hx hb dX6_cut_15 (by decide) ?_
    refine lv_isub hx hb dX6_cut_16 ?_
    refine h_topi (y := nI ((hg_n S 4) - 1)) (pk_sub (by omega)) ?_
    refine h_put (C := RX6) (T := TX6) (N := 27) (v := .int (nI ((hg_n S 4) - 1))) (ty := .int) (ws' := mW o cI cJ cZ (hg_sn S 4 ((hg_n S 4) - 1))) hx hb hts hi6 tyX6 tyX6_ok nmX6 hown hK hP hD hS 0 rfl rfl 20 (by decide) (hts (.fieldLink RX6 150 "HotGroundModel" "told" "I") (by decide +kernel)) (fun _ h9 => h9) rfl (by decide +kernel) rfl rfl (Nat.le_of_ble_eq_true rfl) rfl dX6_cut_17 (fun H locs hP hD hS => ?_)
    refine lv_aload_n hx hb dX6_cut_20 rfl (lv_at hl 0 rfl) ?_
    refine va_get (C := RX6) (T := TX6) (N := 27) (v := .int (nI ((hg_n S 4) - 1))) hx hb hts hi6 hown hK hP 0 rfl rfl 20 (by decide) (hts (.fieldLink RX6 150 "HotGroundModel" "told" "I") (by decide +kernel)) (fun _ h9 => h9) rfl dX6_cut_21 ?_
    have hq : r_cut S = (nI ((hg_n S 4) - 1), hg_sn S 4 ((hg_n S 4) - 1)) := by unfold r_cut; rw [if_neg (by omega)]
    rw [show (hg_sn S 4 ((hg_n S 4) - 1) : hg_S) = (r_cut S).2 from by rw [hq]] at hP hD
    exact W.iret (v := nI ((hg_n S 4) - 1)) hx hb hr (fun t ht hW => ⟨⟨_, (), rfl, by rw [hq], ⟨by rw [ht]; exact hP, hD⟩⟩, hS.F ht⟩) hS.2.2 dX6_cut_24
  · skip
    have hc : hg_n S 4 = 0 := (nI_eq0 (by omega)).mp c_4
    refine lv_bipush (v := -2) hx hb dX6_cut_7 (by decide) ?_
    have hq : r_cut S = ((-2), S) := by unfold r_cut; rw [if_pos hc]
    rw [show (S : hg_S) = (r_cut S).2 from by rw [hq]] at hP hD
    exact W.iret (v := (-2)) hx hb hr (fun t ht hW => ⟨⟨_, (), rfl, by rw [hq], ⟨by rw [ht]; exact hP, hD⟩⟩, hS.F ht⟩) hS.2.2 dX6_cut_9
set_option maxHeartbeats 4000000 in
set_option maxRecDepth 100000 in
/-- candidate -/
theorem m_X6_candidate (l : Launch) (D : va_G) (o : Nat → Nat) (cI cJ cZ : ClassId) (S : hg_S) (sz : Nat) (h5 : hg_n S 5 ≤ 8) (a b d : Int32) : Met l yX6_candidate wsX6_candidate ({ frames := 1, cells := 0, slots := 0, locals := 22 }) (va_Pc [.ref (o 0), .int a, .int b, .int d] (hg_Wr D (mW o cI cJ cZ S) (hg_ty cI cJ cZ) sz)) (va_Qi (fun (r : Int32) (_ : Unit) => r = (r_cand S a b d).1) (fun _ t => hg_At D (mW o cI cJ cZ ((r_cand S a b d).2)) (va_A (mW o cI cJ cZ S) sz) t) (va_A (mW o cI cJ cZ S) sz)) 0 0 (va_A (mW o cI cJ cZ S) sz) := by
  refine h_start (cc := cX6_candidate) (maxL := 4) (ret := (some .int)) (by decide) rfl (Nat.le_of_ble_eq_true rfl) ?_
  intro pg ev s mi args below meth cd ls hx hb hr hts hown hlocks hml hnm hpic hl
  obtain ⟨hsz, hP, hK, hD0⟩ := hpic
  subst hsz
  have hD := hD0.self (sz := s.heap.size)
  generalize hAe : va_A (mW o cI cJ cZ S) s.heap.size = A at hD ⊢
  have hA : ∀ q : Nat, s.heap.size ≤ q → A q := fun q h => by rw [← hAe]; exact Or.inr h
  have hS : va_S A s.heap s.heap [] := va_S.rf
  have hi6 : ∀ w ∈ u_ws RX6 TX6 27, w ∈ wsX6_candidate := by decide +kernel
  have hl : lv_has ls 4 [(0, .ref (o 0)), (1, .int a), (2, .int b), (3, .int d)] := hl
  refine lv_iload_n hx hb dX6_candidate_0 rfl (lv_at hl 1 rfl) ?_
  refine lv_iconst (v := nI 1) hx hb dX6_candidate_1 (by decide) ?_
  refine lv_sipush (v := nI 1000) hx hb dX6_candidate_2 (by decide) ?_
  refine vp_callSi (va_Run.run (va_runS (As := [.int a, .int (nI 1), .int (nI 1000)]) (rest := []) ⟨hx, hb, hml, hown, hts⟩ (m_X6_in l a (nI 1) (nI 1000)) (va_cwS 3 hts gX6_candidate_X6_in rfl rfl rfl (by decide +kernel) ⟨Nat.le_of_ble_eq_true rfl, Nat.le_of_ble_eq_true rfl⟩) (h_preS0) rfl rfl hl.1 rfl (lv_room (Nat.le_of_ble_eq_true rfl)) dX6_candidate_5 ⟨Nat.le_of_ble_eq_true rfl, Nat.le_of_ble_eq_true rfl⟩)) (fun r_1 hr_1 => ?_)
  subst hr_1
  refine lv_if_eq (tgt := 31) hx hb dX6_candidate_8 (by decide) (fun c_8 => ?_) (fun c_8 => ?_)
  · skip
    have v_8 : ¬ ((nI 1) ≤ a ∧ a ≤ (nI 1000)) := hg_in_f c_8
    refine lv_iconst (v := -1) hx hb dX6_candidate_31 (by decide) ?_
    have hq : r_cand S a b d = ((-1), S) := by unfold r_cand; rw [if_neg (fun q => v_8 q.1)]
    rw [show (S : hg_S) = (r_cand S a b d).2 from by rw [hq]] at hP hD
    exact W.iret (v := (-1)) hx hb hr (fun t ht hW => ⟨⟨_, (), rfl, by rw [hq], ⟨by rw [ht]; exact hP, hD⟩⟩, hS.F ht⟩) hS.2.2 dX6_candidate_32
  · skip
    have v_8 : ((nI 1) ≤ a ∧ a ≤ (nI 1000)) := hg_in_t c_8
    refine lv_iload_n hx hb dX6_candidate_11 rfl (lv_at hl 2 rfl) ?_
    refine lv_iconst (v := nI 0) hx hb dX6_candidate_12 (by decide) ?_
    refine lv_iconst (v := nI 5) hx hb dX6_candidate_13 (by decide) ?_
    refine vp_callSi (va_Run.run (va_runS (As := [.int b, .int (nI 0), .int (nI 5)]) (rest := []) ⟨hx, hb, hml, hown, hts⟩ (m_X6_in l b (nI 0) (nI 5)) (va_cwS 3 hts gX6_candidate_X6_in rfl rfl rfl (by decide +kernel) ⟨Nat.le_of_ble_eq_true rfl, Nat.le_of_ble_eq_true rfl⟩) (h_preS0) rfl rfl hl.1 rfl (lv_room (Nat.le_of_ble_eq_true rfl)) dX6_candidate_14 ⟨Nat.le_of_ble_eq_true rfl, Nat.le_of_ble_eq_true rfl⟩)) (fun r_2 hr_2 => ?_)
    subst hr_2
    refine lv_if_eq (tgt := 31) hx hb dX6_candidate_17 (by decide) (fun c_17 => ?_) (fun c_17 => ?_)
    · skip
      have v_17 : ¬ ((nI 0) ≤ b ∧ b ≤ (nI 5)) := hg_in_f c_17
      refine lv_iconst (v := -1) hx hb dX6_candidate_31 (by decide) ?_
      have hq : r_cand S a b d = ((-1), S) := by unfold r_cand; rw [if_neg (fun q => v_17 q.2.1)]
      rw [show (S : hg_S) = (r_cand S a b d).2 from by rw [hq]] at hP hD
      exact W.iret (v := (-1)) hx hb hr (fun t ht hW => ⟨⟨_, (), rfl, by rw [hq], ⟨by rw [ht]; exact hP, hD⟩⟩, hS.F ht⟩) hS.2.2 dX6_candidate_32
    · skip
      have v_17 : ((nI 0) ≤ b ∧ b ≤ (nI 5)) := hg_in_t c_17
      refine lv_iload_n hx hb dX6_candidate_20 rfl (lv_at hl 3 rfl) ?_
      refine lv_iconst (v := nI 1) hx hb dX6_candidate_21 (by decide) ?_
      refine lv_sipush (v := nI 500) hx hb dX6_candidate_22 (by decide) ?_
      refine vp_callSi (va_Run.run (va_runS (As := [.int d, .int (nI 1), .int (nI 500)]) (rest := []) ⟨hx, hb, hml, hown, hts⟩ (m_X6_in l d (nI 1) (nI 500)) (va_cwS 3 hts gX6_candidate_X6_in rfl rfl rfl (by decide +kernel) ⟨Nat.le_of_ble_eq_true rfl, Nat.le_of_ble_eq_true rfl⟩) (h_preS0) rfl rfl hl.1 rfl (lv_room (Nat.le_of_ble_eq_true rfl)) dX6_candidate_25 ⟨Nat.le_of_ble_eq_true rfl, Nat.le_of_ble_eq_true rfl⟩)) (fun r_3 hr_3 => ?_)
      subst hr_3
      refine lv_if_ne (tgt := 33) hx hb dX6_candidate_28 (by decide) (fun c_28 => ?_) (fun c_28 => ?_)
      · skip
        have v_28 : ((nI 1) ≤ d ∧ d ≤ (nI 500)) := hg_in_t c_28
        refine lv_aload_n hx hb dX6_candidate_33 rfl (lv_at hl 0 rfl) ?_
        refine va_get (C := RX6) (T := TX6) (N := 27) (v := .int (nI (hg_n S 5))) hx hb hts hi6 hown hK hP 0 rfl rfl 22 (by decide) (hts (.fieldLink RX6 153 "HotGroundModel" "candidates" "I") (by decide +kernel)) (fun _ h9 => h9) rfl dX6_candidate_34 ?_
        refine lv_bipush (v := nI 8) hx hb dX6_candidate_37 (by decide) ?_
        refine lv_icmp_ne (tgt := 45) hx hb dX6_candidate_39 (by decide) (fun c_39 => ?_) (fun c_39 => ?_)
        · skip
          have hc : hg_n S 5 < 8 := by have : ¬ hg_n S 5 = 8 := fun h => c_39 ((nI_eq (by omega) (by omega)).mpr h); omega
          refine lv_aload_n hx hb dX6_candidate_45 rfl (lv_at hl 0 rfl) ?_
          refine va_get (C := RX6) (T := TX6) (N := 27) (v := .ref (o 17)) hx hb hts hi6 hown hK hP 0 rfl rfl 23 (by decide) (hts (.fieldLink RX6 60 "HotGroundModel" "cost" "[I") (by decide +kernel)) (fun _ h9 => h9) rfl dX6_candidate_46 ?_
          refine lv_aload_n hx hb dX6_candidate_49 rfl (lv_at hl 0 rfl) ?_
          refine va_get (C := RX6) (T := TX6) (N := 27) (v := .int (nI (hg_n S 5))) hx hb hts hi6 hown hK hP 0 rfl rfl 22 (by decide) (hts (.fieldLink RX6 153 "HotGroundModel" "candidates" "I") (by decide +kernel)) (fun _ h9 => h9) rfl dX6_candidate_50 ?_
          refine lv_iload_n hx hb dX6_candidate_53 rfl (lv_at hl 1 rfl) ?_
          refine h_iast (f := hg_i S 13) (ws' := mW o cI cJ cZ (hg_si S 13 (upd (hg_i S 13) (hg_n S 5) a))) hx hb hK hP hD hS 17 0 rfl rfl (hg_n S 5) (rfl) (by omega) (by decide) rfl dX6_candidate_54 (fun H locs hP hD hS => ?_)
          refine lv_aload_n hx hb dX6_candidate_55 rfl (lv_at hl 0 rfl) ?_
          refine va_get (C := RX6) (T := TX6) (N := 27) (v := .ref (o 18)) hx hb hts hi6 hown hK hP 0 rfl rfl 24 (by decide) (hts (.fieldLink RX6 63 "HotGroundModel" "fromYear" "[I") (by decide +kernel)) (fun _ h9 => h9) rfl dX6_candidate_56 ?_
          refine lv_aload_n hx hb dX6_candidate_59 rfl (lv_at hl 0 rfl) ?_
          refine va_get (C := RX6) (T := TX6) (N := 27) (v := .int (nI (hg_n S 5))) hx hb hts hi6 hown hK hP 0 rfl rfl 22 (by decide) (hts (.fieldLink RX6 153 "HotGroundModel" "candidates" "I") (by decide +kernel)) (fun _ h9 => h9) rfl dX6_candidate_60 ?_
          refine lv_iload_n hx hb dX6_candidate_63 rfl (lv_at hl 2 rfl) ?_
          refine h_iast (f := hg_i S 14) (ws' := mW o cI cJ cZ (hg_si (hg_si S 13 (upd (hg_i S 13) (hg_n S 5) a)) 14 (upd (hg_i S 14) (hg_n S 5) b))) hx hb hK hP hD hS 18 0 rfl rfl (hg_n S 5) (rfl) (by omega) (by decide) rfl dX6_candidate_64 (fun H locs hP hD hS => ?_)
          refine lv_aload_n hx hb dX6_candidate_65 rfl (lv_at hl 0 rfl) ?_
          refine va_get (C := RX6) (T := TX6) (N := 27) (v := .ref (o 19)) hx hb hts hi6 hown hK hP 0 rfl rfl 25 (by decide) (hts (.fieldLink RX6 66 "HotGroundModel" "gives" "[I") (by decide +kernel)) (fun _ h9 => h9) rfl dX6_candidate_66 ?_
          refine lv_aload_n hx hb dX6_candidate_69 rfl (lv_at hl 0 rfl) ?_
          refine va_get (C := RX6) (T := TX6) (N := 27) (v := .int (nI (hg_n S 5))) hx hb hts hi6 hown hK hP 0 rfl rfl 22 (by decide) (hts (.fieldLink RX6 153 "HotGroundModel" "candidates" "I") (by decide +kernel)) (fun _ h9 => h9) rfl dX6_candidate_70 ?_
          refine lv_iload_n hx hb dX6_candidate_73 rfl (lv_at hl 3 rfl) ?_
          refine h_iast (f := hg_i S 15) (ws' := mW o cI cJ cZ (hg_si (hg_si (hg_si S 13 (upd (hg_i S 13) (hg_n S 5) a)) 14 (upd (hg_i S 14) (hg_n S 5) b)) 15 (upd (hg_i S 15) (hg_n S 5) d))) hx hb hK hP hD hS 19 0 rfl rfl (hg_n S 5) (rfl) (by omega) (by decide) rfl dX6_candidate_74 (fun H locs hP hD hS => ?_)
          refine lv_aload_n hx hb dX6_candidate_75 rfl (lv_at hl 0 rfl) ?_
          refine lv_dup hx hb dX6_candidate_76 rfl ?_
          refine va_get (C := RX6) (T := TX6) (N := 27) (v := .int (nI (hg_n S 5))) hx hb hts hi6 hown hK hP 0 rfl rfl 22 (by decide) (hts (.fieldLink RX6 153 "HotGroundModel" "candidates" "I") (by decide +kernel)) (fun _ h9 => h9) rfl dX6_candidate_77 ?_
          refine lv_iconst (v := nI 1) hx hb dX6_candidate_80 (by decide) ?_
          refine lv_iadd hx hb dX6_candidate_81 ?_
          refine h_topi (y := nI ((hg_n S 5) + 1)) (nI_add _ _) ?_
          refine h_put (C := RX6) (T := TX6) (N := 27) (v := .int (nI ((hg_n S 5) + 1))) (ty := .int) (ws' := mW o cI cJ cZ (hg_sn (hg_si (hg_si (hg_si S 13 (upd (hg_i S 13) (hg_n S 5) a)) 14 (upd (hg_i S 14) (hg_n S 5) b)) 15 (upd (hg_i S 15) (hg_n S 5) d)) 5 ((hg_n S 5) + 1))) hx hb hts hi6 tyX6 tyX6_ok nmX6 hown hK hP hD hS 0 rfl rfl 22 (by decide) (hts (.fieldLink RX6 153 "HotGroundModel" "candidates" "I") (by decide +kernel)) (fun _ h9 => h9) rfl (by decide +kernel) rfl rfl (Nat.le_of_ble_eq_true rfl) rfl dX6_candidate_82 (fun H locs hP hD hS => ?_)
          refine lv_aload_n hx hb dX6_candidate_85 rfl (lv_at hl 0 rfl) ?_
          refine va_get (C := RX6) (T := TX6) (N := 27) (v := .int (nI ((hg_n S 5) + 1))) hx hb hts hi6 hown hK hP 0 rfl rfl 22 (by decide) (hts (.fieldLink RX6 153 "HotGroundModel" "candidates" "I") (by decide +kernel)) (fun _ h9 => h9) rfl dX6_candidate_86 ?_
          refine lv_iconst (v := nI 1) hx hb dX6_candidate_89 (by decide) ?_
          refine lv_isub hx hb dX6_candidate_90 ?_
          refine h_topi (y := nI (((hg_n S 5) + 1) - 1)) (pk_sub (by omega)) ?_
          have hq : r_cand S a b d = (nI (((hg_n S 5) + 1) - 1), hg_sn (hg_si (hg_si (hg_si S 13 (upd (hg_i S 13) (hg_n S 5) a)) 14 (upd (hg_i S 14) (hg_n S 5) b)) 15 (upd (hg_i S 15) (hg_n S 5) d)) 5 ((hg_n S 5) + 1)) := by unfold r_cand; rw [if_pos (⟨v_8, v_17, v_28⟩)]; rw [if_pos (by omega)]; rfl
          rw [show (hg_sn (hg_si (hg_si (hg_si S 13 (upd (hg_i S 13) (hg_n S 5) a)) 14 (upd (hg_i S 14) (hg_n S 5) b)) 15 (upd (hg_i S 15) (hg_n S 5) d)) 5 ((hg_n S 5) + 1) : hg_S) = (r_cand S a b d).2 from by rw [hq]] at hP hD
          exact W.iret (v := nI (((hg_n S 5) + 1) - 1)) hx hb hr (fun t ht hW => ⟨⟨_, (), rfl, by rw [hq], ⟨by rw [ht]; exact hP, hD⟩⟩, hS.F ht⟩) hS.2.2 dX6_candidate_91
        · skip
          have hc : ¬ hg_n S 5 < 8 := by have := (nI_eq (by omega) (by omega)).mp c_39; omega
          refine lv_bipush (v := -3) hx hb dX6_candidate_42 (by decide) ?_
          have hq : r_cand S a b d = ((-3), S) := by unfold r_cand; rw [if_pos (⟨v_8, v_17, v_28⟩)]; rw [if_neg (by omega)]
          rw [show (S : hg_S) = (r_cand S a b d).2 from by rw [hq]] at hP hD
          exact W.iret (v := (-3)) hx hb hr (fun t ht hW => ⟨⟨_, (), rfl, by rw [hq], ⟨by rw [ht]; exact hP, hD⟩⟩, hS.F ht⟩) hS.2.2 dX6_candidate_44
      · skip
        have v_28 : ¬ ((nI 1) ≤ d ∧ d ≤ (nI 500)) := hg_in_f c_28
        refine lv_iconst (v := -1) hx hb dX6_candidate_31 (by decide) ?_
        have hq : r_cand S a b d = ((-1), S) := by unfold r_cand; rw [if_neg (fun q => v_28 q.2.2)]
        rw [show (S : hg_S) = (r_cand S a b d).2 from by rw [hq]] at hP hD
        exact W.iret (v := (-1)) hx hb hr (fun t ht hW => ⟨⟨_, (), rfl, by rw [hq], ⟨by rw [ht]; exact hP, hD⟩⟩, hS.F ht⟩) hS.2.2 dX6_candidate_32
set_option maxHeartbeats 4000000 in
set_option maxRecDepth 100000 in
/-- promise -/
theorem m_X6_promise (l : Launch) (D : va_G) (o : Nat → Nat) (cI cJ cZ : ClassId) (S : hg_S) (sz : Nat) (y v : Int32) : Met l yX6_promise wsX6_promise ({ frames := 1, cells := 0, slots := 0, locals := 22 }) (va_Pc [.ref (o 0), .int y, .int v] (hg_Wr D (mW o cI cJ cZ S) (hg_ty cI cJ cZ) sz)) (va_Qi (fun (r : Int32) (_ : Unit) => r = (r_prom S y v).1) (fun _ t => hg_At D (mW o cI cJ cZ ((r_prom S y v).2)) (va_A (mW o cI cJ cZ S) sz) t) (va_A (mW o cI cJ cZ S) sz)) 0 0 (va_A (mW o cI cJ cZ S) sz) := by
  refine h_start (cc := cX6_promise) (maxL := 4) (ret := (some .int)) (by decide) rfl (Nat.le_of_ble_eq_true rfl) ?_
  intro pg ev s mi args below meth cd ls hx hb hr hts hown hlocks hml hnm hpic hl
  obtain ⟨hsz, hP, hK, hD0⟩ := hpic
  subst hsz
  have hD := hD0.self (sz := s.heap.size)
  generalize hAe : va_A (mW o cI cJ cZ S) s.heap.size = A at hD ⊢
  have hA : ∀ q : Nat, s.heap.size ≤ q → A q := fun q h => by rw [← hAe]; exact Or.inr h
  have hS : va_S A s.heap s.heap [] := va_S.rf
  have hi6 : ∀ w ∈ u_ws RX6 TX6 27, w ∈ wsX6_promise := by decide +kernel
  have hl : lv_has ls 4 [(0, .ref (o 0)), (1, .int y), (2, .int v)] := hl
  refine lv_iload_n hx hb dX6_promise_0 rfl (lv_at hl 1 rfl) ?_
  refine lv_iconst (v := nI 0) hx hb dX6_promise_1 (by decide) ?_
  refine lv_iconst (v := nI 5) hx hb dX6_promise_2 (by decide) ?_
  refine vp_callSi (va_Run.run (va_runS (As := [.int y, .int (nI 0), .int (nI 5)]) (rest := []) ⟨hx, hb, hml, hown, hts⟩ (m_X6_in l y (nI 0) (nI 5)) (va_cwS 3 hts gX6_promise_X6_in rfl rfl rfl (by decide +kernel) ⟨Nat.le_of_ble_eq_true rfl, Nat.le_of_ble_eq_true rfl⟩) (h_preS0) rfl rfl hl.1 rfl (lv_room (Nat.le_of_ble_eq_true rfl)) dX6_promise_3 ⟨Nat.le_of_ble_eq_true rfl, Nat.le_of_ble_eq_true rfl⟩)) (fun r_1 hr_1 => ?_)
  subst hr_1
  refine lv_if_eq (tgt := 20) hx hb dX6_promise_6 (by decide) (fun c_6 => ?_) (fun c_6 => ?_)
  · skip
    have v_6 : ¬ ((nI 0) ≤ y ∧ y ≤ (nI 5)) := hg_in_f c_6
    refine lv_iconst (v := -1) hx hb dX6_promise_20 (by decide) ?_
    have hq : r_prom S y v = ((-1), S) := by unfold r_prom; rw [if_neg (fun q => v_6 q.1)]
    rw [show (S : hg_S) = (r_prom S y v).2 from by rw [hq]] at hP hD
    exact W.iret (v := (-1)) hx hb hr (fun t ht hW => ⟨⟨_, (), rfl, by rw [hq], ⟨by rw [ht]; exact hP, hD⟩⟩, hS.F ht⟩) hS.2.2 dX6_promise_21
  · skip
    have v_6 : ((nI 0) ≤ y ∧ y ≤ (nI 5)) := hg_in_t c_6
    refine lv_iload_n hx hb dX6_promise_9 rfl (lv_at hl 2 rfl) ?_
    refine lv_iconst (v := nI 0) hx hb dX6_promise_10 (by decide) ?_
    refine lv_sipush (v := nI 3000) hx hb dX6_promise_11 (by decide) ?_
    refine vp_callSi (va_Run.run (va_runS (As := [.int v, .int (nI 0), .int (nI 3000)]) (rest := []) ⟨hx, hb, hml, hown, hts⟩ (m_X6_in l v (nI 0) (nI 3000)) (va_cwS 3 hts gX6_promise_X6_in rfl rfl rfl (by decide +kernel) ⟨Nat.le_of_ble_eq_true rfl, Nat.le_of_ble_eq_true rfl⟩) (h_preS0) rfl rfl hl.1 rfl (lv_room (Nat.le_of_ble_eq_true rfl)) dX6_promise_14 ⟨Nat.le_of_ble_eq_true rfl, Nat.le_of_ble_eq_true rfl⟩)) (fun r_2 hr_2 => ?_)
    subst hr_2
    refine lv_if_ne (tgt := 22) hx hb dX6_promise_17 (by decide) (fun c_17 => ?_) (fun c_17 => ?_)
    · skip
      have v_17 : ((nI 0) ≤ v ∧ v ≤ (nI 3000)) := hg_in_t c_17
      obtain ⟨ky, kyl, kyh, rfl⟩ := hg_rng (by decide) (by decide) v_6
      refine lv_aload_n hx hb dX6_promise_22 rfl (lv_at hl 0 rfl) ?_
      refine va_get (C := RX6) (T := TX6) (N := 27) (v := .ref (o 20)) hx hb hts hi6 hown hK hP 0 rfl rfl 26 (by decide) (hts (.fieldLink RX6 69 "HotGroundModel" "promise" "[I") (by decide +kernel)) (fun _ h9 => h9) rfl dX6_promise_23 ?_
      refine lv_iload_n hx hb dX6_promise_26 rfl (lv_at hl 1 rfl) ?_
      refine h_iald (f := hg_i S 16) hx hb hK hP 20 0 rfl rfl ky (rfl) (by omega) (by decide) dX6_promise_27 ?_
      refine lv_istore_n (lv' := [(3, .int (hg_i S 16 ky)), (0, .ref (o 0)), (1, .int (nI ky)), (2, .int v)]) hx hb dX6_promise_28 rfl hl (by decide) rfl (fun ls hl => ?_)
      refine lv_aload_n hx hb dX6_promise_29 rfl (lv_at hl 1 rfl) ?_
      refine va_get (C := RX6) (T := TX6) (N := 27) (v := .ref (o 20)) hx hb hts hi6 hown hK hP 0 rfl rfl 26 (by decide) (hts (.fieldLink RX6 69 "HotGroundModel" "promise" "[I") (by decide +kernel)) (fun _ h9 => h9) rfl dX6_promise_30 ?_
      refine lv_iload_n hx hb dX6_promise_33 rfl (lv_at hl 2 rfl) ?_
      refine lv_iload_n hx hb dX6_promise_34 rfl (lv_at hl 3 rfl) ?_
      refine h_iast (f := hg_i S 16) (ws' := mW o cI cJ cZ (hg_si S 16 (upd (hg_i S 16) ky v))) hx hb hK hP hD hS 20 0 rfl rfl ky (rfl) (by omega) (by decide) rfl dX6_promise_35 (fun H locs hP hD hS => ?_)
      refine lv_iload_n hx hb dX6_promise_36 rfl (lv_at hl 0 rfl) ?_
      have hq : r_prom S (nI ky) v = (hg_i S 16 ky, hg_si S 16 (upd (hg_i S 16) ky v)) := by unfold r_prom; rw [if_pos (⟨v_6, v_17⟩)]; (try rw [nI_clamp (show ky < 2 ^ 31 by omega)])
      rw [show (hg_si S 16 (upd (hg_i S 16) ky v) : hg_S) = (r_prom S (nI ky) v).2 from by rw [hq]] at hP hD
      exact W.iret (v := hg_i S 16 ky) hx hb hr (fun t ht hW => ⟨⟨_, (), rfl, by rw [hq], ⟨by rw [ht]; exact hP, hD⟩⟩, hS.F ht⟩) hS.2.2 dX6_promise_37
    · skip
      have v_17 : ¬ ((nI 0) ≤ v ∧ v ≤ (nI 3000)) := hg_in_f c_17
      refine lv_iconst (v := -1) hx hb dX6_promise_20 (by decide) ?_
      have hq : r_prom S y v = ((-1), S) := by unfold r_prom; rw [if_neg (fun q => v_17 q.2)]
      rw [show (S : hg_S) = (r_prom S y v).2 from by rw [hq]] at hP hD
      exact W.iret (v := (-1)) hx hb hr (fun t ht hW => ⟨⟨_, (), rfl, by rw [hq], ⟨by rw [ht]; exact hP, hD⟩⟩, hS.F ht⟩) hS.2.2 dX6_promise_21
set_option maxHeartbeats 4000000 in
set_option maxRecDepth 100000 in
/-- by how much a set falls short -/
theorem m_X6_lack (l : Launch) (D : va_G) (o : Nat → Nat) (cI cJ cZ : ClassId) (S : hg_S) (h5 : hg_n S 5 ≤ 8) (a : Int32) (y : Nat) (hy : y < 6) : Met l yX6_lack wsX6_lack ({ frames := 0, cells := 0, slots := 0, locals := 0 }) (va_Pc [.ref (o 0), .int a, .int (nI y)] (hg_R D (mW o cI cJ cZ S) (hg_ty cI cJ cZ))) (vp_Si (fun r => r = f_lack S a y)) 0 0 (fun _ => False) := by
  refine h_start (cc := cX6_lack) (maxL := 5) (ret := (some .int)) (by decide) rfl (Nat.le_of_ble_eq_true rfl) ?_
  intro pg ev s mi args below meth cd ls hx hb hr hts hown hlocks hml hnm hpic hl
  obtain ⟨hP, hK⟩ := hpic
  have hi6 : ∀ w ∈ u_ws RX6 TX6 27, w ∈ wsX6_lack := by decide +kernel
  have hl : lv_has ls 5 [(0, .ref (o 0)), (1, .int a), (2, .int (nI y))] := hl
  refine lv_aload_n hx hb dX6_lack_0 rfl (lv_at hl 0 rfl) ?_
  refine va_get (C := RX6) (T := TX6) (N := 27) (v := .ref (o 20)) hx hb hts hi6 hown hK hP 0 rfl rfl 26 (by decide) (hts (.fieldLink RX6 69 "HotGroundModel" "promise" "[I") (by decide +kernel)) (fun _ h9 => h9) rfl dX6_lack_1 ?_
  refine lv_iload_n hx hb dX6_lack_4 rfl (lv_at hl 2 rfl) ?_
  refine h_iald (f := hg_i S 16) hx hb hK hP 20 0 rfl rfl y (rfl) (by omega) (by decide) dX6_lack_5 ?_
  refine h_topi (y := hg_i S 16 y - hg_sum (f_gives1 S a y) 0) ((Int32.sub_zero _).symm) ?_
  refine lv_istore_n (lv' := [(3, .int (hg_i S 16 y - hg_sum (f_gives1 S a y) 0)), (0, .ref (o 0)), (1, .int a), (2, .int (nI y))]) hx hb dX6_lack_6 rfl hl (by decide) rfl (fun ls hl => ?_)
  refine lv_iconst (v := nI 0) hx hb dX6_lack_7 (by decide) ?_
  refine lv_istore (lv' := [(4, .int (nI 0)), (3, .int (hg_i S 16 y - hg_sum (f_gives1 S a y) 0)), (0, .ref (o 0)), (1, .int a), (2, .int (nI y))]) hx hb dX6_lack_8 hl (by decide) rfl (fun ls hl => ?_)
  refine h_for (nL := 5) (hg_n S 5) (fun i => [(4, .int (nI i)), (3, .int (hg_i S 16 y - hg_sum (f_gives1 S a y) i)), (0, .ref (o 0)), (1, .int a), (2, .int (nI y))]) ?_ ?_ (lv_sub hl [0, 1, 2, 3, 4] rfl)
  · intro i ls hi hl ih
    have hl : lv_has ls 5 [(4, .int (nI i)), (3, .int (hg_i S 16 y - hg_sum (f_gives1 S a y) i)), (0, .ref (o 0)), (1, .int a), (2, .int (nI y))] := hl
    refine lv_iload hx hb dX6_lack_10 (lv_at hl 0 rfl) ?_
    refine lv_aload_n hx hb dX6_lack_12 rfl (lv_at hl 2 rfl) ?_
    refine va_get (C := RX6) (T := TX6) (N := 27) (v := .int (nI (hg_n S 5))) hx hb hts hi6 hown hK hP 0 rfl rfl 22 (by decide) (hts (.fieldLink RX6 153 "HotGroundModel" "candidates" "I") (by decide +kernel)) (fun _ h9 => h9) rfl dX6_lack_13 ?_
    refine lv_icmp_ge (tgt := 60) hx hb dX6_lack_16 (by decide) (fun c_16 => absurd c_16 (nI_ge hi (by omega))) (fun c_16 => ?_)
    refine lv_iload_n hx hb dX6_lack_19 rfl (lv_at hl 1 rfl) ?_
    refine lv_iload_n hx hb dX6_lack_20 rfl (lv_at hl 3 rfl) ?_
    refine lv_iload hx hb dX6_lack_21 (lv_at hl 0 rfl) ?_
    refine lv_ishr hx hb dX6_lack_23 ?_
    refine lv_iconst (v := nI 1) hx hb dX6_lack_24 (by decide) ?_
    refine lv_iand hx hb dX6_lack_25 ?_
    refine lv_iconst (v := nI 1) hx hb dX6_lack_26 (by decide) ?_
    refine lv_icmp_ne (tgt := 51) hx hb dX6_lack_27 (by decide) (fun c_27 => ?_) (fun c_27 => ?_)
    · skip
      refine lv_iconst (v := nI 0) hx hb dX6_lack_51 (by decide) ?_
      refine lv_isub hx hb dX6_lack_52 ?_
      refine h_topi (y := hg_i S 16 y - hg_sum (f_gives1 S a y) (i + 1)) (by rw [hg_ss]; show _ = _ - (_ + f_gives1 S a y i); unfold f_gives1; rw [if_neg c_27, nI_0]) ?_
      refine lv_istore_n (lv' := [(3, .int (hg_i S 16 y - hg_sum (f_gives1 S a y) (i + 1))), (4, .int (nI i)), (0, .ref (o 0)), (1, .int a), (2, .int (nI y))]) hx hb dX6_lack_53 rfl hl (by decide) rfl (fun ls hl => ?_)
      refine lv_iinc (v := nI (i + 1)) (lv' := [(4, .int (nI (i + 1))), (3, .int (hg_i S 16 y - hg_sum (f_gives1 S a y) (i + 1))), (0, .ref (o 0)), (1, .int a), (2, .int (nI y))]) hx hb dX6_lack_54 hl (k := 1) rfl (nI_1 _) (by decide) rfl (fun ls hl => ?_)
      refine lv_goto (tgt := 10) hx hb dX6_lack_57 (by decide) ?_
      exact ih ls (lv_sub hl [0, 1, 2, 3, 4] rfl)
    · skip
      refine lv_aload_n hx hb dX6_lack_30 rfl (lv_at hl 2 rfl) ?_
      refine va_get (C := RX6) (T := TX6) (N := 27) (v := .ref (o 18)) hx hb hts hi6 hown hK hP 0 rfl rfl 24 (by decide) (hts (.fieldLink RX6 63 "HotGroundModel" "fromYear" "[I") (by decide +kernel)) (fun _ h9 => h9) rfl dX6_lack_31 ?_
      refine lv_iload hx hb dX6_lack_34 (lv_at hl 0 rfl) ?_
      refine h_iald (f := hg_i S 14) hx hb hK hP 18 0 rfl rfl i (rfl) (by omega) (by decide) dX6_lack_36 ?_
      refine lv_iload_n hx hb dX6_lack_37 rfl (lv_at hl 4 rfl) ?_
      refine lv_icmp_gt (tgt := 51) hx hb dX6_lack_38 (by decide) (fun c_38 => ?_) (fun c_38 => ?_)
      · skip
        refine lv_iconst (v := nI 0) hx hb dX6_lack_51 (by decide) ?_
        refine lv_isub hx hb dX6_lack_52 ?_
        refine h_topi (y := hg_i S 16 y - hg_sum (f_gives1 S a y) (i + 1)) (by rw [hg_ss]; show _ = _ - (_ + f_gives1 S a y i); unfold f_gives1; rw [if_pos c_27, if_pos c_38, nI_0]) ?_
        refine lv_istore_n (lv' := [(3, .int (hg_i S 16 y - hg_sum (f_gives1 S a y) (i + 1))), (4, .int (nI i)), (0, .ref (o 0)), (1, .int a), (2, .int (nI y))]) hx hb dX6_lack_53 rfl hl (by decide) rfl (fun ls hl => ?_)
        refine lv_iinc (v := nI (i + 1)) (lv' := [(4, .int (nI (i + 1))), (3, .int (hg_i S 16 y - hg_sum (f_gives1 S a y) (i + 1))), (0, .ref (o 0)), (1, .int a), (2, .int (nI y))]) hx hb dX6_lack_54 hl (k := 1) rfl (nI_1 _) (by decide) rfl (fun ls hl => ?_)
        refine lv_goto (tgt := 10) hx hb dX6_lack_57 (by decide) ?_
        exact ih ls (lv_sub hl [0, 1, 2, 3, 4] rfl)
      · skip
        refine lv_aload_n hx hb dX6_lack_41 rfl (lv_at hl 2 rfl) ?_
        refine va_get (C := RX6) (T := TX6) (N := 27) (v := .ref (o 19)) hx hb hts hi6 hown hK hP 0 rfl rfl 25 (by decide) (hts (.fieldLink RX6 66 "HotGroundModel" "gives" "[I") (by decide +kernel)) (fun _ h9 => h9) rfl dX6_lack_42 ?_
        refine lv_iload hx hb dX6_lack_45 (lv_at hl 0 rfl) ?_
        refine h_iald (f := hg_i S 15) hx hb hK hP 19 0 rfl rfl i (rfl) (by omega) (by decide) dX6_lack_47 ?_
        refine lv_goto (tgt := 52) hx hb dX6_lack_48 (by decide) ?_
        refine lv_isub hx hb dX6_lack_52 ?_
        refine h_topi (y := hg_i S 16 y - hg_sum (f_gives1 S a y) (i + 1)) (by rw [hg_ss]; show _ = _ - (_ + f_gives1 S a y i); unfold f_gives1; rw [if_pos c_27, if_neg c_38]) ?_
        refine lv_istore_n (lv' := [(3, .int (hg_i S 16 y - hg_sum (f_gives1 S a y) (i + 1))), (4, .int (nI i)), (0, .ref (o 0)), (1, .int a), (2, .int (nI y))]) hx hb dX6_lack_53 rfl hl (by decide) rfl (fun ls hl => ?_)
        refine lv_iinc (v := nI (i + 1)) (lv' := [(4, .int (nI (i + 1))), (3, .int (hg_i S 16 y - hg_sum (f_gives1 S a y) (i + 1))), (0, .ref (o 0)), (1, .int a), (2, .int (nI y))]) hx hb dX6_lack_54 hl (k := 1) rfl (nI_1 _) (by decide) rfl (fun ls hl => ?_)
        refine lv_goto (tgt := 10) hx hb dX6_lack_57 (by decide) ?_
        exact ih ls (lv_sub hl [0, 1, 2, 3, 4] rfl)
  · intro ls hl
    have hl : lv_has ls 5 [(4, .int (nI (hg_n S 5))), (3, .int (hg_i S 16 y - hg_sum (f_gives1 S a y) (hg_n S 5))), (0, .ref (o 0)), (1, .int a), (2, .int (nI y))] := hl
    refine lv_iload hx hb dX6_lack_10 (lv_at hl 0 rfl) ?_
    refine lv_aload_n hx hb dX6_lack_12 rfl (lv_at hl 2 rfl) ?_
    refine va_get (C := RX6) (T := TX6) (N := 27) (v := .int (nI (hg_n S 5))) hx hb hts hi6 hown hK hP 0 rfl rfl 22 (by decide) (hts (.fieldLink RX6 153 "HotGroundModel" "candidates" "I") (by decide +kernel)) (fun _ h9 => h9) rfl dX6_lack_13 ?_
    refine lv_icmp_ge (tgt := 60) hx hb dX6_lack_16 (by decide) (fun c_16 => ?_) (fun c_16 => absurd (nI_le (Nat.le_refl _) (by omega)) c_16)
    refine lv_iload_n hx hb dX6_lack_60 rfl (lv_at hl 1 rfl) ?_
    refine lv_if_ge (tgt := 68) hx hb dX6_lack_61 (by decide) (fun c_61 => ?_) (fun c_61 => ?_)
    · skip
      refine lv_iload_n hx hb dX6_lack_68 rfl (lv_at hl 1 rfl) ?_
      exact W.iret (v := hg_i S 16 y - hg_sum (f_gives1 S a y) (hg_n S 5)) hx hb hr (fun t ht hW => ⟨_, rfl, by show _ = f_lack S a y; unfold f_lack f_gap; rw [if_neg (by rw [nI_0]; exact hg_nlt.mpr c_61)], ht⟩) (fun _ h9 => nomatch h9) dX6_lack_69
    · skip
      refine lv_iconst (v := nI 0) hx hb dX6_lack_64 (by decide) ?_
      refine lv_goto (tgt := 69) hx hb dX6_lack_65 (by decide) ?_
      exact W.iret (v := nI 0) hx hb hr (fun t ht hW => ⟨_, rfl, by show _ = f_lack S a y; unfold f_lack f_gap; rw [if_pos (by rw [nI_0]; exact hg_nle.mp c_61)], ht⟩) (fun _ h9 => nomatch h9) dX6_lack_69
set_option maxHeartbeats 4000000 in
set_option maxRecDepth 100000 in
/-- what a set costs -/
theorem m_X6_costOf (l : Launch) (D : va_G) (o : Nat → Nat) (cI cJ cZ : ClassId) (S : hg_S) (h5 : hg_n S 5 ≤ 8) (a : Int32) : Met l yX6_costOf wsX6_costOf ({ frames := 0, cells := 0, slots := 0, locals := 0 }) (va_Pc [.ref (o 0), .int a] (hg_R D (mW o cI cJ cZ S) (hg_ty cI cJ cZ))) (vp_Si (fun r => r = f_cost S a)) 0 0 (fun _ => False) := by
  refine h_start (cc := cX6_costOf) (maxL := 4) (ret := (some .int)) (by decide) rfl (Nat.le_of_ble_eq_true rfl) ?_
  intro pg ev s mi args below meth cd ls hx hb hr hts hown hlocks hml hnm hpic hl
  obtain ⟨hP, hK⟩ := hpic
  have hi6 : ∀ w ∈ u_ws RX6 TX6 27, w ∈ wsX6_costOf := by decide +kernel
  have hl : lv_has ls 4 [(0, .ref (o 0)), (1, .int a)] := hl
  refine lv_iconst (v := nI 0) hx hb dX6_costOf_0 (by decide) ?_
  refine h_topi (y := hg_sum (f_cost1 S a) 0) (hg_sum_0) ?_
  refine lv_istore_n (lv' := [(2, .int (hg_sum (f_cost1 S a) 0)), (0, .ref (o 0)), (1, .int a)]) hx hb dX6_costOf_1 rfl hl (by decide) rfl (fun ls hl => ?_)
  refine lv_iconst (v := nI 0) hx hb dX6_costOf_2 (by decide) ?_
  refine lv_istore_n (lv' := [(3, .int (nI 0)), (2, .int (hg_sum (f_cost1 S a) 0)), (0, .ref (o 0)), (1, .int a)]) hx hb dX6_costOf_3 rfl hl (by decide) rfl (fun ls hl => ?_)
  refine h_for (nL := 4) (hg_n S 5) (fun i => [(3, .int (nI i)), (2, .int (hg_sum (f_cost1 S a) i)), (0, .ref (o 0)), (1, .int a)]) ?_ ?_ (lv_sub hl [0, 1, 2, 3] rfl)
  · intro i ls hi hl ih
    have hl : lv_has ls 4 [(3, .int (nI i)), (2, .int (hg_sum (f_cost1 S a) i)), (0, .ref (o 0)), (1, .int a)] := hl
    refine lv_iload_n hx hb dX6_costOf_4 rfl (lv_at hl 0 rfl) ?_
    refine lv_aload_n hx hb dX6_costOf_5 rfl (lv_at hl 2 rfl) ?_
    refine va_get (C := RX6) (T := TX6) (N := 27) (v := .int (nI (hg_n S 5))) hx hb hts hi6 hown hK hP 0 rfl rfl 22 (by decide) (hts (.fieldLink RX6 153 "HotGroundModel" "candidates" "I") (by decide +kernel)) (fun _ h9 => h9) rfl dX6_costOf_6 ?_
    refine lv_icmp_ge (tgt := 40) hx hb dX6_costOf_9 (by decide) (fun c_9 => absurd c_9 (nI_ge hi (by omega))) (fun c_9 => ?_)
    refine lv_iload_n hx hb dX6_costOf_12 rfl (lv_at hl 1 rfl) ?_
    refine lv_iload_n hx hb dX6_costOf_13 rfl (lv_at hl 3 rfl) ?_
    refine lv_iload_n hx hb dX6_costOf_14 rfl (lv_at hl 0 rfl) ?_
    refine lv_ishr hx hb dX6_costOf_15 ?_
    refine lv_iconst (v := nI 1) hx hb dX6_costOf_16 (by decide) ?_
    refine lv_iand hx hb dX6_costOf_17 ?_
    refine lv_iconst (v := nI 1) hx hb dX6_costOf_18 (by decide) ?_
    refine lv_icmp_ne (tgt := 31) hx hb dX6_costOf_19 (by decide) (fun c_19 => ?_) (fun c_19 => ?_)
    · skip
      refine lv_iconst (v := nI 0) hx hb dX6_costOf_31 (by decide) ?_
      refine lv_iadd hx hb dX6_costOf_32 ?_
      refine h_topi (y := hg_sum (f_cost1 S a) (i + 1)) (by show _ + nI 0 = _ + f_cost1 S a i; unfold f_cost1; rw [if_neg c_19, nI_0]) ?_
      refine lv_istore_n (lv' := [(2, .int (hg_sum (f_cost1 S a) (i + 1))), (3, .int (nI i)), (0, .ref (o 0)), (1, .int a)]) hx hb dX6_costOf_33 rfl hl (by decide) rfl (fun ls hl => ?_)
      refine lv_iinc (v := nI (i + 1)) (lv' := [(3, .int (nI (i + 1))), (2, .int (hg_sum (f_cost1 S a) (i + 1))), (0, .ref (o 0)), (1, .int a)]) hx hb dX6_costOf_34 hl (k := 1) rfl (nI_1 _) (by decide) rfl (fun ls hl => ?_)
      refine lv_goto (tgt := 4) hx hb dX6_costOf_37 (by decide) ?_
      exact ih ls (lv_sub hl [0, 1, 2, 3] rfl)
    · skip
      refine lv_aload_n hx hb dX6_costOf_22 rfl (lv_at hl 2 rfl) ?_
      refine va_get (C := RX6) (T := TX6) (N := 27) (v := .ref (o 17)) hx hb hts hi6 hown hK hP 0 rfl rfl 23 (by decide) (hts (.fieldLink RX6 60 "HotGroundModel" "cost" "[I") (by decide +kernel)) (fun _ h9 => h9) rfl dX6_costOf_23 ?_
      refine lv_iload_n hx hb dX6_costOf_26 rfl (lv_at hl 0 rfl) ?_
      refine h_iald (f := hg_i S 13) hx hb hK hP 17 0 rfl rfl i (rfl) (by omega) (by decide) dX6_costOf_27 ?_
      refine lv_goto (tgt := 32) hx hb dX6_costOf_28 (by decide) ?_
      refine lv_iadd hx hb dX6_costOf_32 ?_
      refine h_topi (y := hg_sum (f_cost1 S a) (i + 1)) (by show _ + _ = _ + f_cost1 S a i; unfold f_cost1; rw [if_pos c_19]) ?_
      refine lv_istore_n (lv' := [(2, .int (hg_sum (f_cost1 S a) (i + 1))), (3, .int (nI i)), (0, .ref (o 0)), (1, .int a)]) hx hb dX6_costOf_33 rfl hl (by decide) rfl (fun ls hl => ?_)
      refine lv_iinc (v := nI (i + 1)) (lv' := [(3, .int (nI (i + 1))), (2, .int (hg_sum (f_cost1 S a) (i + 1))), (0, .ref (o 0)), (1, .int a)]) hx hb dX6_costOf_34 hl (k := 1) rfl (nI_1 _) (by decide) rfl (fun ls hl => ?_)
      refine lv_goto (tgt := 4) hx hb dX6_costOf_37 (by decide) ?_
      exact ih ls (lv_sub hl [0, 1, 2, 3] rfl)
  · intro ls hl
    have hl : lv_has ls 4 [(3, .int (nI (hg_n S 5))), (2, .int (hg_sum (f_cost1 S a) (hg_n S 5))), (0, .ref (o 0)), (1, .int a)] := hl
    refine lv_iload_n hx hb dX6_costOf_4 rfl (lv_at hl 0 rfl) ?_
    refine lv_aload_n hx hb dX6_costOf_5 rfl (lv_at hl 2 rfl) ?_
    refine va_get (C := RX6) (T := TX6) (N := 27) (v := .int (nI (hg_n S 5))) hx hb hts hi6 hown hK hP 0 rfl rfl 22 (by decide) (hts (.fieldLink RX6 153 "HotGroundModel" "candidates" "I") (by decide +kernel)) (fun _ h9 => h9) rfl dX6_costOf_6 ?_
    refine lv_icmp_ge (tgt := 40) hx hb dX6_costOf_9 (by decide) (fun c_9 => ?_) (fun c_9 => absurd (nI_le (Nat.le_refl _) (by omega)) c_9)
    refine lv_iload_n hx hb dX6_costOf_40 rfl (lv_at hl 1 rfl) ?_
    exact W.iret (v := hg_sum (f_cost1 S a) (hg_n S 5)) hx hb hr (fun t ht hW => ⟨_, rfl, rfl, ht⟩) (fun _ h9 => nomatch h9) dX6_costOf_41
set_option maxHeartbeats 4000000 in
set_option maxRecDepth 100000 in
/-- plan -/
theorem m_X6_plan (l : Launch) (D : va_G) (o : Nat → Nat) (cI cJ cZ : ClassId) (S : hg_S) (h5 : hg_n S 5 ≤ 8) (q : Int32) : Met l yX6_plan wsX6_plan ({ frames := 1, cells := 0, slots := 0, locals := 24 }) (va_Pc [.ref (o 0), .int q] (hg_R D (mW o cI cJ cZ S) (hg_ty cI cJ cZ))) (vp_Si (fun r => r = a_plan S q)) 0 0 (fun _ => False) := by
  refine h_start (cc := cX6_plan) (maxL := 6) (ret := (some .int)) (by decide) rfl (Nat.le_of_ble_eq_true rfl) ?_
  intro pg ev s mi args below meth cd ls hx hb hr hts hown hlocks hml hnm hpic hl
  obtain ⟨hP, hK⟩ := hpic
  have hi6 : ∀ w ∈ u_ws RX6 TX6 27, w ∈ wsX6_plan := by decide +kernel
  have hl : lv_has ls 6 [(0, .ref (o 0)), (1, .int q)] := hl
  refine lv_iload_n hx hb dX6_plan_0 rfl (lv_at hl 1 rfl) ?_
  refine lv_iconst (v := nI 0) hx hb dX6_plan_1 (by decide) ?_
  refine lv_iconst (v := nI 1) hx hb dX6_plan_2 (by decide) ?_
  refine vp_callSi (va_Run.run (va_runS (As := [.int q, .int (nI 0), .int (nI 1)]) (rest := []) ⟨hx, hb, hml, hown, hts⟩ (m_X6_in l q (nI 0) (nI 1)) (va_cwS 3 hts gX6_plan_X6_in rfl rfl rfl (by decide +kernel) ⟨Nat.le_of_ble_eq_true rfl, Nat.le_of_ble_eq_true rfl⟩) (h_preS0) rfl rfl hl.1 rfl (lv_room (Nat.le_of_ble_eq_true rfl)) dX6_plan_3 ⟨Nat.le_of_ble_eq_true rfl, Nat.le_of_ble_eq_true rfl⟩)) (fun r_1 hr_1 => ?_)
  subst hr_1
  refine lv_if_ne (tgt := 11) hx hb dX6_plan_6 (by decide) (fun c_6 => ?_) (fun c_6 => ?_)
  · skip
    have v_6 : ((nI 0) ≤ q ∧ q ≤ (nI 1)) := hg_in_t c_6
    refine lv_bipush (v := -9) hx hb dX6_plan_11 (by decide) ?_
    refine h_topi (y := (f_best S 0).1) (rfl) ?_
    refine lv_istore_n (lv' := [(2, .int ((f_best S 0).1)), (0, .ref (o 0)), (1, .int q)]) hx hb dX6_plan_13 rfl hl (by decide) rfl (fun ls hl => ?_)
    refine lv_iconst (v := nI 0) hx hb dX6_plan_14 (by decide) ?_
    refine lv_istore_n (lv' := [(3, .int (nI 0)), (2, .int ((f_best S 0).1)), (0, .ref (o 0)), (1, .int q)]) hx hb dX6_plan_15 rfl hl (by decide) rfl (fun ls hl => ?_)
    refine h_for (nL := 6) (2 ^ hg_n S 5) (fun i => [(3, .int (nI i)), (2, .int ((f_best S i).1)), (0, .ref (o 0)), (1, .int q)]) ?_ ?_ (lv_sub hl [0, 1, 2, 3] rfl)
    · intro i ls hi hl ih
      have hl : lv_has ls 6 [(3, .int (nI i)), (2, .int ((f_best S i).1)), (0, .ref (o 0)), (1, .int q)] := hl
      have hpw := hg_pow256 h5
      refine lv_iload_n hx hb dX6_plan_16 rfl (lv_at hl 0 rfl) ?_
      refine lv_iconst (v := nI 1) hx hb dX6_plan_17 (by decide) ?_
      refine lv_aload_n hx hb dX6_plan_18 rfl (lv_at hl 2 rfl) ?_
      refine va_get (C := RX6) (T := TX6) (N := 27) (v := .int (nI (hg_n S 5))) hx hb hts hi6 hown hK hP 0 rfl rfl 22 (by decide) (hts (.fieldLink RX6 153 "HotGroundModel" "candidates" "I") (by decide +kernel)) (fun _ h9 => h9) rfl dX6_plan_19 ?_
      refine lv_ishl hx hb dX6_plan_22 ?_
      refine h_topi (y := nI (2 ^ hg_n S 5)) (hg_shl8 _ h5) ?_
      refine lv_icmp_ge (tgt := 97) hx hb dX6_plan_23 (by decide) (fun c_23 => absurd c_23 (nI_ge hi (hg_pow8 h5))) (fun c_23 => ?_)
      refine lv_iconst (v := nI 1) hx hb dX6_plan_26 (by decide) ?_
      refine h_topi (y := f_kp S (nI i) 0) (f_kp_0 S (nI i)) ?_
      refine lv_istore (lv' := [(4, .int (f_kp S (nI i) 0)), (3, .int (nI i)), (2, .int ((f_best S i).1)), (0, .ref (o 0)), (1, .int q)]) hx hb dX6_plan_27 hl (by decide) rfl (fun ls hl => ?_)
      refine lv_iconst (v := nI 0) hx hb dX6_plan_29 (by decide) ?_
      refine lv_istore (lv' := [(5, .int (nI 0)), (4, .int (f_kp S (nI i) 0)), (3, .int (nI i)), (2, .int ((f_best S i).1)), (0, .ref (o 0)), (1, .int q)]) hx hb dX6_plan_30 hl (by decide) rfl (fun ls hl => ?_)
      refine h_for (nL := 6) (6) (fun j => [(5, .int (nI j)), (4, .int (f_kp S (nI i) j)), (3, .int (nI i)), (2, .int ((f_best S i).1)), (0, .ref (o 0)), (1, .int q)]) ?_ ?_ (lv_sub hl [0, 1, 2, 3, 4, 5] rfl)
      · intro j ls hj hl ih
        have hl : lv_has ls 6 [(5, .int (nI j)), (4, .int (f_kp S (nI i) j)), (3, .int (nI i)), (2, .int ((f_best S i).1)), (0, .ref (o 0)), (1, .int q)] := hl
        refine lv_iload hx hb dX6_plan_32 (lv_at hl 0 rfl) ?_
        refine lv_bipush (v := nI 6) hx hb dX6_plan_34 (by decide) ?_
        refine lv_icmp_ge (tgt := 67) hx hb dX6_plan_36 (by decide) (fun c_36 => absurd c_36 (nI_ge hj (by omega))) (fun c_36 => ?_)
        refine lv_iload hx hb dX6_plan_39 (lv_at hl 1 rfl) ?_
        refine lv_if_eq (tgt := 58) hx hb dX6_plan_41 (by decide) (fun c_41 => ?_) (fun c_41 => ?_)
        · skip
          refine lv_iconst (v := nI 0) hx hb dX6_plan_58 (by decide) ?_
          refine h_topi (y := f_kp S (nI i) (j + 1)) (f_kp_z c_41) ?_
          refine lv_istore (lv' := [(4, .int (f_kp S (nI i) (j + 1))), (5, .int (nI j)), (3, .int (nI i)), (2, .int ((f_best S i).1)), (0, .ref (o 0)), (1, .int q)]) hx hb dX6_plan_59 hl (by decide) rfl (fun ls hl => ?_)
          refine lv_iinc (v := nI (j + 1)) (lv' := [(5, .int (nI (j + 1))), (4, .int (f_kp S (nI i) (j + 1))), (3, .int (nI i)), (2, .int ((f_best S i).1)), (0, .ref (o 0)), (1, .int q)]) hx hb dX6_plan_61 hl (k := 1) rfl (nI_1 _) (by decide) rfl (fun ls hl => ?_)
          refine lv_goto (tgt := 32) hx hb dX6_plan_64 (by decide) ?_
          exact ih ls (lv_sub hl [0, 1, 2, 3, 4, 5] rfl)
        · skip
          refine lv_aload_n hx hb dX6_plan_44 rfl (lv_at hl 4 rfl) ?_
          refine lv_iload_n hx hb dX6_plan_45 rfl (lv_at hl 2 rfl) ?_
          refine lv_iload hx hb dX6_plan_46 (lv_at hl 0 rfl) ?_
          refine vp_callSi (va_Run.run (va_runV (As := [.int (nI i), .int (nI j)]) (rest := []) ⟨hx, hb, hml, hown, hts⟩ (m_X6_lack l D o cI cJ cZ S h5 (nI i) j (by omega)) (cwV 2 hts gX6_plan_X6_lack rfl rfl rfl (by decide +kernel) ⟨Nat.le_of_ble_eq_true rfl, Nat.le_of_ble_eq_true rfl⟩) (h_preR hK hP 0 rfl rfl rfl) rfl rfl hl.1 rfl (lv_room (Nat.le_of_ble_eq_true rfl)) dX6_plan_48 ⟨Nat.le_of_ble_eq_true rfl, Nat.le_of_ble_eq_true rfl⟩)) (fun r_2 hr_2 => ?_)
          subst hr_2
          refine lv_if_ne (tgt := 58) hx hb dX6_plan_51 (by decide) (fun c_51 => ?_) (fun c_51 => ?_)
          · skip
            refine lv_iconst (v := nI 0) hx hb dX6_plan_58 (by decide) ?_
            refine h_topi (y := f_kp S (nI i) (j + 1)) (f_kp_l c_51) ?_
            refine lv_istore (lv' := [(4, .int (f_kp S (nI i) (j + 1))), (5, .int (nI j)), (3, .int (nI i)), (2, .int ((f_best S i).1)), (0, .ref (o 0)), (1, .int q)]) hx hb dX6_plan_59 hl (by decide) rfl (fun ls hl => ?_)
            refine lv_iinc (v := nI (j + 1)) (lv' := [(5, .int (nI (j + 1))), (4, .int (f_kp S (nI i) (j + 1))), (3, .int (nI i)), (2, .int ((f_best S i).1)), (0, .ref (o 0)), (1, .int q)]) hx hb dX6_plan_61 hl (k := 1) rfl (nI_1 _) (by decide) rfl (fun ls hl => ?_)
            refine lv_goto (tgt := 32) hx hb dX6_plan_64 (by decide) ?_
            exact ih ls (lv_sub hl [0, 1, 2, 3, 4, 5] rfl)
          · skip
            refine lv_iconst (v := nI 1) hx hb dX6_plan_54 (by decide) ?_
            refine lv_goto (tgt := 59) hx hb dX6_plan_55 (by decide) ?_
            refine h_topi (y := f_kp S (nI i) (j + 1)) (f_kp_s c_41 c_51) ?_
            refine lv_istore (lv' := [(4, .int (f_kp S (nI i) (j + 1))), (5, .int (nI j)), (3, .int (nI i)), (2, .int ((f_best S i).1)), (0, .ref (o 0)), (1, .int q)]) hx hb dX6_plan_59 hl (by decide) rfl (fun ls hl => ?_)
            refine lv_iinc (v := nI (j + 1)) (lv' := [(5, .int (nI (j + 1))), (4, .int (f_kp S (nI i) (j + 1))), (3, .int (nI i)), (2, .int ((f_best S i).1)), (0, .ref (o 0)), (1, .int q)]) hx hb dX6_plan_61 hl (k := 1) rfl (nI_1 _) (by decide) rfl (fun ls hl => ?_)
            refine lv_goto (tgt := 32) hx hb dX6_plan_64 (by decide) ?_
            exact ih ls (lv_sub hl [0, 1, 2, 3, 4, 5] rfl)
      · intro ls hl
        have hl : lv_has ls 6 [(5, .int (nI 6)), (4, .int (f_kp S (nI i) 6)), (3, .int (nI i)), (2, .int ((f_best S i).1)), (0, .ref (o 0)), (1, .int q)] := hl
        refine lv_iload hx hb dX6_plan_32 (lv_at hl 0 rfl) ?_
        refine lv_bipush (v := nI 6) hx hb dX6_plan_34 (by decide) ?_
        refine lv_icmp_ge (tgt := 67) hx hb dX6_plan_36 (by decide) (fun c_36 => ?_) (fun c_36 => absurd (nI_le (Nat.le_refl _) (by omega)) c_36)
        refine lv_iload hx hb dX6_plan_67 (lv_at hl 1 rfl) ?_
        refine lv_if_eq (tgt := 91) hx hb dX6_plan_69 (by decide) (fun c_69 => ?_) (fun c_69 => ?_)
        · skip
          have k69 := (f_kp_6 S (nI i)).mp c_69
          have hb1 : f_best S (i + 1) = f_best S i := if_neg (fun q => k69 q.2)
          rw [show (f_best S i).1 = (f_best S (i + 1)).1 from by rw [hb1]] at hl
          have hl : lv_has ls 6 [(5, .int (nI 6)), (4, .int (f_kp S (nI i) 6)), (3, .int (nI i)), (2, .int ((f_best S (i + 1)).1)), (0, .ref (o 0)), (1, .int q)] := hl
          refine lv_iinc (v := nI (i + 1)) (lv' := [(3, .int (nI (i + 1))), (5, .int (nI 6)), (4, .int (f_kp S (nI i) 6)), (2, .int ((f_best S (i + 1)).1)), (0, .ref (o 0)), (1, .int q)]) hx hb dX6_plan_91 hl (k := 2) rfl (nI_1 _) (by decide) rfl (fun ls hl => ?_)
          refine lv_goto (tgt := 16) hx hb dX6_plan_94 (by decide) ?_
          exact ih ls (lv_sub hl [0, 3, 4, 5] rfl)
        · skip
          have k69 : f_keeps S (nI i) := Classical.byContradiction (fun q => c_69 ((f_kp_6 S (nI i)).mpr q))
          refine lv_iload_n hx hb dX6_plan_72 rfl (lv_at hl 3 rfl) ?_
          refine lv_if_lt (tgt := 89) hx hb dX6_plan_73 (by decide) (fun c_73 => ?_) (fun c_73 => ?_)
          · skip
            have hb1 : f_best S (i + 1) = (nI i, f_cost S (nI i)) := if_pos ⟨Or.inl ((f_best_neg (by omega)).mp c_73), k69⟩
            refine lv_iload_n hx hb dX6_plan_89 rfl (lv_at hl 2 rfl) ?_
            refine h_topi (y := (f_best S (i + 1)).1) (by rw [hb1]) ?_
            refine lv_istore_n (lv' := [(2, .int ((f_best S (i + 1)).1)), (5, .int (nI 6)), (4, .int (f_kp S (nI i) 6)), (3, .int (nI i)), (0, .ref (o 0)), (1, .int q)]) hx hb dX6_plan_90 rfl hl (by decide) rfl (fun ls hl => ?_)
            refine lv_iinc (v := nI (i + 1)) (lv' := [(3, .int (nI (i + 1))), (2, .int ((f_best S (i + 1)).1)), (5, .int (nI 6)), (4, .int (f_kp S (nI i) 6)), (0, .ref (o 0)), (1, .int q)]) hx hb dX6_plan_91 hl (k := 3) rfl (nI_1 _) (by decide) rfl (fun ls hl => ?_)
            refine lv_goto (tgt := 16) hx hb dX6_plan_94 (by decide) ?_
            exact ih ls (lv_sub hl [0, 1, 4, 5] rfl)
          · skip
            have k73 := f_best_cost (S := S) (i := i) (by omega) c_73
            refine lv_aload_n hx hb dX6_plan_76 rfl (lv_at hl 4 rfl) ?_
            refine lv_iload_n hx hb dX6_plan_77 rfl (lv_at hl 2 rfl) ?_
            refine vp_callSi (va_Run.run (va_runV (As := [.int (nI i)]) (rest := []) ⟨hx, hb, hml, hown, hts⟩ (m_X6_costOf l D o cI cJ cZ S h5 (nI i)) (cwV 1 hts gX6_plan_X6_costOf rfl rfl rfl (by decide +kernel) ⟨Nat.le_of_ble_eq_true rfl, Nat.le_of_ble_eq_true rfl⟩) (h_preR hK hP 0 rfl rfl rfl) rfl rfl hl.1 rfl (lv_room (Nat.le_of_ble_eq_true rfl)) dX6_plan_78 ⟨Nat.le_of_ble_eq_true rfl, Nat.le_of_ble_eq_true rfl⟩)) (fun r_3 hr_3 => ?_)
            subst hr_3
            refine lv_aload_n hx hb dX6_plan_81 rfl (lv_at hl 4 rfl) ?_
            refine lv_iload_n hx hb dX6_plan_82 rfl (lv_at hl 3 rfl) ?_
            refine vp_callSi (va_Run.run (va_runV (As := [.int ((f_best S i).1)]) (rest := [.int (f_cost S (nI i))]) ⟨hx, hb, hml, hown, hts⟩ (m_X6_costOf l D o cI cJ cZ S h5 ((f_best S i).1)) (cwV 1 hts gX6_plan_X6_costOf rfl rfl rfl (by decide +kernel) ⟨Nat.le_of_ble_eq_true rfl, Nat.le_of_ble_eq_true rfl⟩) (h_preR hK hP 0 rfl rfl rfl) rfl rfl hl.1 rfl (lv_room (Nat.le_of_ble_eq_true rfl)) dX6_plan_83 ⟨Nat.le_of_ble_eq_true rfl, Nat.le_of_ble_eq_true rfl⟩)) (fun r_4 hr_4 => ?_)
            subst hr_4
            refine lv_icmp_ge (tgt := 91) hx hb dX6_plan_86 (by decide) (fun c_86 => ?_) (fun c_86 => ?_)
            · skip
              have hb1 : f_best S (i + 1) = f_best S i := if_neg (fun q => q.1.elim (fun q => c_73 ((f_best_neg (by omega)).mpr q)) (fun q => by rw [k73] at q; exact hg_nlt.mpr c_86 q))
              rw [show (f_best S i).1 = (f_best S (i + 1)).1 from by rw [hb1]] at hl
              have hl : lv_has ls 6 [(5, .int (nI 6)), (4, .int (f_kp S (nI i) 6)), (3, .int (nI i)), (2, .int ((f_best S (i + 1)).1)), (0, .ref (o 0)), (1, .int q)] := hl
              refine lv_iinc (v := nI (i + 1)) (lv' := [(3, .int (nI (i + 1))), (5, .int (nI 6)), (4, .int (f_kp S (nI i) 6)), (2, .int ((f_best S (i + 1)).1)), (0, .ref (o 0)), (1, .int q)]) hx hb dX6_plan_91 hl (k := 2) rfl (nI_1 _) (by decide) rfl (fun ls hl => ?_)
              refine lv_goto (tgt := 16) hx hb dX6_plan_94 (by decide) ?_
              exact ih ls (lv_sub hl [0, 3, 4, 5] rfl)
            · skip
              have hb1 : f_best S (i + 1) = (nI i, f_cost S (nI i)) := if_pos ⟨Or.inr (by rw [k73]; exact hg_nle.mp c_86), k69⟩
              refine lv_iload_n hx hb dX6_plan_89 rfl (lv_at hl 2 rfl) ?_
              refine h_topi (y := (f_best S (i + 1)).1) (by rw [hb1]) ?_
              refine lv_istore_n (lv' := [(2, .int ((f_best S (i + 1)).1)), (5, .int (nI 6)), (4, .int (f_kp S (nI i) 6)), (3, .int (nI i)), (0, .ref (o 0)), (1, .int q)]) hx hb dX6_plan_90 rfl hl (by decide) rfl (fun ls hl => ?_)
              refine lv_iinc (v := nI (i + 1)) (lv' := [(3, .int (nI (i + 1))), (2, .int ((f_best S (i + 1)).1)), (5, .int (nI 6)), (4, .int (f_kp S (nI i) 6)), (0, .ref (o 0)), (1, .int q)]) hx hb dX6_plan_91 hl (k := 3) rfl (nI_1 _) (by decide) rfl (fun ls hl => ?_)
              refine lv_goto (tgt := 16) hx hb dX6_plan_94 (by decide) ?_
              exact ih ls (lv_sub hl [0, 1, 4, 5] rfl)
    · intro ls hl
      have hl : lv_has ls 6 [(3, .int (nI (2 ^ hg_n S 5))), (2, .int ((f_best S (2 ^ hg_n S 5)).1)), (0, .ref (o 0)), (1, .int q)] := hl
      have hpw := hg_pow256 h5
      rw [show (f_best S (2 ^ hg_n S 5)).1 = f_bst S from rfl] at hl
      have hl : lv_has ls 6 [(3, .int (nI (2 ^ hg_n S 5))), (2, .int (f_bst S)), (0, .ref (o 0)), (1, .int q)] := hl
      refine lv_iload_n hx hb dX6_plan_16 rfl (lv_at hl 0 rfl) ?_
      refine lv_iconst (v := nI 1) hx hb dX6_plan_17 (by decide) ?_
      refine lv_aload_n hx hb dX6_plan_18 rfl (lv_at hl 2 rfl) ?_
      refine va_get (C := RX6) (T := TX6) (N := 27) (v := .int (nI (hg_n S 5))) hx hb hts hi6 hown hK hP 0 rfl rfl 22 (by decide) (hts (.fieldLink RX6 153 "HotGroundModel" "candidates" "I") (by decide +kernel)) (fun _ h9 => h9) rfl dX6_plan_19 ?_
      refine lv_ishl hx hb dX6_plan_22 ?_
      refine h_topi (y := nI (2 ^ hg_n S 5)) (hg_shl8 _ h5) ?_
      refine lv_icmp_ge (tgt := 97) hx hb dX6_plan_23 (by decide) (fun c_23 => ?_) (fun c_23 => absurd (nI_le (Nat.le_refl _) (hg_pow8 h5)) c_23)
      refine lv_iload_n hx hb dX6_plan_97 rfl (lv_at hl 1 rfl) ?_
      refine lv_if_ge (tgt := 106) hx hb dX6_plan_98 (by decide) (fun c_98 => ?_) (fun c_98 => ?_)
      · skip
        refine lv_iload_n hx hb dX6_plan_106 rfl (lv_at hl 3 rfl) ?_
        refine lv_if_ne (tgt := 114) hx hb dX6_plan_107 (by decide) (fun c_107 => ?_) (fun c_107 => ?_)
        · skip
          refine lv_aload_n hx hb dX6_plan_114 rfl (lv_at hl 2 rfl) ?_
          refine lv_iload_n hx hb dX6_plan_115 rfl (lv_at hl 1 rfl) ?_
          refine vp_callSi (va_Run.run (va_runV (As := [.int (f_bst S)]) (rest := []) ⟨hx, hb, hml, hown, hts⟩ (m_X6_costOf l D o cI cJ cZ S h5 (f_bst S)) (cwV 1 hts gX6_plan_X6_costOf rfl rfl rfl (by decide +kernel) ⟨Nat.le_of_ble_eq_true rfl, Nat.le_of_ble_eq_true rfl⟩) (h_preR hK hP 0 rfl rfl rfl) rfl rfl hl.1 rfl (lv_room (Nat.le_of_ble_eq_true rfl)) dX6_plan_116 ⟨Nat.le_of_ble_eq_true rfl, Nat.le_of_ble_eq_true rfl⟩)) (fun r_5 hr_5 => ?_)
          subst hr_5
          exact W.iret (v := f_cost S (f_bst S)) hx hb hr (fun t ht hW => ⟨_, rfl, by show _ = a_plan S q; unfold a_plan; rw [if_pos v_6]; rw [if_neg (show ¬ f_bst S = -9 from fun h => hg_nlt.mpr c_98 ((f_best_neg (S := S) hpw).mpr h)), if_neg (fun h => c_107 (h.trans nI_0))], ht⟩) (fun _ h9 => nomatch h9) dX6_plan_119
        · skip
          refine lv_iload_n hx hb dX6_plan_110 rfl (lv_at hl 1 rfl) ?_
          refine lv_goto (tgt := 119) hx hb dX6_plan_111 (by decide) ?_
          exact W.iret (v := f_bst S) hx hb hr (fun t ht hW => ⟨_, rfl, by show _ = a_plan S q; unfold a_plan; rw [if_pos v_6]; rw [if_neg (show ¬ f_bst S = -9 from fun h => hg_nlt.mpr c_98 ((f_best_neg (S := S) hpw).mpr h)), if_pos (c_107.trans nI_0.symm)], ht⟩) (fun _ h9 => nomatch h9) dX6_plan_119
      · skip
        refine lv_bipush (v := -9) hx hb dX6_plan_101 (by decide) ?_
        refine lv_goto (tgt := 119) hx hb dX6_plan_103 (by decide) ?_
        exact W.iret (v := (-9)) hx hb hr (fun t ht hW => ⟨_, rfl, by show _ = a_plan S q; unfold a_plan; rw [if_pos v_6]; rw [if_pos (show f_bst S = -9 from (f_best_neg (S := S) hpw).mp (hg_nle.mp c_98))], ht⟩) (fun _ h9 => nomatch h9) dX6_plan_119
  · skip
    have v_6 : ¬ ((nI 0) ≤ q ∧ q ≤ (nI 1)) := hg_in_f c_6
    refine lv_iconst (v := -1) hx hb dX6_plan_9 (by decide) ?_
    exact W.iret (v := (-1)) hx hb hr (fun t ht hW => ⟨_, rfl, by show _ = a_plan S q; unfold a_plan; rw [if_neg v_6], ht⟩) (fun _ h9 => nomatch h9) dX6_plan_10
set_option maxHeartbeats 4000000 in
set_option maxRecDepth 100000 in
/-- lacks -/
theorem m_X6_lacks (l : Launch) (D : va_G) (o : Nat → Nat) (cI cJ cZ : ClassId) (S : hg_S) (h5 : hg_n S 5 ≤ 8) (a y : Int32) : Met l yX6_lacks wsX6_lacks ({ frames := 1, cells := 0, slots := 0, locals := 24 }) (va_Pc [.ref (o 0), .int a, .int y] (hg_R D (mW o cI cJ cZ S) (hg_ty cI cJ cZ))) (vp_Si (fun r => r = a_lacks S a y)) 0 0 (fun _ => False) := by
  refine h_start (cc := cX6_lacks) (maxL := 3) (ret := (some .int)) (by decide) rfl (Nat.le_of_ble_eq_true rfl) ?_
  intro pg ev s mi args below meth cd ls hx hb hr hts hown hlocks hml hnm hpic hl
  obtain ⟨hP, hK⟩ := hpic
  have hi6 : ∀ w ∈ u_ws RX6 TX6 27, w ∈ wsX6_lacks := by decide +kernel
  have hl : lv_has ls 3 [(0, .ref (o 0)), (1, .int a), (2, .int y)] := hl
  refine lv_iload_n hx hb dX6_lacks_0 rfl (lv_at hl 1 rfl) ?_
  refine lv_iconst (v := nI 0) hx hb dX6_lacks_1 (by decide) ?_
  refine lv_iconst (v := nI 1) hx hb dX6_lacks_2 (by decide) ?_
  refine lv_aload_n hx hb dX6_lacks_3 rfl (lv_at hl 0 rfl) ?_
  refine va_get (C := RX6) (T := TX6) (N := 27) (v := .int (nI (hg_n S 5))) hx hb hts hi6 hown hK hP 0 rfl rfl 22 (by decide) (hts (.fieldLink RX6 153 "HotGroundModel" "candidates" "I") (by decide +kernel)) (fun _ h9 => h9) rfl dX6_lacks_4 ?_
  refine lv_ishl hx hb dX6_lacks_7 ?_
  refine h_topi (y := nI (2 ^ hg_n S 5)) (hg_shl8 _ h5) ?_
  refine lv_iconst (v := nI 1) hx hb dX6_lacks_8 (by decide) ?_
  refine lv_isub hx hb dX6_lacks_9 ?_
  refine vp_callSi (va_Run.run (va_runS (As := [.int a, .int (nI 0), .int ((nI (2 ^ hg_n S 5)) - (nI 1))]) (rest := []) ⟨hx, hb, hml, hown, hts⟩ (m_X6_in l a (nI 0) ((nI (2 ^ hg_n S 5)) - (nI 1))) (va_cwS 3 hts gX6_lacks_X6_in rfl rfl rfl (by decide +kernel) ⟨Nat.le_of_ble_eq_true rfl, Nat.le_of_ble_eq_true rfl⟩) (h_preS0) rfl rfl hl.1 rfl (lv_room (Nat.le_of_ble_eq_true rfl)) dX6_lacks_10 ⟨Nat.le_of_ble_eq_true rfl, Nat.le_of_ble_eq_true rfl⟩)) (fun r_1 hr_1 => ?_)
  subst hr_1
  refine lv_if_eq (tgt := 25) hx hb dX6_lacks_13 (by decide) (fun c_13 => ?_) (fun c_13 => ?_)
  · skip
    have v_13 : ¬ ((nI 0) ≤ a ∧ a ≤ ((nI (2 ^ hg_n S 5)) - (nI 1))) := hg_in_f c_13
    refine lv_iconst (v := -1) hx hb dX6_lacks_25 (by decide) ?_
    refine lv_goto (tgt := 35) hx hb dX6_lacks_26 (by decide) ?_
    exact W.iret (v := (-1)) hx hb hr (fun t ht hW => ⟨_, rfl, by show (-1) = a_lacks S a y; unfold a_lacks; rw [if_neg (fun q => v_13 q.1)], ht⟩) (fun _ h9 => nomatch h9) dX6_lacks_35
  · skip
    have v_13 : ((nI 0) ≤ a ∧ a ≤ ((nI (2 ^ hg_n S 5)) - (nI 1))) := hg_in_t c_13
    refine lv_iload_n hx hb dX6_lacks_16 rfl (lv_at hl 2 rfl) ?_
    refine lv_iconst (v := nI 0) hx hb dX6_lacks_17 (by decide) ?_
    refine lv_iconst (v := nI 5) hx hb dX6_lacks_18 (by decide) ?_
    refine vp_callSi (va_Run.run (va_runS (As := [.int y, .int (nI 0), .int (nI 5)]) (rest := []) ⟨hx, hb, hml, hown, hts⟩ (m_X6_in l y (nI 0) (nI 5)) (va_cwS 3 hts gX6_lacks_X6_in rfl rfl rfl (by decide +kernel) ⟨Nat.le_of_ble_eq_true rfl, Nat.le_of_ble_eq_true rfl⟩) (h_preS0) rfl rfl hl.1 rfl (lv_room (Nat.le_of_ble_eq_true rfl)) dX6_lacks_19 ⟨Nat.le_of_ble_eq_true rfl, Nat.le_of_ble_eq_true rfl⟩)) (fun r_2 hr_2 => ?_)
    subst hr_2
    refine lv_if_ne (tgt := 29) hx hb dX6_lacks_22 (by decide) (fun c_22 => ?_) (fun c_22 => ?_)
    · skip
      have v_22 : ((nI 0) ≤ y ∧ y ≤ (nI 5)) := hg_in_t c_22
      obtain ⟨ky, kyl, kyh, rfl⟩ := hg_rng (by decide) (by decide) v_22
      refine lv_aload_n hx hb dX6_lacks_29 rfl (lv_at hl 0 rfl) ?_
      refine lv_iload_n hx hb dX6_lacks_30 rfl (lv_at hl 1 rfl) ?_
      refine lv_iload_n hx hb dX6_lacks_31 rfl (lv_at hl 2 rfl) ?_
      refine vp_callSi (va_Run.run (va_runV (As := [.int a, .int (nI ky)]) (rest := []) ⟨hx, hb, hml, hown, hts⟩ (m_X6_lack l D o cI cJ cZ S h5 a ky (by omega)) (cwV 2 hts gX6_lacks_X6_lack rfl rfl rfl (by decide +kernel) ⟨Nat.le_of_ble_eq_true rfl, Nat.le_of_ble_eq_true rfl⟩) (h_preR hK hP 0 rfl rfl rfl) rfl rfl hl.1 rfl (lv_room (Nat.le_of_ble_eq_true rfl)) dX6_lacks_32 ⟨Nat.le_of_ble_eq_true rfl, Nat.le_of_ble_eq_true rfl⟩)) (fun r_3 hr_3 => ?_)
      subst hr_3
      exact W.iret (v := f_lack S a ky) hx hb hr (fun t ht hW => ⟨_, rfl, by show f_lack S a ky = a_lacks S a (nI ky); unfold a_lacks; rw [if_pos (⟨v_13, v_22⟩)]; (try rw [nI_clamp (show ky < 2 ^ 31 by omega)]), ht⟩) (fun _ h9 => nomatch h9) dX6_lacks_35
    · skip
      have v_22 : ¬ ((nI 0) ≤ y ∧ y ≤ (nI 5)) := hg_in_f c_22
      refine lv_iconst (v := -1) hx hb dX6_lacks_25 (by decide) ?_
      refine lv_goto (tgt := 35) hx hb dX6_lacks_26 (by decide) ?_
      exact W.iret (v := (-1)) hx hb hr (fun t ht hW => ⟨_, rfl, by show (-1) = a_lacks S a y; unfold a_lacks; rw [if_neg (fun q => v_22 q.2)], ht⟩) (fun _ h9 => nomatch h9) dX6_lacks_35
set_option maxHeartbeats 4000000 in
set_option maxRecDepth 100000 in
/-- count -/
theorem m_X6_count (l : Launch) (D : va_G) (o : Nat → Nat) (cI cJ cZ : ClassId) (S : hg_S) (h0 : hg_n S 0 ≤ 8) (h1 : hg_n S 1 ≤ 4) (q : Int32) : Met l yX6_count wsX6_count ({ frames := 0, cells := 0, slots := 0, locals := 0 }) (va_Pc [.ref (o 0), .int q] (hg_R D (mW o cI cJ cZ S) (hg_ty cI cJ cZ))) (vp_Si (fun r => r = a_count S q)) 0 0 (fun _ => False) := by
  refine h_start (cc := cX6_count) (maxL := 4) (ret := (some .int)) (by decide) rfl (Nat.le_of_ble_eq_true rfl) ?_
  intro pg ev s mi args below meth cd ls hx hb hr hts hown hlocks hml hnm hpic hl
  obtain ⟨hP, hK⟩ := hpic
  have hi6 : ∀ w ∈ u_ws RX6 TX6 27, w ∈ wsX6_count := by decide +kernel
  have hl : lv_has ls 4 [(0, .ref (o 0)), (1, .int q)] := hl
  refine lv_iconst (v := nI 0) hx hb dX6_count_0 (by decide) ?_
  refine lv_istore_n (lv' := [(2, .int (nI 0)), (0, .ref (o 0)), (1, .int q)]) hx hb dX6_count_1 rfl hl (by decide) rfl (fun ls hl => ?_)
  refine lv_iload_n hx hb dX6_count_2 rfl (lv_at hl 2 rfl) ?_
  by_cases e0 : q = nI 0
  · subst e0
    refine lv_tableIn (off := 37) (tgt := 40) hx hb dX6_count_3 (by decide) (by decide) (by decide) (by decide) ?_
    refine lv_aload_n hx hb dX6_count_40 rfl (lv_at hl 1 rfl) ?_
    refine va_get (C := RX6) (T := TX6) (N := 27) (v := .int (nI (hg_n S 0))) hx hb hts hi6 hown hK hP 0 rfl rfl 0 (by decide) (hts (.fieldLink RX6 72 "HotGroundModel" "wells" "I") (by decide +kernel)) (fun _ h9 => h9) rfl dX6_count_41 ?_
    exact W.iret (v := nI (hg_n S 0)) hx hb hr (fun t ht hW => ⟨_, rfl, by show nI (hg_n S 0) = a_count S (nI 0); unfold a_count; rw [if_pos rfl], ht⟩) (fun _ h9 => nomatch h9) dX6_count_44
  · skip
    by_cases e1 : q = nI 1
    · subst e1
      refine lv_tableIn (off := 42) (tgt := 45) hx hb dX6_count_3 (by decide) (by decide) (by decide) (by decide) ?_
      refine lv_aload_n hx hb dX6_count_45 rfl (lv_at hl 1 rfl) ?_
      refine va_get (C := RX6) (T := TX6) (N := 27) (v := .int (nI (hg_n S 1))) hx hb hts hi6 hown hK hP 0 rfl rfl 7 (by decide) (hts (.fieldLink RX6 96 "HotGroundModel" "turbines" "I") (by decide +kernel)) (fun _ h9 => h9) rfl dX6_count_46 ?_
      exact W.iret (v := nI (hg_n S 1)) hx hb hr (fun t ht hW => ⟨_, rfl, by show nI (hg_n S 1) = a_count S (nI 1); unfold a_count; rw [if_neg (by decide)]; rw [if_pos rfl], ht⟩) (fun _ h9 => nomatch h9) dX6_count_49
    · skip
      by_cases e2 : q = nI 2
      · subst e2
        refine lv_tableIn (off := 47) (tgt := 50) hx hb dX6_count_3 (by decide) (by decide) (by decide) (by decide) ?_
        refine lv_aload_n hx hb dX6_count_50 rfl (lv_at hl 1 rfl) ?_
        refine va_get (C := RX6) (T := TX6) (N := 27) (v := .int (nI (hg_n S 5))) hx hb hts hi6 hown hK hP 0 rfl rfl 22 (by decide) (hts (.fieldLink RX6 153 "HotGroundModel" "candidates" "I") (by decide +kernel)) (fun _ h9 => h9) rfl dX6_count_51 ?_
        exact W.iret (v := nI (hg_n S 5)) hx hb hr (fun t ht hW => ⟨_, rfl, by show nI (hg_n S 5) = a_count S (nI 2); unfold a_count; rw [if_neg (by decide)]; rw [if_neg (by decide)]; rw [if_pos rfl], ht⟩) (fun _ h9 => nomatch h9) dX6_count_54
      · skip
        by_cases e3 : q = nI 3
        · subst e3
          refine lv_tableIn (off := 52) (tgt := 55) hx hb dX6_count_3 (by decide) (by decide) (by decide) (by decide) ?_
          refine lv_aload_n hx hb dX6_count_55 rfl (lv_at hl 1 rfl) ?_
          refine va_get (C := RX6) (T := TX6) (N := 27) (v := .int (nI (hg_n S 4))) hx hb hts hi6 hown hK hP 0 rfl rfl 20 (by decide) (hts (.fieldLink RX6 150 "HotGroundModel" "told" "I") (by decide +kernel)) (fun _ h9 => h9) rfl dX6_count_56 ?_
          exact W.iret (v := nI (hg_n S 4)) hx hb hr (fun t ht hW => ⟨_, rfl, by show nI (hg_n S 4) = a_count S (nI 3); unfold a_count; rw [if_neg (by decide)]; rw [if_neg (by decide)]; rw [if_neg (by decide)]; rw [if_pos rfl], ht⟩) (fun _ h9 => nomatch h9) dX6_count_59
        · skip
          by_cases e4 : q = nI 4
          · subst e4
            refine lv_tableIn (off := 57) (tgt := 60) hx hb dX6_count_3 (by decide) (by decide) (by decide) (by decide) ?_
            refine lv_iconst (v := nI 0) hx hb dX6_count_60 (by decide) ?_
            refine lv_istore_n (lv' := [(3, .int (nI 0)), (2, .int (nI 0)), (0, .ref (o 0)), (1, .int (nI 4))]) hx hb dX6_count_61 rfl hl (by decide) rfl (fun ls hl => ?_)
            rw [show nI 0 = hg_sum (fun i => f_01 (hg_i S 3 i)) 0 from hg_sum_0] at hl
            have hl : lv_has ls 4 [(3, .int (nI 0)), (2, .int (hg_sum (fun i => f_01 (hg_i S 3 i)) 0)), (0, .ref (o 0)), (1, .int (nI 4))] := hl
            refine h_for (nL := 4) (hg_n S 0) (fun i => [(3, .int (nI i)), (2, .int (hg_sum (fun i => f_01 (hg_i S 3 i)) i)), (0, .ref (o 0)), (1, .int (nI 4))]) ?_ ?_ (lv_sub hl [0, 1, 2, 3] rfl)
            · intro i ls hi hl ih
              have hl : lv_has ls 4 [(3, .int (nI i)), (2, .int (hg_sum (fun i => f_01 (hg_i S 3 i)) i)), (0, .ref (o 0)), (1, .int (nI 4))] := hl
              refine lv_iload_n hx hb dX6_count_62 rfl (lv_at hl 0 rfl) ?_
              refine lv_aload_n hx hb dX6_count_63 rfl (lv_at hl 2 rfl) ?_
              refine va_get (C := RX6) (T := TX6) (N := 27) (v := .int (nI (hg_n S 0))) hx hb hts hi6 hown hK hP 0 rfl rfl 0 (by decide) (hts (.fieldLink RX6 72 "HotGroundModel" "wells" "I") (by decide +kernel)) (fun _ h9 => h9) rfl dX6_count_64 ?_
              refine lv_icmp_ge (tgt := 93) hx hb dX6_count_67 (by decide) (fun c_67 => absurd c_67 (nI_ge hi (by omega))) (fun c_67 => ?_)
              refine lv_iload_n hx hb dX6_count_70 rfl (lv_at hl 1 rfl) ?_
              refine lv_aload_n hx hb dX6_count_71 rfl (lv_at hl 2 rfl) ?_
              refine va_get (C := RX6) (T := TX6) (N := 27) (v := .ref (o 4)) hx hb hts hi6 hown hK hP 0 rfl rfl 4 (by decide) (hts (.fieldLink RX6 19 "HotGroundModel" "isOpen" "[Z") (by decide +kernel)) (fun _ h9 => h9) rfl dX6_count_72 ?_
              refine lv_iload_n hx hb dX6_count_75 rfl (lv_at hl 0 rfl) ?_
              refine h_zald (f := hg_i S 3) hx hb hK hP 4 2 rfl rfl i (rfl) (by omega) (by decide) dX6_count_76 ?_
              refine lv_if_eq (tgt := 84) hx hb dX6_count_77 (by decide) (fun c_77 => ?_) (fun c_77 => ?_)
              · skip
                refine lv_iconst (v := nI 0) hx hb dX6_count_84 (by decide) ?_
                refine lv_iadd hx hb dX6_count_85 ?_
                refine h_topi (y := hg_sum (fun i => f_01 (hg_i S 3 i)) (i + 1)) (by show _ + _ = _ + f_01 _; unfold f_01; rw [if_pos c_77]) ?_
                refine lv_istore_n (lv' := [(2, .int (hg_sum (fun i => f_01 (hg_i S 3 i)) (i + 1))), (3, .int (nI i)), (0, .ref (o 0)), (1, .int (nI 4))]) hx hb dX6_count_86 rfl hl (by decide) rfl (fun ls hl => ?_)
                refine lv_iinc (v := nI (i + 1)) (lv' := [(3, .int (nI (i + 1))), (2, .int (hg_sum (fun i => f_01 (hg_i S 3 i)) (i + 1))), (0, .ref (o 0)), (1, .int (nI 4))]) hx hb dX6_count_87 hl (k := 1) rfl (nI_1 _) (by decide) rfl (fun ls hl => ?_)
                refine lv_goto (tgt := 62) hx hb dX6_count_90 (by decide) ?_
                exact ih ls (lv_sub hl [0, 1, 2, 3] rfl)
              · skip
                refine lv_iconst (v := nI 1) hx hb dX6_count_80 (by decide) ?_
                refine lv_goto (tgt := 85) hx hb dX6_count_81 (by decide) ?_
                refine lv_iadd hx hb dX6_count_85 ?_
                refine h_topi (y := hg_sum (fun i => f_01 (hg_i S 3 i)) (i + 1)) (by show _ + _ = _ + f_01 _; unfold f_01; rw [if_neg c_77]) ?_
                refine lv_istore_n (lv' := [(2, .int (hg_sum (fun i => f_01 (hg_i S 3 i)) (i + 1))), (3, .int (nI i)), (0, .ref (o 0)), (1, .int (nI 4))]) hx hb dX6_count_86 rfl hl (by decide) rfl (fun ls hl => ?_)
                refine lv_iinc (v := nI (i + 1)) (lv' := [(3, .int (nI (i + 1))), (2, .int (hg_sum (fun i => f_01 (hg_i S 3 i)) (i + 1))), (0, .ref (o 0)), (1, .int (nI 4))]) hx hb dX6_count_87 hl (k := 1) rfl (nI_1 _) (by decide) rfl (fun ls hl => ?_)
                refine lv_goto (tgt := 62) hx hb dX6_count_90 (by decide) ?_
                exact ih ls (lv_sub hl [0, 1, 2, 3] rfl)
            · intro ls hl
              have hl : lv_has ls 4 [(3, .int (nI (hg_n S 0))), (2, .int (hg_sum (fun i => f_01 (hg_i S 3 i)) (hg_n S 0))), (0, .ref (o 0)), (1, .int (nI 4))] := hl
              refine lv_iload_n hx hb dX6_count_62 rfl (lv_at hl 0 rfl) ?_
              refine lv_aload_n hx hb dX6_count_63 rfl (lv_at hl 2 rfl) ?_
              refine va_get (C := RX6) (T := TX6) (N := 27) (v := .int (nI (hg_n S 0))) hx hb hts hi6 hown hK hP 0 rfl rfl 0 (by decide) (hts (.fieldLink RX6 72 "HotGroundModel" "wells" "I") (by decide +kernel)) (fun _ h9 => h9) rfl dX6_count_64 ?_
              refine lv_icmp_ge (tgt := 93) hx hb dX6_count_67 (by decide) (fun c_67 => ?_) (fun c_67 => absurd (nI_le (Nat.le_refl _) (by omega)) c_67)
              refine lv_iload_n hx hb dX6_count_93 rfl (lv_at hl 1 rfl) ?_
              exact W.iret (v := hg_sum (fun i => f_01 (hg_i S 3 i)) (hg_n S 0)) hx hb hr (fun t ht hW => ⟨_, rfl, by show hg_sum (fun i => f_01 (hg_i S 3 i)) (hg_n S 0) = a_count S (nI 4); unfold a_count; rw [if_neg (by decide)]; rw [if_neg (by decide)]; rw [if_neg (by decide)]; rw [if_neg (by decide)]; rw [if_pos rfl]; rfl, ht⟩) (fun _ h9 => nomatch h9) dX6_count_94
          · skip
            by_cases e5 : q = nI 5
            · subst e5
              refine lv_tableIn (off := 92) (tgt := 95) hx hb dX6_count_3 (by decide) (by decide) (by decide) (by decide) ?_
              refine lv_iconst (v := nI 0) hx hb dX6_count_95 (by decide) ?_
              refine lv_istore_n (lv' := [(3, .int (nI 0)), (2, .int (nI 0)), (0, .ref (o 0)), (1, .int (nI 5))]) hx hb dX6_count_96 rfl hl (by decide) rfl (fun ls hl => ?_)
              rw [show nI 0 = hg_sum (fun i => f_01 (hg_i S 8 i)) 0 from hg_sum_0] at hl
              have hl : lv_has ls 4 [(3, .int (nI 0)), (2, .int (hg_sum (fun i => f_01 (hg_i S 8 i)) 0)), (0, .ref (o 0)), (1, .int (nI 5))] := hl
              refine h_for (nL := 4) (hg_n S 1) (fun i => [(3, .int (nI i)), (2, .int (hg_sum (fun i => f_01 (hg_i S 8 i)) i)), (0, .ref (o 0)), (1, .int (nI 5))]) ?_ ?_ (lv_sub hl [0, 1, 2, 3] rfl)
              · intro i ls hi hl ih
                have hl : lv_has ls 4 [(3, .int (nI i)), (2, .int (hg_sum (fun i => f_01 (hg_i S 8 i)) i)), (0, .ref (o 0)), (1, .int (nI 5))] := hl
                refine lv_iload_n hx hb dX6_count_97 rfl (lv_at hl 0 rfl) ?_
                refine lv_aload_n hx hb dX6_count_98 rfl (lv_at hl 2 rfl) ?_
                refine va_get (C := RX6) (T := TX6) (N := 27) (v := .int (nI (hg_n S 1))) hx hb hts hi6 hown hK hP 0 rfl rfl 7 (by decide) (hts (.fieldLink RX6 96 "HotGroundModel" "turbines" "I") (by decide +kernel)) (fun _ h9 => h9) rfl dX6_count_99 ?_
                refine lv_icmp_ge (tgt := 128) hx hb dX6_count_102 (by decide) (fun c_102 => absurd c_102 (nI_ge hi (by omega))) (fun c_102 => ?_)
                refine lv_iload_n hx hb dX6_count_105 rfl (lv_at hl 1 rfl) ?_
                refine lv_aload_n hx hb dX6_count_106 rfl (lv_at hl 2 rfl) ?_
                refine va_get (C := RX6) (T := TX6) (N := 27) (v := .ref (o 9)) hx hb hts hi6 hown hK hP 0 rfl rfl 11 (by decide) (hts (.fieldLink RX6 35 "HotGroundModel" "isOn" "[Z") (by decide +kernel)) (fun _ h9 => h9) rfl dX6_count_107 ?_
                refine lv_iload_n hx hb dX6_count_110 rfl (lv_at hl 0 rfl) ?_
                refine h_zald (f := hg_i S 8) hx hb hK hP 9 2 rfl rfl i (rfl) (by omega) (by decide) dX6_count_111 ?_
                refine lv_if_eq (tgt := 119) hx hb dX6_count_112 (by decide) (fun c_112 => ?_) (fun c_112 => ?_)
                · skip
                  refine lv_iconst (v := nI 0) hx hb dX6_count_119 (by decide) ?_
                  refine lv_iadd hx hb dX6_count_120 ?_
                  refine h_topi (y := hg_sum (fun i => f_01 (hg_i S 8 i)) (i + 1)) (by show _ + _ = _ + f_01 _; unfold f_01; rw [if_pos c_112]) ?_
                  refine lv_istore_n (lv' := [(2, .int (hg_sum (fun i => f_01 (hg_i S 8 i)) (i + 1))), (3, .int (nI i)), (0, .ref (o 0)), (1, .int (nI 5))]) hx hb dX6_count_121 rfl hl (by decide) rfl (fun ls hl => ?_)
                  refine lv_iinc (v := nI (i + 1)) (lv' := [(3, .int (nI (i + 1))), (2, .int (hg_sum (fun i => f_01 (hg_i S 8 i)) (i + 1))), (0, .ref (o 0)), (1, .int (nI 5))]) hx hb dX6_count_122 hl (k := 1) rfl (nI_1 _) (by decide) rfl (fun ls hl => ?_)
                  refine lv_goto (tgt := 97) hx hb dX6_count_125 (by decide) ?_
                  exact ih ls (lv_sub hl [0, 1, 2, 3] rfl)
                · skip
                  refine lv_iconst (v := nI 1) hx hb dX6_count_115 (by decide) ?_
                  refine lv_goto (tgt := 120) hx hb dX6_count_116 (by decide) ?_
                  refine lv_iadd hx hb dX6_count_120 ?_
                  refine h_topi (y := hg_sum (fun i => f_01 (hg_i S 8 i)) (i + 1)) (by show _ + _ = _ + f_01 _; unfold f_01; rw [if_neg c_112]) ?_
                  refine lv_istore_n (lv' := [(2, .int (hg_sum (fun i => f_01 (hg_i S 8 i)) (i + 1))), (3, .int (nI i)), (0, .ref (o 0)), (1, .int (nI 5))]) hx hb dX6_count_121 rfl hl (by decide) rfl (fun ls hl => ?_)
                  refine lv_iinc (v := nI (i + 1)) (lv' := [(3, .int (nI (i + 1))), (2, .int (hg_sum (fun i => f_01 (hg_i S 8 i)) (i + 1))), (0, .ref (o 0)), (1, .int (nI 5))]) hx hb dX6_count_122 hl (k := 1) rfl (nI_1 _) (by decide) rfl (fun ls hl => ?_)
                  refine lv_goto (tgt := 97) hx hb dX6_count_125 (by decide) ?_
                  exact ih ls (lv_sub hl [0, 1, 2, 3] rfl)
              · intro ls hl
                have hl : lv_has ls 4 [(3, .int (nI (hg_n S 1))), (2, .int (hg_sum (fun i => f_01 (hg_i S 8 i)) (hg_n S 1))), (0, .ref (o 0)), (1, .int (nI 5))] := hl
                refine lv_iload_n hx hb dX6_count_97 rfl (lv_at hl 0 rfl) ?_
                refine lv_aload_n hx hb dX6_count_98 rfl (lv_at hl 2 rfl) ?_
                refine va_get (C := RX6) (T := TX6) (N := 27) (v := .int (nI (hg_n S 1))) hx hb hts hi6 hown hK hP 0 rfl rfl 7 (by decide) (hts (.fieldLink RX6 96 "HotGroundModel" "turbines" "I") (by decide +kernel)) (fun _ h9 => h9) rfl dX6_count_99 ?_
                refine lv_icmp_ge (tgt := 128) hx hb dX6_count_102 (by decide) (fun c_102 => ?_) (fun c_102 => absurd (nI_le (Nat.le_refl _) (by omega)) c_102)
                refine lv_iload_n hx hb dX6_count_128 rfl (lv_at hl 1 rfl) ?_
                exact W.iret (v := hg_sum (fun i => f_01 (hg_i S 8 i)) (hg_n S 1)) hx hb hr (fun t ht hW => ⟨_, rfl, by show hg_sum (fun i => f_01 (hg_i S 8 i)) (hg_n S 1) = a_count S (nI 5); unfold a_count; rw [if_neg (by decide)]; rw [if_neg (by decide)]; rw [if_neg (by decide)]; rw [if_neg (by decide)]; rw [if_neg (by decide)]; rw [if_pos rfl]; rfl, ht⟩) (fun _ h9 => nomatch h9) dX6_count_129
            · skip
              refine lv_tableOut (tgt := 130) hx hb dX6_count_3 (hg_out (n := 5) (by decide) (fun j hj => by rcases (show j = 0 ∨ j = 1 ∨ j = 2 ∨ j = 3 ∨ j = 4 ∨ j = 5 by omega) with rfl | rfl | rfl | rfl | rfl | rfl <;> assumption)) (by decide) ?_
              refine lv_iconst (v := -1) hx hb dX6_count_130 (by decide) ?_
              exact W.iret (v := (-1)) hx hb hr (fun t ht hW => ⟨_, rfl, by show (-1) = a_count S q; unfold a_count; rw [if_neg e0, if_neg e1, if_neg e2, if_neg e3, if_neg e4, if_neg e5], ht⟩) (fun _ h9 => nomatch h9) dX6_count_131
set_option maxHeartbeats 4000000 in
set_option maxRecDepth 100000 in
/-- trace -/
theorem m_X6_trace (l : Launch) (D : va_G) (o : Nat → Nat) (cI cJ cZ : ClassId) (S : hg_S)  : Met l yX6_trace wsX6_trace ({ frames := 0, cells := 0, slots := 0, locals := 0 }) (va_Pc [.ref (o 0)] (hg_R D (mW o cI cJ cZ S) (hg_ty cI cJ cZ))) (vp_Sl (fun r => r = hg_t S)) 0 0 (fun _ => False) := by
  refine h_start (cc := cX6_trace) (maxL := 1) (ret := (some .long)) (by decide) rfl (Nat.le_of_ble_eq_true rfl) ?_
  intro pg ev s mi args below meth cd ls hx hb hr hts hown hlocks hml hnm hpic hl
  obtain ⟨hP, hK⟩ := hpic
  have hi6 : ∀ w ∈ u_ws RX6 TX6 27, w ∈ wsX6_trace := by decide +kernel
  have hl : lv_has ls 1 [(0, .ref (o 0))] := hl
  refine lv_aload_n hx hb dX6_trace_0 rfl (lv_at hl 0 rfl) ?_
  refine va_get (C := RX6) (T := TX6) (N := 27) (v := .long (hg_t S)) hx hb hts hi6 hown hK hP 0 rfl rfl 6 (by decide) (hts (.fieldLink RX6 84 "HotGroundModel" "trace" "J") (by decide +kernel)) (fun _ h9 => h9) rfl dX6_trace_1 ?_
  exact W.lret (v := hg_t S) hx hb hr (fun t ht hW => ⟨_, rfl, rfl, ht⟩) (fun _ h9 => nomatch h9) dX6_trace_4
