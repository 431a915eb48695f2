set_option maxHeartbeats 4000000 in
set_option maxRecDepth 100000 in
theorem lw_box {pg : Program} {l : Launch} {ev : Env} {s : State} {mi : MethodId} {below : List Frame} {meth : Method} {cd : Code} {D : va_G} {ox om : Nat → Nat} {cI cJ cZ : ClassId} {b L : Nat} {xs : Nat → Int32} (C0 : lw_At pg s mi meth cd b L xs) (hK : va_K D vwCl (hg_ty cI cJ cZ) s) (hdj : ∀ i j, i < 26 → j < 21 → ox i ≠ om j) (hL : L ≤ 4096) {S : hg_S} {i k : Nat} (hI : hg_Inv S k) (hk : k ≤ 512) (hi : i + 8 ≤ L) {H : Heap} {locs : List Loc} {ls : Array Slot} (hPx : va_P D vwCl (xW ox cI cJ cZ S) H) (hPm : va_P D vwCl (mW om cI cJ cZ S) H) (hDx : va_D (fun q : Nat => s.heap.size ≤ q) (xW ox cI cJ cZ S)) (hDm : va_D (fun q : Nat => s.heap.size ≤ q) (mW om cI cJ cZ S)) (hS : va_S (fun q : Nat => s.heap.size ≤ q) s.heap H locs) (hl : lv_has ls 4 [(3, .int (nI i)), (2, .ref (om 0)), (1, .ref (ox 0)), (0, .ref b)]) (kk : ∀ (S' : hg_S) (H : Heap) (locs : List Loc), hg_Inv S' (k + 1) → va_P D vwCl (xW ox cI cJ cZ S') H → va_P D vwCl (mW om cI cJ cZ S') H → va_D (fun q : Nat => s.heap.size ≤ q) (xW ox cI cJ cZ S') → va_D (fun q : Nat => s.heap.size ≤ q) (mW om cI cJ cZ S') → va_S (fun q : Nat => s.heap.size ≤ q) s.heap H locs → W pg l ev room_1 s mi #[Value.ref b] below meth cd H locs 47 379 (lw_Z below #[Value.ref b] s) (F0 mi 935 ls [])) : W pg l ev room_1 s mi #[Value.ref b] below meth cd H locs 47 379 (lw_Z below #[Value.ref b] s) (F0 mi 616 ls []) := by
  obtain ⟨hx, hb, hr, hml, hown0, hts0, hX, hbl, hlocks, hgv⟩ := C0
  have hown : s.vm.findClass RL = some mi.cls := hown0
  have hts : ∀ w ∈ wsL_law, w.before #[Value.ref b] s = true := fun w h => hts0 w (wsL_law_in w h)
  have hA : ∀ q : Nat, s.heap.size ≤ q → (fun q : Nat => s.heap.size ≤ q) q := fun _ h => h
  have hbA : ¬ (fun q : Nat => s.heap.size ≤ q) b := Nat.not_le.mpr hbl
  obtain ⟨⟨⟨h0, h1, h2, hg3, h4, h5⟩, hkd, hbx, hlq, hfd, hcr⟩, hms, hag, hfr⟩ := id hI
  refine lv_aload_n hx hb dL_law_616 rfl (lv_at hl 2 rfl) ?_
  refine lv_aload_n hx hb dL_law_617 rfl (lv_at hl 3 rfl) ?_
  refine lv_iload_n hx hb dL_law_618 rfl (lv_at hl 0 rfl) ?_
  refine lv_iconst (v := nI 1) hx hb dL_law_619 (by decide) ?_
  refine lv_iadd hx hb dL_law_620 ?_
  refine h_topi (y := nI (i + 1)) (nI_add _ _) ?_
  refine h_sld hx hb hX hbl hbA hS (i + 1) rfl (by omega) (by omega) dL_law_621 ?_
  refine lv_aload_n hx hb dL_law_622 rfl (lv_at hl 3 rfl) ?_
  refine lv_iload_n hx hb dL_law_623 rfl (lv_at hl 0 rfl) ?_
  refine lv_iconst (v := nI 2) hx hb dL_law_624 (by decide) ?_
  refine lv_iadd hx hb dL_law_625 ?_
  refine h_topi (y := nI (i + 2)) (nI_add _ _) ?_
  refine h_sld hx hb hX hbl hbA hS (i + 2) rfl (by omega) (by omega) dL_law_626 ?_
  refine vp_callSl (va_Run.run (va_runV (As := [.int (xs (i + 1)), .int (xs (i + 2))]) (rest := []) ⟨hx, hb, hml, hown, hts⟩ (m_X5_box l D ox cI cJ cZ S  (xs (i + 1)) (xs (i + 2))) (cwV 2 hts gL_law_X5_box rfl rfl rfl (by decide +kernel) ⟨Nat.le_of_ble_eq_true rfl, Nat.le_of_ble_eq_true rfl⟩) (h_preR hK hPx 0 rfl rfl rfl) rfl rfl hl.1 rfl (lv_room (Nat.le_of_ble_eq_true rfl)) dL_law_627 ⟨Nat.le_of_ble_eq_true rfl, Nat.le_of_ble_eq_true rfl⟩)) (fun rx hrx => ?_)
  subst hrx
  refine lv_aload_n hx hb dL_law_630 rfl (lv_at hl 1 rfl) ?_
  refine lv_aload_n hx hb dL_law_631 rfl (lv_at hl 3 rfl) ?_
  refine lv_iload_n hx hb dL_law_632 rfl (lv_at hl 0 rfl) ?_
  refine lv_iconst (v := nI 1) hx hb dL_law_633 (by decide) ?_
  refine lv_iadd hx hb dL_law_634 ?_
  refine h_topi (y := nI (i + 1)) (nI_add _ _) ?_
  refine h_sld hx hb hX hbl hbA hS (i + 1) rfl (by omega) (by omega) dL_law_635 ?_
  refine lv_aload_n hx hb dL_law_636 rfl (lv_at hl 3 rfl) ?_
  refine lv_iload_n hx hb dL_law_637 rfl (lv_at hl 0 rfl) ?_
  refine lv_iconst (v := nI 2) hx hb dL_law_638 (by decide) ?_
  refine lv_iadd hx hb dL_law_639 ?_
  refine h_topi (y := nI (i + 2)) (nI_add _ _) ?_
  refine h_sld hx hb hX hbl hbA hS (i + 2) rfl (by omega) (by omega) dL_law_640 ?_
  refine vp_callSl (va_Run.run (va_runV (As := [.int (xs (i + 1)), .int (xs (i + 2))]) (rest := [.long (a_box S (xs (i + 1)) (xs (i + 2)))]) ⟨hx, hb, hml, hown, hts⟩ (m_X6_box l D om cI cJ cZ S  (xs (i + 1)) (xs (i + 2))) (cwV 2 hts gL_law_X6_box rfl rfl rfl (by decide +kernel) ⟨Nat.le_of_ble_eq_true rfl, Nat.le_of_ble_eq_true rfl⟩) (h_preR hK hPm 0 rfl rfl rfl) rfl rfl hl.1 rfl (lv_room (Nat.le_of_ble_eq_true rfl)) dL_law_641 ⟨Nat.le_of_ble_eq_true rfl, Nat.le_of_ble_eq_true rfl⟩)) (fun rm hrm => ?_)
  subst hrm
  refine W.lcmp hx hb dL_law_644 ?_
  refine lv_if_eq (tgt := 935) hx hb dL_law_645 (by decide) (fun c => ?_) (fun c => absurd ((lg_cmp_eq _ _).mpr rfl) c)
  exact kk S H locs hI.mono hPx hPm hDx hDm hS
set_option maxHeartbeats 4000000 in
set_option maxRecDepth 100000 in
theorem lw_sum {pg : Program} {l : Launch} {ev : Env} {s : State} {mi : MethodId} {below : List Frame} {meth : Method} {cd : Code} {D : va_G} {ox om : Nat → Nat} {cI cJ cZ : ClassId} {b L : Nat} {xs : Nat → Int32} (C0 : lw_At pg s mi meth cd b L xs) (hK : va_K D vwCl (hg_ty cI cJ cZ) s) (hdj : ∀ i j, i < 26 → j < 21 → ox i ≠ om j) (hL : L ≤ 4096) {S : hg_S} {i k : Nat} (hI : hg_Inv S k) (hk : k ≤ 512) (hi : i + 8 ≤ L) {H : Heap} {locs : List Loc} {ls : Array Slot} (hPx : va_P D vwCl (xW ox cI cJ cZ S) H) (hPm : va_P D vwCl (mW om cI cJ cZ S) H) (hDx : va_D (fun q : Nat => s.heap.size ≤ q) (xW ox cI cJ cZ S)) (hDm : va_D (fun q : Nat => s.heap.size ≤ q) (mW om cI cJ cZ S)) (hS : va_S (fun q : Nat => s.heap.size ≤ q) s.heap H locs) (hl : lv_has ls 4 [(3, .int (nI i)), (2, .ref (om 0)), (1, .ref (ox 0)), (0, .ref b)]) (kk : ∀ (S' : hg_S) (H : Heap) (locs : List Loc), hg_Inv S' (k + 1) → va_P D vwCl (xW ox cI cJ cZ S') H → va_P D vwCl (mW om cI cJ cZ S') H → va_D (fun q : Nat => s.heap.size ≤ q) (xW ox cI cJ cZ S') → va_D (fun q : Nat => s.heap.size ≤ q) (mW om cI cJ cZ S') → va_S (fun q : Nat => s.heap.size ≤ q) s.heap H locs → W pg l ev room_1 s mi #[Value.ref b] below meth cd H locs 47 379 (lw_Z below #[Value.ref b] s) (F0 mi 935 ls [])) : W pg l ev room_1 s mi #[Value.ref b] below meth cd H locs 47 379 (lw_Z below #[Value.ref b] s) (F0 mi 650 ls []) := by
  obtain ⟨hx, hb, hr, hml, hown0, hts0, hX, hbl, hlocks, hgv⟩ := C0
  have hown : s.vm.findClass RL = some mi.cls := hown0
  have hts : ∀ w ∈ wsL_law, w.before #[Value.ref b] s = true := fun w h => hts0 w (wsL_law_in w h)
  have hA : ∀ q : Nat, s.heap.size ≤ q → (fun q : Nat => s.heap.size ≤ q) q := fun _ h => h
  have hbA : ¬ (fun q : Nat => s.heap.size ≤ q) b := Nat.not_le.mpr hbl
  obtain ⟨⟨⟨h0, h1, h2, hg3, h4, h5⟩, hkd, hbx, hlq, hfd, hcr⟩, hms, hag, hfr⟩ := id hI
  refine lv_aload_n hx hb dL_law_650 rfl (lv_at hl 2 rfl) ?_
  refine lv_aload_n hx hb dL_law_651 rfl (lv_at hl 3 rfl) ?_
  refine lv_iload_n hx hb dL_law_652 rfl (lv_at hl 0 rfl) ?_
  refine lv_iconst (v := nI 1) hx hb dL_law_653 (by decide) ?_
  refine lv_iadd hx hb dL_law_654 ?_
  refine h_topi (y := nI (i + 1)) (nI_add _ _) ?_
  refine h_sld hx hb hX hbl hbA hS (i + 1) rfl (by omega) (by omega) dL_law_655 ?_
  refine vp_callSl (va_Run.run (va_runV (As := [.int (xs (i + 1))]) (rest := []) ⟨hx, hb, hml, hown, hts⟩ (m_X5_sum l D ox cI cJ cZ S  (xs (i + 1))) (cwV 1 hts gL_law_X5_sum rfl rfl rfl (by decide +kernel) ⟨Nat.le_of_ble_eq_true rfl, Nat.le_of_ble_eq_true rfl⟩) (h_preR hK hPx 0 rfl rfl rfl) rfl rfl hl.1 rfl (lv_room (Nat.le_of_ble_eq_true rfl)) dL_law_656 ⟨Nat.le_of_ble_eq_true rfl, Nat.le_of_ble_eq_true rfl⟩)) (fun rx hrx => ?_)
  subst hrx
  refine lv_aload_n hx hb dL_law_659 rfl (lv_at hl 1 rfl) ?_
  refine lv_aload_n hx hb dL_law_660 rfl (lv_at hl 3 rfl) ?_
  refine lv_iload_n hx hb dL_law_661 rfl (lv_at hl 0 rfl) ?_
  refine lv_iconst (v := nI 1) hx hb dL_law_662 (by decide) ?_
  refine lv_iadd hx hb dL_law_663 ?_
  refine h_topi (y := nI (i + 1)) (nI_add _ _) ?_
  refine h_sld hx hb hX hbl hbA hS (i + 1) rfl (by omega) (by omega) dL_law_664 ?_
  refine vp_callSl (va_Run.run (va_runV (As := [.int (xs (i + 1))]) (rest := [.long (a_sum S (xs (i + 1)))]) ⟨hx, hb, hml, hown, hts⟩ (m_X6_sum l D om cI cJ cZ S  (xs (i + 1))) (cwV 1 hts gL_law_X6_sum rfl rfl rfl (by decide +kernel) ⟨Nat.le_of_ble_eq_true rfl, Nat.le_of_ble_eq_true rfl⟩) (h_preR hK hPm 0 rfl rfl rfl) rfl rfl hl.1 rfl (lv_room (Nat.le_of_ble_eq_true rfl)) dL_law_665 ⟨Nat.le_of_ble_eq_true rfl, Nat.le_of_ble_eq_true rfl⟩)) (fun rm hrm => ?_)
  subst hrm
  refine W.lcmp hx hb dL_law_668 ?_
  refine lv_if_eq (tgt := 935) hx hb dL_law_669 (by decide) (fun c => ?_) (fun c => absurd ((lg_cmp_eq _ _).mpr rfl) c)
  exact kk S H locs hI.mono hPx hPm hDx hDm hS
set_option maxHeartbeats 4000000 in
set_option maxRecDepth 100000 in
theorem lw_share {pg : Program} {l : Launch} {ev : Env} {s : State} {mi : MethodId} {below : List Frame} {meth : Method} {cd : Code} {D : va_G} {ox om : Nat → Nat} {cI cJ cZ : ClassId} {b L : Nat} {xs : Nat → Int32} (C0 : lw_At pg s mi meth cd b L xs) (hK : va_K D vwCl (hg_ty cI cJ cZ) s) (hdj : ∀ i j, i < 26 → j < 21 → ox i ≠ om j) (hL : L ≤ 4096) {S : hg_S} {i k : Nat} (hI : hg_Inv S k) (hk : k ≤ 512) (hi : i + 8 ≤ L) {H : Heap} {locs : List Loc} {ls : Array Slot} (hPx : va_P D vwCl (xW ox cI cJ cZ S) H) (hPm : va_P D vwCl (mW om cI cJ cZ S) H) (hDx : va_D (fun q : Nat => s.heap.size ≤ q) (xW ox cI cJ cZ S)) (hDm : va_D (fun q : Nat => s.heap.size ≤ q) (mW om cI cJ cZ S)) (hS : va_S (fun q : Nat => s.heap.size ≤ q) s.heap H locs) (hl : lv_has ls 4 [(3, .int (nI i)), (2, .ref (om 0)), (1, .ref (ox 0)), (0, .ref b)]) (kk : ∀ (S' : hg_S) (H : Heap) (locs : List Loc), hg_Inv S' (k + 1) → va_P D vwCl (xW ox cI cJ cZ S') H → va_P D vwCl (mW om cI cJ cZ S') H → va_D (fun q : Nat => s.heap.size ≤ q) (xW ox cI cJ cZ S') → va_D (fun q : Nat => s.heap.size ≤ q) (mW om cI cJ cZ S') → va_S (fun q : Nat => s.heap.size ≤ q) s.heap H locs → W pg l ev room_1 s mi #[Value.ref b] below meth cd H locs 47 379 (lw_Z below #[Value.ref b] s) (F0 mi 935 ls [])) : W pg l ev room_1 s mi #[Value.ref b] below meth cd H locs 47 379 (lw_Z below #[Value.ref b] s) (F0 mi 674 ls []) := by
  obtain ⟨hx, hb, hr, hml, hown0, hts0, hX, hbl, hlocks, hgv⟩ := C0
  have hown : s.vm.findClass RL = some mi.cls := hown0
  have hts : ∀ w ∈ wsL_law, w.before #[Value.ref b] s = true := fun w h => hts0 w (wsL_law_in w h)
  have hA : ∀ q : Nat, s.heap.size ≤ q → (fun q : Nat => s.heap.size ≤ q) q := fun _ h => h
  have hbA : ¬ (fun q : Nat => s.heap.size ≤ q) b := Nat.not_le.mpr hbl
  obtain ⟨⟨⟨h0, h1, h2, hg3, h4, h5⟩, hkd, hbx, hlq, hfd, hcr⟩, hms, hag, hfr⟩ := id hI
  refine lv_aload_n hx hb dL_law_674 rfl (lv_at hl 2 rfl) ?_
  refine lv_aload_n hx hb dL_law_675 rfl (lv_at hl 3 rfl) ?_
  refine lv_iload_n hx hb dL_law_676 rfl (lv_at hl 0 rfl) ?_
  refine lv_iconst (v := nI 1) hx hb dL_law_677 (by decide) ?_
  refine lv_iadd hx hb dL_law_678 ?_
  refine h_topi (y := nI (i + 1)) (nI_add _ _) ?_
  refine h_sld hx hb hX hbl hbA hS (i + 1) rfl (by omega) (by omega) dL_law_679 ?_
  refine lv_aload_n hx hb dL_law_680 rfl (lv_at hl 3 rfl) ?_
  refine lv_iload_n hx hb dL_law_681 rfl (lv_at hl 0 rfl) ?_
  refine lv_iconst (v := nI 2) hx hb dL_law_682 (by decide) ?_
  refine lv_iadd hx hb dL_law_683 ?_
  refine h_topi (y := nI (i + 2)) (nI_add _ _) ?_
  refine h_sld hx hb hX hbl hbA hS (i + 2) rfl (by omega) (by omega) dL_law_684 ?_
  refine h_lcalli (w1 := xW ox cI cJ cZ ((r_share S (xs (i + 1)) (xs (i + 2))).2)) (wr := mW om cI cJ cZ S) (va_runV (As := [.int (xs (i + 1)), .int (xs (i + 2))]) (rest := []) ⟨hx, hb, hml, hown, hts⟩ (m_X5_share l D ox cI cJ cZ S H.size  (xs (i + 1)) (xs (i + 2))) (cwV 2 hts gL_law_X5_share rfl rfl rfl (by decide +kernel) ⟨Nat.le_of_ble_eq_true rfl, Nat.le_of_ble_eq_true rfl⟩) (h_preW hK hPx hDx 0 rfl rfl rfl) rfl rfl hl.1 rfl (lv_room (Nat.le_of_ble_eq_true rfl)) dL_law_685 ⟨Nat.le_of_ble_eq_true rfl, Nat.le_of_ble_eq_true rfl⟩) hS hA hDx hPm (dj_xm hdj) (fun rx H locs hrx hPx hPm hDx hS => ?_)
  subst hrx
  refine lv_aload_n hx hb dL_law_688 rfl (lv_at hl 1 rfl) ?_
  refine lv_aload_n hx hb dL_law_689 rfl (lv_at hl 3 rfl) ?_
  refine lv_iload_n hx hb dL_law_690 rfl (lv_at hl 0 rfl) ?_
  refine lv_iconst (v := nI 1) hx hb dL_law_691 (by decide) ?_
  refine lv_iadd hx hb dL_law_692 ?_
  refine h_topi (y := nI (i + 1)) (nI_add _ _) ?_
  refine h_sld hx hb hX hbl hbA hS (i + 1) rfl (by omega) (by omega) dL_law_693 ?_
  refine lv_aload_n hx hb dL_law_694 rfl (lv_at hl 3 rfl) ?_
  refine lv_iload_n hx hb dL_law_695 rfl (lv_at hl 0 rfl) ?_
  refine lv_iconst (v := nI 2) hx hb dL_law_696 (by decide) ?_
  refine lv_iadd hx hb dL_law_697 ?_
  refine h_topi (y := nI (i + 2)) (nI_add _ _) ?_
  refine h_sld hx hb hX hbl hbA hS (i + 2) rfl (by omega) (by omega) dL_law_698 ?_
  refine h_lcalli (w1 := mW om cI cJ cZ ((r_share S (xs (i + 1)) (xs (i + 2))).2)) (wr := xW ox cI cJ cZ ((r_share S (xs (i + 1)) (xs (i + 2))).2)) (va_runV (As := [.int (xs (i + 1)), .int (xs (i + 2))]) (rest := [.int ((r_share S (xs (i + 1)) (xs (i + 2))).1)]) ⟨hx, hb, hml, hown, hts⟩ (m_X6_share l D om cI cJ cZ S H.size  (xs (i + 1)) (xs (i + 2))) (cwV 2 hts gL_law_X6_share rfl rfl rfl (by decide +kernel) ⟨Nat.le_of_ble_eq_true rfl, Nat.le_of_ble_eq_true rfl⟩) (h_preW hK hPm hDm 0 rfl rfl rfl) rfl rfl hl.1 rfl (lv_room (Nat.le_of_ble_eq_true rfl)) dL_law_699 ⟨Nat.le_of_ble_eq_true rfl, Nat.le_of_ble_eq_true rfl⟩) hS hA hDm hPx (dj_mx hdj) (fun rm H locs hrm hPm hPx hDm hS => ?_)
  subst hrm
  refine lv_icmp_eq (tgt := 935) hx hb dL_law_702 (by decide) (fun _ => ?_) (fun c9 => absurd rfl c9)
  exact kk _ H locs (inv_share hI (xs (i + 1)) (xs (i + 2))) hPx hPm hDx hDm hS
set_option maxHeartbeats 4000000 in
set_option maxRecDepth 100000 in
theorem lw_put {pg : Program} {l : Launch} {ev : Env} {s : State} {mi : MethodId} {below : List Frame} {meth : Method} {cd : Code} {D : va_G} {ox om : Nat → Nat} {cI cJ cZ : ClassId} {b L : Nat} {xs : Nat → Int32} (C0 : lw_At pg s mi meth cd b L xs) (hK : va_K D vwCl (hg_ty cI cJ cZ) s) (hdj : ∀ i j, i < 26 → j < 21 → ox i ≠ om j) (hL : L ≤ 4096) {S : hg_S} {i k : Nat} (hI : hg_Inv S k) (hk : k ≤ 512) (hi : i + 8 ≤ L) {H : Heap} {locs : List Loc} {ls : Array Slot} (hPx : va_P D vwCl (xW ox cI cJ cZ S) H) (hPm : va_P D vwCl (mW om cI cJ cZ S) H) (hDx : va_D (fun q : Nat => s.heap.size ≤ q) (xW ox cI cJ cZ S)) (hDm : va_D (fun q : Nat => s.heap.size ≤ q) (mW om cI cJ cZ S)) (hS : va_S (fun q : Nat => s.heap.size ≤ q) s.heap H locs) (hl : lv_has ls 4 [(3, .int (nI i)), (2, .ref (om 0)), (1, .ref (ox 0)), (0, .ref b)]) (kk : ∀ (S' : hg_S) (H : Heap) (locs : List Loc), hg_Inv S' (k + 1) → va_P D vwCl (xW ox cI cJ cZ S') H → va_P D vwCl (mW om cI cJ cZ S') H → va_D (fun q : Nat => s.heap.size ≤ q) (xW ox cI cJ cZ S') → va_D (fun q : Nat => s.heap.size ≤ q) (mW om cI cJ cZ S') → va_S (fun q : Nat => s.heap.size ≤ q) s.heap H locs → W pg l ev room_1 s mi #[Value.ref b] below meth cd H locs 47 379 (lw_Z below #[Value.ref b] s) (F0 mi 935 ls [])) : W pg l ev room_1 s mi #[Value.ref b] below meth cd H locs 47 379 (lw_Z below #[Value.ref b] s) (F0 mi 707 ls []) := by
  obtain ⟨hx, hb, hr, hml, hown0, hts0, hX, hbl, hlocks, hgv⟩ := C0
  have hown : s.vm.findClass RL = some mi.cls := hown0
  have hts : ∀ w ∈ wsL_law, w.before #[Value.ref b] s = true := fun w h => hts0 w (wsL_law_in w h)
  have hA : ∀ q : Nat, s.heap.size ≤ q → (fun q : Nat => s.heap.size ≤ q) q := fun _ h => h
  have hbA : ¬ (fun q : Nat => s.heap.size ≤ q) b := Nat.not_le.mpr hbl
  obtain ⟨⟨⟨h0, h1, h2, hg3, h4, h5⟩, hkd, hbx, hlq, hfd, hcr⟩, hms, hag, hfr⟩ := id hI
  refine lv_aload_n hx hb dL_law_707 rfl (lv_at hl 2 rfl) ?_
  refine lv_aload_n hx hb dL_law_708 rfl (lv_at hl 3 rfl) ?_
  refine lv_iload_n hx hb dL_law_709 rfl (lv_at hl 0 rfl) ?_
  refine lv_iconst (v := nI 1) hx hb dL_law_710 (by decide) ?_
  refine lv_iadd hx hb dL_law_711 ?_
  refine h_topi (y := nI (i + 1)) (nI_add _ _) ?_
  refine h_sld hx hb hX hbl hbA hS (i + 1) rfl (by omega) (by omega) dL_law_712 ?_
  refine h_lcalli (w1 := xW ox cI cJ cZ ((r_put S (xs (i + 1))).2)) (wr := mW om cI cJ cZ S) (va_runV (As := [.int (xs (i + 1))]) (rest := []) ⟨hx, hb, hml, hown, hts⟩ (m_X5_put l D ox cI cJ cZ S H.size h4 (xs (i + 1))) (cwV 1 hts gL_law_X5_put rfl rfl rfl (by decide +kernel) ⟨Nat.le_of_ble_eq_true rfl, Nat.le_of_ble_eq_true rfl⟩) (h_preW hK hPx hDx 0 rfl rfl rfl) rfl rfl hl.1 rfl (lv_room (Nat.le_of_ble_eq_true rfl)) dL_law_713 ⟨Nat.le_of_ble_eq_true rfl, Nat.le_of_ble_eq_true rfl⟩) hS hA hDx hPm (dj_xm hdj) (fun rx H locs hrx hPx hPm hDx hS => ?_)
  subst hrx
  refine lv_aload_n hx hb dL_law_716 rfl (lv_at hl 1 rfl) ?_
  refine lv_aload_n hx hb dL_law_717 rfl (lv_at hl 3 rfl) ?_
  refine lv_iload_n hx hb dL_law_718 rfl (lv_at hl 0 rfl) ?_
  refine lv_iconst (v := nI 1) hx hb dL_law_719 (by decide) ?_
  refine lv_iadd hx hb dL_law_720 ?_
  refine h_topi (y := nI (i + 1)) (nI_add _ _) ?_
  refine h_sld hx hb hX hbl hbA hS (i + 1) rfl (by omega) (by omega) dL_law_721 ?_
  refine h_lcalli (w1 := mW om cI cJ cZ ((r_put S (xs (i + 1))).2)) (wr := xW ox cI cJ cZ ((r_put S (xs (i + 1))).2)) (va_runV (As := [.int (xs (i + 1))]) (rest := [.int ((r_put S (xs (i + 1))).1)]) ⟨hx, hb, hml, hown, hts⟩ (m_X6_put l D om cI cJ cZ S H.size h4 (xs (i + 1))) (cwV 1 hts gL_law_X6_put rfl rfl rfl (by decide +kernel) ⟨Nat.le_of_ble_eq_true rfl, Nat.le_of_ble_eq_true rfl⟩) (h_preW hK hPm hDm 0 rfl rfl rfl) rfl rfl hl.1 rfl (lv_room (Nat.le_of_ble_eq_true rfl)) dL_law_722 ⟨Nat.le_of_ble_eq_true rfl, Nat.le_of_ble_eq_true rfl⟩) hS hA hDm hPx (dj_mx hdj) (fun rm H locs hrm hPm hPx hDm hS => ?_)
  subst hrm
  refine lv_icmp_eq (tgt := 935) hx hb dL_law_725 (by decide) (fun _ => ?_) (fun c9 => absurd rfl c9)
  exact kk _ H locs (inv_put hI (xs (i + 1))) hPx hPm hDx hDm hS
set_option maxHeartbeats 4000000 in
set_option maxRecDepth 100000 in
theorem lw_back {pg : Program} {l : Launch} {ev : Env} {s : State} {mi : MethodId} {below : List Frame} {meth : Method} {cd : Code} {D : va_G} {ox om : Nat → Nat} {cI cJ cZ : ClassId} {b L : Nat} {xs : Nat → Int32} (C0 : lw_At pg s mi meth cd b L xs) (hK : va_K D vwCl (hg_ty cI cJ cZ) s) (hdj : ∀ i j, i < 26 → j < 21 → ox i ≠ om j) (hL : L ≤ 4096) {S : hg_S} {i k : Nat} (hI : hg_Inv S k) (hk : k ≤ 512) (hi : i + 8 ≤ L) {H : Heap} {locs : List Loc} {ls : Array Slot} (hPx : va_P D vwCl (xW ox cI cJ cZ S) H) (hPm : va_P D vwCl (mW om cI cJ cZ S) H) (hDx : va_D (fun q : Nat => s.heap.size ≤ q) (xW ox cI cJ cZ S)) (hDm : va_D (fun q : Nat => s.heap.size ≤ q) (mW om cI cJ cZ S)) (hS : va_S (fun q : Nat => s.heap.size ≤ q) s.heap H locs) (hl : lv_has ls 4 [(3, .int (nI i)), (2, .ref (om 0)), (1, .ref (ox 0)), (0, .ref b)]) (kk : ∀ (S' : hg_S) (H : Heap) (locs : List Loc), hg_Inv S' (k + 1) → va_P D vwCl (xW ox cI cJ cZ S') H → va_P D vwCl (mW om cI cJ cZ S') H → va_D (fun q : Nat => s.heap.size ≤ q) (xW ox cI cJ cZ S') → va_D (fun q : Nat => s.heap.size ≤ q) (mW om cI cJ cZ S') → va_S (fun q : Nat => s.heap.size ≤ q) s.heap H locs → W pg l ev room_1 s mi #[Value.ref b] below meth cd H locs 47 379 (lw_Z below #[Value.ref b] s) (F0 mi 935 ls [])) : W pg l ev room_1 s mi #[Value.ref b] below meth cd H locs 47 379 (lw_Z below #[Value.ref b] s) (F0 mi 730 ls []) := by
  obtain ⟨hx, hb, hr, hml, hown0, hts0, hX, hbl, hlocks, hgv⟩ := C0
  have hown : s.vm.findClass RL = some mi.cls := hown0
  have hts : ∀ w ∈ wsL_law, w.before #[Value.ref b] s = true := fun w h => hts0 w (wsL_law_in w h)
  have hA : ∀ q : Nat, s.heap.size ≤ q → (fun q : Nat => s.heap.size ≤ q) q := fun _ h => h
  have hbA : ¬ (fun q : Nat => s.heap.size ≤ q) b := Nat.not_le.mpr hbl
  obtain ⟨⟨⟨h0, h1, h2, hg3, h4, h5⟩, hkd, hbx, hlq, hfd, hcr⟩, hms, hag, hfr⟩ := id hI
  refine lv_aload_n hx hb dL_law_730 rfl (lv_at hl 2 rfl) ?_
  refine lv_aload_n hx hb dL_law_731 rfl (lv_at hl 3 rfl) ?_
  refine lv_iload_n hx hb dL_law_732 rfl (lv_at hl 0 rfl) ?_
  refine lv_iconst (v := nI 1) hx hb dL_law_733 (by decide) ?_
  refine lv_iadd hx hb dL_law_734 ?_
  refine h_topi (y := nI (i + 1)) (nI_add _ _) ?_
  refine h_sld hx hb hX hbl hbA hS (i + 1) rfl (by omega) (by omega) dL_law_735 ?_
  refine vp_callSi (va_Run.run (va_runV (As := [.int (xs (i + 1))]) (rest := []) ⟨hx, hb, hml, hown, hts⟩ (m_X5_back l D ox cI cJ cZ S h4 (xs (i + 1))) (cwV 1 hts gL_law_X5_back rfl rfl rfl (by decide +kernel) ⟨Nat.le_of_ble_eq_true rfl, Nat.le_of_ble_eq_true rfl⟩) (h_preR hK hPx 0 rfl rfl rfl) rfl rfl hl.1 rfl (lv_room (Nat.le_of_ble_eq_true rfl)) dL_law_736 ⟨Nat.le_of_ble_eq_true rfl, Nat.le_of_ble_eq_true rfl⟩)) (fun rx hrx => ?_)
  subst hrx
  refine lv_aload_n hx hb dL_law_739 rfl (lv_at hl 1 rfl) ?_
  refine lv_aload_n hx hb dL_law_740 rfl (lv_at hl 3 rfl) ?_
  refine lv_iload_n hx hb dL_law_741 rfl (lv_at hl 0 rfl) ?_
  refine lv_iconst (v := nI 1) hx hb dL_law_742 (by decide) ?_
  refine lv_iadd hx hb dL_law_743 ?_
  refine h_topi (y := nI (i + 1)) (nI_add _ _) ?_
  refine h_sld hx hb hX hbl hbA hS (i + 1) rfl (by omega) (by omega) dL_law_744 ?_
  refine vp_callSi (va_Run.run (va_runV (As := [.int (xs (i + 1))]) (rest := [.int (a_back S (xs (i + 1)))]) ⟨hx, hb, hml, hown, hts⟩ (m_X6_back l D om cI cJ cZ S h4 (xs (i + 1))) (cwV 1 hts gL_law_X6_back rfl rfl rfl (by decide +kernel) ⟨Nat.le_of_ble_eq_true rfl, Nat.le_of_ble_eq_true rfl⟩) (h_preR hK hPm 0 rfl rfl rfl) rfl rfl hl.1 rfl (lv_room (Nat.le_of_ble_eq_true rfl)) dL_law_745 ⟨Nat.le_of_ble_eq_true rfl, Nat.le_of_ble_eq_true rfl⟩)) (fun rm hrm => ?_)
  subst hrm
  refine lv_icmp_eq (tgt := 935) hx hb dL_law_748 (by decide) (fun _ => ?_) (fun c9 => absurd rfl c9)
  exact kk S H locs hI.mono hPx hPm hDx hDm hS
set_option maxHeartbeats 4000000 in
set_option maxRecDepth 100000 in
theorem lw_cut {pg : Program} {l : Launch} {ev : Env} {s : State} {mi : MethodId} {below : List Frame} {meth : Method} {cd : Code} {D : va_G} {ox om : Nat → Nat} {cI cJ cZ : ClassId} {b L : Nat} {xs : Nat → Int32} (C0 : lw_At pg s mi meth cd b L xs) (hK : va_K D vwCl (hg_ty cI cJ cZ) s) (hdj : ∀ i j, i < 26 → j < 21 → ox i ≠ om j) (hL : L ≤ 4096) {S : hg_S} {i k : Nat} (hI : hg_Inv S k) (hk : k ≤ 512) (hi : i + 8 ≤ L) {H : Heap} {locs : List Loc} {ls : Array Slot} (hPx : va_P D vwCl (xW ox cI cJ cZ S) H) (hPm : va_P D vwCl (mW om cI cJ cZ S) H) (hDx : va_D (fun q : Nat => s.heap.size ≤ q) (xW ox cI cJ cZ S)) (hDm : va_D (fun q : Nat => s.heap.size ≤ q) (mW om cI cJ cZ S)) (hS : va_S (fun q : Nat => s.heap.size ≤ q) s.heap H locs) (hl : lv_has ls 4 [(3, .int (nI i)), (2, .ref (om 0)), (1, .ref (ox 0)), (0, .ref b)]) (kk : ∀ (S' : hg_S) (H : Heap) (locs : List Loc), hg_Inv S' (k + 1) → va_P D vwCl (xW ox cI cJ cZ S') H → va_P D vwCl (mW om cI cJ cZ S') H → va_D (fun q : Nat => s.heap.size ≤ q) (xW ox cI cJ cZ S') → va_D (fun q : Nat => s.heap.size ≤ q) (mW om cI cJ cZ S') → va_S (fun q : Nat => s.heap.size ≤ q) s.heap H locs → W pg l ev room_1 s mi #[Value.ref b] below meth cd H locs 47 379 (lw_Z below #[Value.ref b] s) (F0 mi 935 ls [])) : W pg l ev room_1 s mi #[Value.ref b] below meth cd H locs 47 379 (lw_Z below #[Value.ref b] s) (F0 mi 753 ls []) := by
  obtain ⟨hx, hb, hr, hml, hown0, hts0, hX, hbl, hlocks, hgv⟩ := C0
  have hown : s.vm.findClass RL = some mi.cls := hown0
  have hts : ∀ w ∈ wsL_law, w.before #[Value.ref b] s = true := fun w h => hts0 w (wsL_law_in w h)
  have hA : ∀ q : Nat, s.heap.size ≤ q → (fun q : Nat => s.heap.size ≤ q) q := fun _ h => h
  have hbA : ¬ (fun q : Nat => s.heap.size ≤ q) b := Nat.not_le.mpr hbl
  obtain ⟨⟨⟨h0, h1, h2, hg3, h4, h5⟩, hkd, hbx, hlq, hfd, hcr⟩, hms, hag, hfr⟩ := id hI
  refine lv_aload_n hx hb dL_law_753 rfl (lv_at hl 2 rfl) ?_
  refine h_lcalli (w1 := xW ox cI cJ cZ ((r_cut S).2)) (wr := mW om cI cJ cZ S) (va_runV (As := []) (rest := []) ⟨hx, hb, hml, hown, hts⟩ (m_X5_cut l D ox cI cJ cZ S H.size h4 ) (cwV 0 hts gL_law_X5_cut rfl rfl rfl (by decide +kernel) ⟨Nat.le_of_ble_eq_true rfl, Nat.le_of_ble_eq_true rfl⟩) (h_preW hK hPx hDx 0 rfl rfl rfl) rfl rfl hl.1 rfl (lv_room (Nat.le_of_ble_eq_true rfl)) dL_law_754 ⟨Nat.le_of_ble_eq_true rfl, Nat.le_of_ble_eq_true rfl⟩) hS hA hDx hPm (dj_xm hdj) (fun rx H locs hrx hPx hPm hDx hS => ?_)
  subst hrx
  refine lv_aload_n hx hb dL_law_757 rfl (lv_at hl 1 rfl) ?_
  refine h_lcalli (w1 := mW om cI cJ cZ ((r_cut S).2)) (wr := xW ox cI cJ cZ ((r_cut S).2)) (va_runV (As := []) (rest := [.int ((r_cut S).1)]) ⟨hx, hb, hml, hown, hts⟩ (m_X6_cut l D om cI cJ cZ S H.size h4 ) (cwV 0 hts gL_law_X6_cut rfl rfl rfl (by decide +kernel) ⟨Nat.le_of_ble_eq_true rfl, Nat.le_of_ble_eq_true rfl⟩) (h_preW hK hPm hDm 0 rfl rfl rfl) rfl rfl hl.1 rfl (lv_room (Nat.le_of_ble_eq_true rfl)) dL_law_758 ⟨Nat.le_of_ble_eq_true rfl, Nat.le_of_ble_eq_true rfl⟩) hS hA hDm hPx (dj_mx hdj) (fun rm H locs hrm hPm hPx hDm hS => ?_)
  subst hrm
  refine lv_icmp_eq (tgt := 935) hx hb dL_law_761 (by decide) (fun _ => ?_) (fun c9 => absurd rfl c9)
  exact kk _ H locs (inv_cut hI ) hPx hPm hDx hDm hS
set_option maxHeartbeats 4000000 in
set_option maxRecDepth 100000 in
theorem lw_candidate {pg : Program} {l : Launch} {ev : Env} {s : State} {mi : MethodId} {below : List Frame} {meth : Method} {cd : Code} {D : va_G} {ox om : Nat → Nat} {cI cJ cZ : ClassId} {b L : Nat} {xs : Nat → Int32} (C0 : lw_At pg s mi meth cd b L xs) (hK : va_K D vwCl (hg_ty cI cJ cZ) s) (hdj : ∀ i j, i < 26 → j < 21 → ox i ≠ om j) (hL : L ≤ 4096) {S : hg_S} {i k : Nat} (hI : hg_Inv S k) (hk : k ≤ 512) (hi : i + 8 ≤ L) {H : Heap} {locs : List Loc} {ls : Array Slot} (hPx : va_P D vwCl (xW ox cI cJ cZ S) H) (hPm : va_P D vwCl (mW om cI cJ cZ S) H) (hDx : va_D (fun q : Nat => s.heap.size ≤ q) (xW ox cI cJ cZ S)) (hDm : va_D (fun q : Nat => s.heap.size ≤ q) (mW om cI cJ cZ S)) (hS : va_S (fun q : Nat => s.heap.size ≤ q) s.heap H locs) (hl : lv_has ls 4 [(3, .int (nI i)), (2, .ref (om 0)), (1, .ref (ox 0)), (0, .ref b)]) (kk : ∀ (S' : hg_S) (H : Heap) (locs : List Loc), hg_Inv S' (k + 1) → va_P D vwCl (xW ox cI cJ cZ S') H → va_P D vwCl (mW om cI cJ cZ S') H → va_D (fun q : Nat => s.heap.size ≤ q) (xW ox cI cJ cZ S') → va_D (fun q : Nat => s.heap.size ≤ q) (mW om cI cJ cZ S') → va_S (fun q : Nat => s.heap.size ≤ q) s.heap H locs → W pg l ev room_1 s mi #[Value.ref b] below meth cd H locs 47 379 (lw_Z below #[Value.ref b] s) (F0 mi 935 ls [])) : W pg l ev room_1 s mi #[Value.ref b] below meth cd H locs 47 379 (lw_Z below #[Value.ref b] s) (F0 mi 766 ls []) := by
  obtain ⟨hx, hb, hr, hml, hown0, hts0, hX, hbl, hlocks, hgv⟩ := C0
  have hown : s.vm.findClass RL = some mi.cls := hown0
  have hts : ∀ w ∈ wsL_law, w.before #[Value.ref b] s = true := fun w h => hts0 w (wsL_law_in w h)
  have hA : ∀ q : Nat, s.heap.size ≤ q → (fun q : Nat => s.heap.size ≤ q) q := fun _ h => h
  have hbA : ¬ (fun q : Nat => s.heap.size ≤ q) b := Nat.not_le.mpr hbl
  obtain ⟨⟨⟨h0, h1, h2, hg3, h4, h5⟩, hkd, hbx, hlq, hfd, hcr⟩, hms, hag, hfr⟩ := id hI
  refine lv_aload_n hx hb dL_law_766 rfl (lv_at hl 2 rfl) ?_
  refine lv_aload_n hx hb dL_law_767 rfl (lv_at hl 3 rfl) ?_
  refine lv_iload_n hx hb dL_law_768 rfl (lv_at hl 0 rfl) ?_
  refine lv_iconst (v := nI 1) hx hb dL_law_769 (by decide) ?_
  refine lv_iadd hx hb dL_law_770 ?_
  refine h_topi (y := nI (i + 1)) (nI_add _ _) ?_
  refine h_sld hx hb hX hbl hbA hS (i + 1) rfl (by omega) (by omega) dL_law_771 ?_
  refine lv_aload_n hx hb dL_law_772 rfl (lv_at hl 3 rfl) ?_
  refine lv_iload_n hx hb dL_law_773 rfl (lv_at hl 0 rfl) ?_
  refine lv_iconst (v := nI 2) hx hb dL_law_774 (by decide) ?_
  refine lv_iadd hx hb dL_law_775 ?_
  refine h_topi (y := nI (i + 2)) (nI_add _ _) ?_
  refine h_sld hx hb hX hbl hbA hS (i + 2) rfl (by omega) (by omega) dL_law_776 ?_
  refine lv_aload_n hx hb dL_law_777 rfl (lv_at hl 3 rfl) ?_
  refine lv_iload_n hx hb dL_law_778 rfl (lv_at hl 0 rfl) ?_
  refine lv_iconst (v := nI 3) hx hb dL_law_779 (by decide) ?_
  refine lv_iadd hx hb dL_law_780 ?_
  refine h_topi (y := nI (i + 3)) (nI_add _ _) ?_
  refine h_sld hx hb hX hbl hbA hS (i + 3) rfl (by omega) (by omega) dL_law_781 ?_
  refine h_lcalli (w1 := xW ox cI cJ cZ ((r_cand S (xs (i + 1)) (xs (i + 2)) (xs (i + 3))).2)) (wr := mW om cI cJ cZ S) (va_runV (As := [.int (xs (i + 1)), .int (xs (i + 2)), .int (xs (i + 3))]) (rest := []) ⟨hx, hb, hml, hown, hts⟩ (m_X5_candidate l D ox cI cJ cZ S H.size h5 (xs (i + 1)) (xs (i + 2)) (xs (i + 3))) (cwV 3 hts gL_law_X5_candidate rfl rfl rfl (by decide +kernel) ⟨Nat.le_of_ble_eq_true rfl, Nat.le_of_ble_eq_true rfl⟩) (h_preW hK hPx hDx 0 rfl rfl rfl) rfl rfl hl.1 rfl (lv_room (Nat.le_of_ble_eq_true rfl)) dL_law_782 ⟨Nat.le_of_ble_eq_true rfl, Nat.le_of_ble_eq_true rfl⟩) hS hA hDx hPm (dj_xm hdj) (fun rx H locs hrx hPx hPm hDx hS => ?_)
  subst hrx
  refine lv_aload_n hx hb dL_law_785 rfl (lv_at hl 1 rfl) ?_
  refine lv_aload_n hx hb dL_law_786 rfl (lv_at hl 3 rfl) ?_
  refine lv_iload_n hx hb dL_law_787 rfl (lv_at hl 0 rfl) ?_
  refine lv_iconst (v := nI 1) hx hb dL_law_788 (by decide) ?_
  refine lv_iadd hx hb dL_law_789 ?_
  refine h_topi (y := nI (i + 1)) (nI_add _ _) ?_
  refine h_sld hx hb hX hbl hbA hS (i + 1) rfl (by omega) (by omega) dL_law_790 ?_
  refine lv_aload_n hx hb dL_law_791 rfl (lv_at hl 3 rfl) ?_
  refine lv_iload_n hx hb dL_law_792 rfl (lv_at hl 0 rfl) ?_
  refine lv_iconst (v := nI 2) hx hb dL_law_793 (by decide) ?_
  refine lv_iadd hx hb dL_law_794 ?_
  refine h_topi (y := nI (i + 2)) (nI_add _ _) ?_
  refine h_sld hx hb hX hbl hbA hS (i + 2) rfl (by omega) (by omega) dL_law_795 ?_
  refine lv_aload_n hx hb dL_law_796 rfl (lv_at hl 3 rfl) ?_
  refine lv_iload_n hx hb dL_law_797 rfl (lv_at hl 0 rfl) ?_
  refine lv_iconst (v := nI 3) hx hb dL_law_798 (by decide) ?_
  refine lv_iadd hx hb dL_law_799 ?_
  refine h_topi (y := nI (i + 3)) (nI_add _ _) ?_
  refine h_sld hx hb hX hbl hbA hS (i + 3) rfl (by omega) (by omega) dL_law_800 ?_
  refine h_lcalli (w1 := mW om cI cJ cZ ((r_cand S (xs (i + 1)) (xs (i + 2)) (xs (i + 3))).2)) (wr := xW ox cI cJ cZ ((r_cand S (xs (i + 1)) (xs (i + 2)) (xs (i + 3))).2)) (va_runV (As := [.int (xs (i + 1)), .int (xs (i + 2)), .int (xs (i + 3))]) (rest := [.int ((r_cand S (xs (i + 1)) (xs (i + 2)) (xs (i + 3))).1)]) ⟨hx, hb, hml, hown, hts⟩ (m_X6_candidate l D om cI cJ cZ S H.size h5 (xs (i + 1)) (xs (i + 2)) (xs (i + 3))) (cwV 3 hts gL_law_X6_candidate rfl rfl rfl (by decide +kernel) ⟨Nat.le_of_ble_eq_true rfl, Nat.le_of_ble_eq_true rfl⟩) (h_preW hK hPm hDm 0 rfl rfl rfl) rfl rfl hl.1 rfl (lv_room (Nat.le_of_ble_eq_true rfl)) dL_law_801 ⟨Nat.le_of_ble_eq_true rfl, Nat.le_of_ble_eq_true rfl⟩) hS hA hDm hPx (dj_mx hdj) (fun rm H locs hrm hPm hPx hDm hS => ?_)
  subst hrm
  refine lv_icmp_eq (tgt := 935) hx hb dL_law_804 (by decide) (fun _ => ?_) (fun c9 => absurd rfl c9)
  exact kk _ H locs (inv_cand hI (xs (i + 1)) (xs (i + 2)) (xs (i + 3))) hPx hPm hDx hDm hS
set_option maxHeartbeats 4000000 in
set_option maxRecDepth 100000 in
theorem lw_promise {pg : Program} {l : Launch} {ev : Env} {s : State} {mi : MethodId} {below : List Frame} {meth : Method} {cd : Code} {D : va_G} {ox om : Nat → Nat} {cI cJ cZ : ClassId} {b L : Nat} {xs : Nat → Int32} (C0 : lw_At pg s mi meth cd b L xs) (hK : va_K D vwCl (hg_ty cI cJ cZ) s) (hdj : ∀ i j, i < 26 → j < 21 → ox i ≠ om j) (hL : L ≤ 4096) {S : hg_S} {i k : Nat} (hI : hg_Inv S k) (hk : k ≤ 512) (hi : i + 8 ≤ L) {H : Heap} {locs : List Loc} {ls : Array Slot} (hPx : va_P D vwCl (xW ox cI cJ cZ S) H) (hPm : va_P D vwCl (mW om cI cJ cZ S) H) (hDx : va_D (fun q : Nat => s.heap.size ≤ q) (xW ox cI cJ cZ S)) (hDm : va_D (fun q : Nat => s.heap.size ≤ q) (mW om cI cJ cZ S)) (hS : va_S (fun q : Nat => s.heap.size ≤ q) s.heap H locs) (hl : lv_has ls 4 [(3, .int (nI i)), (2, .ref (om 0)), (1, .ref (ox 0)), (0, .ref b)]) (kk : ∀ (S' : hg_S) (H : Heap) (locs : List Loc), hg_Inv S' (k + 1) → va_P D vwCl (xW ox cI cJ cZ S') H → va_P D vwCl (mW om cI cJ cZ S') H → va_D (fun q : Nat => s.heap.size ≤ q) (xW ox cI cJ cZ S') → va_D (fun q : Nat => s.heap.size ≤ q) (mW om cI cJ cZ S') → va_S (fun q : Nat => s.heap.size ≤ q) s.heap H locs → W pg l ev room_1 s mi #[Value.ref b] below meth cd H locs 47 379 (lw_Z below #[Value.ref b] s) (F0 mi 935 ls [])) : W pg l ev room_1 s mi #[Value.ref b] below meth cd H locs 47 379 (lw_Z below #[Value.ref b] s) (F0 mi 809 ls []) := by
  obtain ⟨hx, hb, hr, hml, hown0, hts0, hX, hbl, hlocks, hgv⟩ := C0
  have hown : s.vm.findClass RL = some mi.cls := hown0
  have hts : ∀ w ∈ wsL_law, w.before #[Value.ref b] s = true := fun w h => hts0 w (wsL_law_in w h)
  have hA : ∀ q : Nat, s.heap.size ≤ q → (fun q : Nat => s.heap.size ≤ q) q := fun _ h => h
  have hbA : ¬ (fun q : Nat => s.heap.size ≤ q) b := Nat.not_le.mpr hbl
  obtain ⟨⟨⟨h0, h1, h2, hg3, h4, h5⟩, hkd, hbx, hlq, hfd, hcr⟩, hms, hag, hfr⟩ := id hI
  refine lv_aload_n hx hb dL_law_809 rfl (lv_at hl 2 rfl) ?_
  refine lv_aload_n hx hb dL_law_810 rfl (lv_at hl 3 rfl) ?_
  refine lv_iload_n hx hb dL_law_811 rfl (lv_at hl 0 rfl) ?_
  refine lv_iconst (v := nI 1) hx hb dL_law_812 (by decide) ?_
  refine lv_iadd hx hb dL_law_813 ?_
  refine h_topi (y := nI (i + 1)) (nI_add _ _) ?_
  refine h_sld hx hb hX hbl hbA hS (i + 1) rfl (by omega) (by omega) dL_law_814 ?_
  refine lv_aload_n hx hb dL_law_815 rfl (lv_at hl 3 rfl) ?_
  refine lv_iload_n hx hb dL_law_816 rfl (lv_at hl 0 rfl) ?_
  refine lv_iconst (v := nI 2) hx hb dL_law_817 (by decide) ?_
  refine lv_iadd hx hb dL_law_818 ?_
  refine h_topi (y := nI (i + 2)) (nI_add _ _) ?_
  refine h_sld hx hb hX hbl hbA hS (i + 2) rfl (by omega) (by omega) dL_law_819 ?_
  refine h_lcalli (w1 := xW ox cI cJ cZ ((r_prom S (xs (i + 1)) (xs (i + 2))).2)) (wr := mW om cI cJ cZ S) (va_runV (As := [.int (xs (i + 1)), .int (xs (i + 2))]) (rest := []) ⟨hx, hb, hml, hown, hts⟩ (m_X5_promise l D ox cI cJ cZ S H.size  (xs (i + 1)) (xs (i + 2))) (cwV 2 hts gL_law_X5_promise rfl rfl rfl (by decide +kernel) ⟨Nat.le_of_ble_eq_true rfl, Nat.le_of_ble_eq_true rfl⟩) (h_preW hK hPx hDx 0 rfl rfl rfl) rfl rfl hl.1 rfl (lv_room (Nat.le_of_ble_eq_true rfl)) dL_law_820 ⟨Nat.le_of_ble_eq_true rfl, Nat.le_of_ble_eq_true rfl⟩) hS hA hDx hPm (dj_xm hdj) (fun rx H locs hrx hPx hPm hDx hS => ?_)
  subst hrx
  refine lv_aload_n hx hb dL_law_823 rfl (lv_at hl 1 rfl) ?_
  refine lv_aload_n hx hb dL_law_824 rfl (lv_at hl 3 rfl) ?_
  refine lv_iload_n hx hb dL_law_825 rfl (lv_at hl 0 rfl) ?_
  refine lv_iconst (v := nI 1) hx hb dL_law_826 (by decide) ?_
  refine lv_iadd hx hb dL_law_827 ?_
  refine h_topi (y := nI (i + 1)) (nI_add _ _) ?_
  refine h_sld hx hb hX hbl hbA hS (i + 1) rfl (by omega) (by omega) dL_law_828 ?_
  refine lv_aload_n hx hb dL_law_829 rfl (lv_at hl 3 rfl) ?_
  refine lv_iload_n hx hb dL_law_830 rfl (lv_at hl 0 rfl) ?_
  refine lv_iconst (v := nI 2) hx hb dL_law_831 (by decide) ?_
  refine lv_iadd hx hb dL_law_832 ?_
  refine h_topi (y := nI (i + 2)) (nI_add _ _) ?_
  refine h_sld hx hb hX hbl hbA hS (i + 2) rfl (by omega) (by omega) dL_law_833 ?_
  refine h_lcalli (w1 := mW om cI cJ cZ ((r_prom S (xs (i + 1)) (xs (i + 2))).2)) (wr := xW ox cI cJ cZ ((r_prom S (xs (i + 1)) (xs (i + 2))).2)) (va_runV (As := [.int (xs (i + 1)), .int (xs (i + 2))]) (rest := [.int ((r_prom S (xs (i + 1)) (xs (i + 2))).1)]) ⟨hx, hb, hml, hown, hts⟩ (m_X6_promise l D om cI cJ cZ S H.size  (xs (i + 1)) (xs (i + 2))) (cwV 2 hts gL_law_X6_promise rfl rfl rfl (by decide +kernel) ⟨Nat.le_of_ble_eq_true rfl, Nat.le_of_ble_eq_true rfl⟩) (h_preW hK hPm hDm 0 rfl rfl rfl) rfl rfl hl.1 rfl (lv_room (Nat.le_of_ble_eq_true rfl)) dL_law_834 ⟨Nat.le_of_ble_eq_true rfl, Nat.le_of_ble_eq_true rfl⟩) hS hA hDm hPx (dj_mx hdj) (fun rm H locs hrm hPm hPx hDm hS => ?_)
  subst hrm
  refine lv_icmp_eq (tgt := 935) hx hb dL_law_837 (by decide) (fun _ => ?_) (fun c9 => absurd rfl c9)
  exact kk _ H locs (inv_prom hI (xs (i + 1)) (xs (i + 2))) hPx hPm hDx hDm hS
set_option maxHeartbeats 4000000 in
set_option maxRecDepth 100000 in
theorem lw_plan {pg : Program} {l : Launch} {ev : Env} {s : State} {mi : MethodId} {below : List Frame} {meth : Method} {cd : Code} {D : va_G} {ox om : Nat → Nat} {cI cJ cZ : ClassId} {b L : Nat} {xs : Nat → Int32} (C0 : lw_At pg s mi meth cd b L xs) (hK : va_K D vwCl (hg_ty cI cJ cZ) s) (hdj : ∀ i j, i < 26 → j < 21 → ox i ≠ om j) (hL : L ≤ 4096) {S : hg_S} {i k : Nat} (hI : hg_Inv S k) (hk : k ≤ 512) (hi : i + 8 ≤ L) {H : Heap} {locs : List Loc} {ls : Array Slot} (hPx : va_P D vwCl (xW ox cI cJ cZ S) H) (hPm : va_P D vwCl (mW om cI cJ cZ S) H) (hDx : va_D (fun q : Nat => s.heap.size ≤ q) (xW ox cI cJ cZ S)) (hDm : va_D (fun q : Nat => s.heap.size ≤ q) (mW om cI cJ cZ S)) (hS : va_S (fun q : Nat => s.heap.size ≤ q) s.heap H locs) (hl : lv_has ls 4 [(3, .int (nI i)), (2, .ref (om 0)), (1, .ref (ox 0)), (0, .ref b)]) (kk : ∀ (S' : hg_S) (H : Heap) (locs : List Loc), hg_Inv S' (k + 1) → va_P D vwCl (xW ox cI cJ cZ S') H → va_P D vwCl (mW om cI cJ cZ S') H → va_D (fun q : Nat => s.heap.size ≤ q) (xW ox cI cJ cZ S') → va_D (fun q : Nat => s.heap.size ≤ q) (mW om cI cJ cZ S') → va_S (fun q : Nat => s.heap.size ≤ q) s.heap H locs → W pg l ev room_1 s mi #[Value.ref b] below meth cd H locs 47 379 (lw_Z below #[Value.ref b] s) (F0 mi 935 ls [])) : W pg l ev room_1 s mi #[Value.ref b] below meth cd H locs 47 379 (lw_Z below #[Value.ref b] s) (F0 mi 842 ls []) := by
  obtain ⟨hx, hb, hr, hml, hown0, hts0, hX, hbl, hlocks, hgv⟩ := C0
  have hown : s.vm.findClass RL = some mi.cls := hown0
  have hts : ∀ w ∈ wsL_law, w.before #[Value.ref b] s = true := fun w h => hts0 w (wsL_law_in w h)
  have hA : ∀ q : Nat, s.heap.size ≤ q → (fun q : Nat => s.heap.size ≤ q) q := fun _ h => h
  have hbA : ¬ (fun q : Nat => s.heap.size ≤ q) b := Nat.not_le.mpr hbl
  obtain ⟨⟨⟨h0, h1, h2, hg3, h4, h5⟩, hkd, hbx, hlq, hfd, hcr⟩, hms, hag, hfr⟩ := id hI
  refine lv_aload_n hx hb dL_law_842 rfl (lv_at hl 2 rfl) ?_
  refine lv_aload_n hx hb dL_law_843 rfl (lv_at hl 3 rfl) ?_
  refine lv_iload_n hx hb dL_law_844 rfl (lv_at hl 0 rfl) ?_
  refine lv_iconst (v := nI 1) hx hb dL_law_845 (by decide) ?_
  refine lv_iadd hx hb dL_law_846 ?_
  refine h_topi (y := nI (i + 1)) (nI_add _ _) ?_
  refine h_sld hx hb hX hbl hbA hS (i + 1) rfl (by omega) (by omega) dL_law_847 ?_
  refine vp_callSi (va_Run.run (va_runV (As := [.int (xs (i + 1))]) (rest := []) ⟨hx, hb, hml, hown, hts⟩ (m_X5_plan l D ox cI cJ cZ S h5 (xs (i + 1))) (cwV 1 hts gL_law_X5_plan rfl rfl rfl (by decide +kernel) ⟨Nat.le_of_ble_eq_true rfl, Nat.le_of_ble_eq_true rfl⟩) (h_preR hK hPx 0 rfl rfl rfl) rfl rfl hl.1 rfl (lv_room (Nat.le_of_ble_eq_true rfl)) dL_law_848 ⟨Nat.le_of_ble_eq_true rfl, Nat.le_of_ble_eq_true rfl⟩)) (fun rx hrx => ?_)
  subst hrx
  refine lv_aload_n hx hb dL_law_851 rfl (lv_at hl 1 rfl) ?_
  refine lv_aload_n hx hb dL_law_852 rfl (lv_at hl 3 rfl) ?_
  refine lv_iload_n hx hb dL_law_853 rfl (lv_at hl 0 rfl) ?_
  refine lv_iconst (v := nI 1) hx hb dL_law_854 (by decide) ?_
  refine lv_iadd hx hb dL_law_855 ?_
  refine h_topi (y := nI (i + 1)) (nI_add _ _) ?_
  refine h_sld hx hb hX hbl hbA hS (i + 1) rfl (by omega) (by omega) dL_law_856 ?_
  refine vp_callSi (va_Run.run (va_runV (As := [.int (xs (i + 1))]) (rest := [.int (a_plan S (xs (i + 1)))]) ⟨hx, hb, hml, hown, hts⟩ (m_X6_plan l D om cI cJ cZ S h5 (xs (i + 1))) (cwV 1 hts gL_law_X6_plan rfl rfl rfl (by decide +kernel) ⟨Nat.le_of_ble_eq_true rfl, Nat.le_of_ble_eq_true rfl⟩) (h_preR hK hPm 0 rfl rfl rfl) rfl rfl hl.1 rfl (lv_room (Nat.le_of_ble_eq_true rfl)) dL_law_857 ⟨Nat.le_of_ble_eq_true rfl, Nat.le_of_ble_eq_true rfl⟩)) (fun rm hrm => ?_)
  subst hrm
  refine lv_icmp_eq (tgt := 935) hx hb dL_law_860 (by decide) (fun _ => ?_) (fun c9 => absurd rfl c9)
  exact kk S H locs hI.mono hPx hPm hDx hDm hS
set_option maxHeartbeats 4000000 in
set_option maxRecDepth 100000 in
theorem lw_lacks {pg : Program} {l : Launch} {ev : Env} {s : State} {mi : MethodId} {below : List Frame} {meth : Method} {cd : Code} {D : va_G} {ox om : Nat → Nat} {cI cJ cZ : ClassId} {b L : Nat} {xs : Nat → Int32} (C0 : lw_At pg s mi meth cd b L xs) (hK : va_K D vwCl (hg_ty cI cJ cZ) s) (hdj : ∀ i j, i < 26 → j < 21 → ox i ≠ om j) (hL : L ≤ 4096) {S : hg_S} {i k : Nat} (hI : hg_Inv S k) (hk : k ≤ 512) (hi : i + 8 ≤ L) {H : Heap} {locs : List Loc} {ls : Array Slot} (hPx : va_P D vwCl (xW ox cI cJ cZ S) H) (hPm : va_P D vwCl (mW om cI cJ cZ S) H) (hDx : va_D (fun q : Nat => s.heap.size ≤ q) (xW ox cI cJ cZ S)) (hDm : va_D (fun q : Nat => s.heap.size ≤ q) (mW om cI cJ cZ S)) (hS : va_S (fun q : Nat => s.heap.size ≤ q) s.heap H locs) (hl : lv_has ls 4 [(3, .int (nI i)), (2, .ref (om 0)), (1, .ref (ox 0)), (0, .ref b)]) (kk : ∀ (S' : hg_S) (H : Heap) (locs : List Loc), hg_Inv S' (k + 1) → va_P D vwCl (xW ox cI cJ cZ S') H → va_P D vwCl (mW om cI cJ cZ S') H → va_D (fun q : Nat => s.heap.size ≤ q) (xW ox cI cJ cZ S') → va_D (fun q : Nat => s.heap.size ≤ q) (mW om cI cJ cZ S') → va_S (fun q : Nat => s.heap.size ≤ q) s.heap H locs → W pg l ev room_1 s mi #[Value.ref b] below meth cd H locs 47 379 (lw_Z below #[Value.ref b] s) (F0 mi 935 ls [])) : W pg l ev room_1 s mi #[Value.ref b] below meth cd H locs 47 379 (lw_Z below #[Value.ref b] s) (F0 mi 865 ls []) := by
  obtain ⟨hx, hb, hr, hml, hown0, hts0, hX, hbl, hlocks, hgv⟩ := C0
  have hown : s.vm.findClass RL = some mi.cls := hown0
  have hts : ∀ w ∈ wsL_law, w.before #[Value.ref b] s = true := fun w h => hts0 w (wsL_law_in w h)
  have hA : ∀ q : Nat, s.heap.size ≤ q → (fun q : Nat => s.heap.size ≤ q) q := fun _ h => h
  have hbA : ¬ (fun q : Nat => s.heap.size ≤ q) b := Nat.not_le.mpr hbl
  obtain ⟨⟨⟨h0, h1, h2, hg3, h4, h5⟩, hkd, hbx, hlq, hfd, hcr⟩, hms, hag, hfr⟩ := id hI
  refine lv_aload_n hx hb dL_law_865 rfl (lv_at hl 2 rfl) ?_
  refine lv_aload_n hx hb dL_law_866 rfl (lv_at hl 3 rfl) ?_
  refine lv_iload_n hx hb dL_law_867 rfl (lv_at hl 0 rfl) ?_
  refine lv_iconst (v := nI 1) hx hb dL_law_868 (by decide) ?_
  refine lv_iadd hx hb dL_law_869 ?_
  refine h_topi (y := nI (i + 1)) (nI_add _ _) ?_
  refine h_sld hx hb hX hbl hbA hS (i + 1) rfl (by omega) (by omega) dL_law_870 ?_
  refine lv_aload_n hx hb dL_law_871 rfl (lv_at hl 3 rfl) ?_
  refine lv_iload_n hx hb dL_law_872 rfl (lv_at hl 0 rfl) ?_
  refine lv_iconst (v := nI 2) hx hb dL_law_873 (by decide) ?_
  refine lv_iadd hx hb dL_law_874 ?_
  refine h_topi (y := nI (i + 2)) (nI_add _ _) ?_
  refine h_sld hx hb hX hbl hbA hS (i + 2) rfl (by omega) (by omega) dL_law_875 ?_
  refine vp_callSi (va_Run.run (va_runV (As := [.int (xs (i + 1)), .int (xs (i + 2))]) (rest := []) ⟨hx, hb, hml, hown, hts⟩ (m_X5_lacks l D ox cI cJ cZ S h5 (xs (i + 1)) (xs (i + 2))) (cwV 2 hts gL_law_X5_lacks rfl rfl rfl (by decide +kernel) ⟨Nat.le_of_ble_eq_true rfl, Nat.le_of_ble_eq_true rfl⟩) (h_preR hK hPx 0 rfl rfl rfl) rfl rfl hl.1 rfl (lv_room (Nat.le_of_ble_eq_true rfl)) dL_law_876 ⟨Nat.le_of_ble_eq_true rfl, Nat.le_of_ble_eq_true rfl⟩)) (fun rx hrx => ?_)
  subst hrx
  refine lv_aload_n hx hb dL_law_879 rfl (lv_at hl 1 rfl) ?_
  refine lv_aload_n hx hb dL_law_880 rfl (lv_at hl 3 rfl) ?_
  refine lv_iload_n hx hb dL_law_881 rfl (lv_at hl 0 rfl) ?_
  refine lv_iconst (v := nI 1) hx hb dL_law_882 (by decide) ?_
  refine lv_iadd hx hb dL_law_883 ?_
  refine h_topi (y := nI (i + 1)) (nI_add _ _) ?_
  refine h_sld hx hb hX hbl hbA hS (i + 1) rfl (by omega) (by omega) dL_law_884 ?_
  refine lv_aload_n hx hb dL_law_885 rfl (lv_at hl 3 rfl) ?_
  refine lv_iload_n hx hb dL_law_886 rfl (lv_at hl 0 rfl) ?_
  refine lv_iconst (v := nI 2) hx hb dL_law_887 (by decide) ?_
  refine lv_iadd hx hb dL_law_888 ?_
  refine h_topi (y := nI (i + 2)) (nI_add _ _) ?_
  refine h_sld hx hb hX hbl hbA hS (i + 2) rfl (by omega) (by omega) dL_law_889 ?_
  refine vp_callSi (va_Run.run (va_runV (As := [.int (xs (i + 1)), .int (xs (i + 2))]) (rest := [.int (a_lacks S (xs (i + 1)) (xs (i + 2)))]) ⟨hx, hb, hml, hown, hts⟩ (m_X6_lacks l D om cI cJ cZ S h5 (xs (i + 1)) (xs (i + 2))) (cwV 2 hts gL_law_X6_lacks rfl rfl rfl (by decide +kernel) ⟨Nat.le_of_ble_eq_true rfl, Nat.le_of_ble_eq_true rfl⟩) (h_preR hK hPm 0 rfl rfl rfl) rfl rfl hl.1 rfl (lv_room (Nat.le_of_ble_eq_true rfl)) dL_law_890 ⟨Nat.le_of_ble_eq_true rfl, Nat.le_of_ble_eq_true rfl⟩)) (fun rm hrm => ?_)
  subst hrm
  refine lv_icmp_eq (tgt := 935) hx hb dL_law_893 (by decide) (fun _ => ?_) (fun c9 => absurd rfl c9)
  exact kk S H locs hI.mono hPx hPm hDx hDm hS
set_option maxHeartbeats 4000000 in
set_option maxRecDepth 100000 in
theorem lw_count {pg : Program} {l : Launch} {ev : Env} {s : State} {mi : MethodId} {below : List Frame} {meth : Method} {cd : Code} {D : va_G} {ox om : Nat → Nat} {cI cJ cZ : ClassId} {b L : Nat} {xs : Nat → Int32} (C0 : lw_At pg s mi meth cd b L xs) (hK : va_K D vwCl (hg_ty cI cJ cZ) s) (hdj : ∀ i j, i < 26 → j < 21 → ox i ≠ om j) (hL : L ≤ 4096) {S : hg_S} {i k : Nat} (hI : hg_Inv S k) (hk : k ≤ 512) (hi : i + 8 ≤ L) {H : Heap} {locs : List Loc} {ls : Array Slot} (hPx : va_P D vwCl (xW ox cI cJ cZ S) H) (hPm : va_P D vwCl (mW om cI cJ cZ S) H) (hDx : va_D (fun q : Nat => s.heap.size ≤ q) (xW ox cI cJ cZ S)) (hDm : va_D (fun q : Nat => s.heap.size ≤ q) (mW om cI cJ cZ S)) (hS : va_S (fun q : Nat => s.heap.size ≤ q) s.heap H locs) (hl : lv_has ls 4 [(3, .int (nI i)), (2, .ref (om 0)), (1, .ref (ox 0)), (0, .ref b)]) (kk : ∀ (S' : hg_S) (H : Heap) (locs : List Loc), hg_Inv S' (k + 1) → va_P D vwCl (xW ox cI cJ cZ S') H → va_P D vwCl (mW om cI cJ cZ S') H → va_D (fun q : Nat => s.heap.size ≤ q) (xW ox cI cJ cZ S') → va_D (fun q : Nat => s.heap.size ≤ q) (mW om cI cJ cZ S') → va_S (fun q : Nat => s.heap.size ≤ q) s.heap H locs → W pg l ev room_1 s mi #[Value.ref b] below meth cd H locs 47 379 (lw_Z below #[Value.ref b] s) (F0 mi 935 ls [])) : W pg l ev room_1 s mi #[Value.ref b] below meth cd H locs 47 379 (lw_Z below #[Value.ref b] s) (F0 mi 898 ls []) := by
  obtain ⟨hx, hb, hr, hml, hown0, hts0, hX, hbl, hlocks, hgv⟩ := C0
  have hown : s.vm.findClass RL = some mi.cls := hown0
  have hts : ∀ w ∈ wsL_law, w.before #[Value.ref b] s = true := fun w h => hts0 w (wsL_law_in w h)
  have hA : ∀ q : Nat, s.heap.size ≤ q → (fun q : Nat => s.heap.size ≤ q) q := fun _ h => h
  have hbA : ¬ (fun q : Nat => s.heap.size ≤ q) b := Nat.not_le.mpr hbl
  obtain ⟨⟨⟨h0, h1, h2, hg3, h4, h5⟩, hkd, hbx, hlq, hfd, hcr⟩, hms, hag, hfr⟩ := id hI
  refine lv_aload_n hx hb dL_law_898 rfl (lv_at hl 2 rfl) ?_
  refine lv_aload_n hx hb dL_law_899 rfl (lv_at hl 3 rfl) ?_
  refine lv_iload_n hx hb dL_law_900 rfl (lv_at hl 0 rfl) ?_
  refine lv_iconst (v := nI 1) hx hb dL_law_901 (by decide) ?_
  refine lv_iadd hx hb dL_law_902 ?_
  refine h_topi (y := nI (i + 1)) (nI_add _ _) ?_
  refine h_sld hx hb hX hbl hbA hS (i + 1) rfl (by omega) (by omega) dL_law_903 ?_
  refine vp_callSi (va_Run.run (va_runV (As := [.int (xs (i + 1))]) (rest := []) ⟨hx, hb, hml, hown, hts⟩ (m_X5_count l D ox cI cJ cZ S h0 h1 (xs (i + 1))) (cwV 1 hts gL_law_X5_count rfl rfl rfl (by decide +kernel) ⟨Nat.le_of_ble_eq_true rfl, Nat.le_of_ble_eq_true rfl⟩) (h_preR hK hPx 0 rfl rfl rfl) rfl rfl hl.1 rfl (lv_room (Nat.le_of_ble_eq_true rfl)) dL_law_904 ⟨Nat.le_of_ble_eq_true rfl, Nat.le_of_ble_eq_true rfl⟩)) (fun rx hrx => ?_)
  subst hrx
  refine lv_aload_n hx hb dL_law_907 rfl (lv_at hl 1 rfl) ?_
  refine lv_aload_n hx hb dL_law_908 rfl (lv_at hl 3 rfl) ?_
  refine lv_iload_n hx hb dL_law_909 rfl (lv_at hl 0 rfl) ?_
  refine lv_iconst (v := nI 1) hx hb dL_law_910 (by decide) ?_
  refine lv_iadd hx hb dL_law_911 ?_
  refine h_topi (y := nI (i + 1)) (nI_add _ _) ?_
  refine h_sld hx hb hX hbl hbA hS (i + 1) rfl (by omega) (by omega) dL_law_912 ?_
  refine vp_callSi (va_Run.run (va_runV (As := [.int (xs (i + 1))]) (rest := [.int (a_count S (xs (i + 1)))]) ⟨hx, hb, hml, hown, hts⟩ (m_X6_count l D om cI cJ cZ S h0 h1 (xs (i + 1))) (cwV 1 hts gL_law_X6_count rfl rfl rfl (by decide +kernel) ⟨Nat.le_of_ble_eq_true rfl, Nat.le_of_ble_eq_true rfl⟩) (h_preR hK hPm 0 rfl rfl rfl) rfl rfl hl.1 rfl (lv_room (Nat.le_of_ble_eq_true rfl)) dL_law_913 ⟨Nat.le_of_ble_eq_true rfl, Nat.le_of_ble_eq_true rfl⟩)) (fun rm hrm => ?_)
  subst hrm
  refine lv_icmp_eq (tgt := 935) hx hb dL_law_916 (by decide) (fun _ => ?_) (fun c9 => absurd rfl c9)
  exact kk S H locs hI.mono hPx hPm hDx hDm hS
set_option maxHeartbeats 4000000 in
set_option maxRecDepth 100000 in
theorem lw_trace {pg : Program} {l : Launch} {ev : Env} {s : State} {mi : MethodId} {below : List Frame} {meth : Method} {cd : Code} {D : va_G} {ox om : Nat → Nat} {cI cJ cZ : ClassId} {b L : Nat} {xs : Nat → Int32} (C0 : lw_At pg s mi meth cd b L xs) (hK : va_K D vwCl (hg_ty cI cJ cZ) s) (hdj : ∀ i j, i < 26 → j < 21 → ox i ≠ om j) (hL : L ≤ 4096) {S : hg_S} {i k : Nat} (hI : hg_Inv S k) (hk : k ≤ 512) (hi : i + 8 ≤ L) {H : Heap} {locs : List Loc} {ls : Array Slot} (hPx : va_P D vwCl (xW ox cI cJ cZ S) H) (hPm : va_P D vwCl (mW om cI cJ cZ S) H) (hDx : va_D (fun q : Nat => s.heap.size ≤ q) (xW ox cI cJ cZ S)) (hDm : va_D (fun q : Nat => s.heap.size ≤ q) (mW om cI cJ cZ S)) (hS : va_S (fun q : Nat => s.heap.size ≤ q) s.heap H locs) (hl : lv_has ls 4 [(3, .int (nI i)), (2, .ref (om 0)), (1, .ref (ox 0)), (0, .ref b)]) (kk : ∀ (S' : hg_S) (H : Heap) (locs : List Loc), hg_Inv S' (k + 1) → va_P D vwCl (xW ox cI cJ cZ S') H → va_P D vwCl (mW om cI cJ cZ S') H → va_D (fun q : Nat => s.heap.size ≤ q) (xW ox cI cJ cZ S') → va_D (fun q : Nat => s.heap.size ≤ q) (mW om cI cJ cZ S') → va_S (fun q : Nat => s.heap.size ≤ q) s.heap H locs → W pg l ev room_1 s mi #[Value.ref b] below meth cd H locs 47 379 (lw_Z below #[Value.ref b] s) (F0 mi 935 ls [])) : W pg l ev room_1 s mi #[Value.ref b] below meth cd H locs 47 379 (lw_Z below #[Value.ref b] s) (F0 mi 921 ls []) := by
  obtain ⟨hx, hb, hr, hml, hown0, hts0, hX, hbl, hlocks, hgv⟩ := C0
  have hown : s.vm.findClass RL = some mi.cls := hown0
  have hts : ∀ w ∈ wsL_law, w.before #[Value.ref b] s = true := fun w h => hts0 w (wsL_law_in w h)
  have hA : ∀ q : Nat, s.heap.size ≤ q → (fun q : Nat => s.heap.size ≤ q) q := fun _ h => h
  have hbA : ¬ (fun q : Nat => s.heap.size ≤ q) b := Nat.not_le.mpr hbl
  obtain ⟨⟨⟨h0, h1, h2, hg3, h4, h5⟩, hkd, hbx, hlq, hfd, hcr⟩, hms, hag, hfr⟩ := id hI
  refine lv_aload_n hx hb dL_law_921 rfl (lv_at hl 2 rfl) ?_
  refine vp_callSl (va_Run.run (va_runV (As := []) (rest := []) ⟨hx, hb, hml, hown, hts⟩ (m_X5_trace l D ox cI cJ cZ S  ) (cwV 0 hts gL_law_X5_trace rfl rfl rfl (by decide +kernel) ⟨Nat.le_of_ble_eq_true rfl, Nat.le_of_ble_eq_true rfl⟩) (h_preR hK hPx 0 rfl rfl rfl) rfl rfl hl.1 rfl (lv_room (Nat.le_of_ble_eq_true rfl)) dL_law_922 ⟨Nat.le_of_ble_eq_true rfl, Nat.le_of_ble_eq_true rfl⟩)) (fun rx hrx => ?_)
  subst hrx
  refine lv_aload_n hx hb dL_law_925 rfl (lv_at hl 1 rfl) ?_
  refine vp_callSl (va_Run.run (va_runV (As := []) (rest := [.long (hg_t S)]) ⟨hx, hb, hml, hown, hts⟩ (m_X6_trace l D om cI cJ cZ S  ) (cwV 0 hts gL_law_X6_trace rfl rfl rfl (by decide +kernel) ⟨Nat.le_of_ble_eq_true rfl, Nat.le_of_ble_eq_true rfl⟩) (h_preR hK hPm 0 rfl rfl rfl) rfl rfl hl.1 rfl (lv_room (Nat.le_of_ble_eq_true rfl)) dL_law_926 ⟨Nat.le_of_ble_eq_true rfl, Nat.le_of_ble_eq_true rfl⟩)) (fun rm hrm => ?_)
  subst hrm
  refine W.lcmp hx hb dL_law_929 ?_
  refine lv_if_eq (tgt := 935) hx hb dL_law_930 (by decide) (fun c => ?_) (fun c => absurd ((lg_cmp_eq _ _).mpr rfl) c)
  exact kk S H locs hI.mono hPx hPm hDx hDm hS
