theorem hg_lp {L i : Nat} (hL : L ≤ 4096) (hi : i ≤ 8192) : nI L - nI 8 < nI i ↔ L < i + 8 := by
  rw [hg_lt, pk_sub_toInt (by omega) (by omega), nI_toInt (by omega)]
  omega
set_option maxHeartbeats 4000000 in
set_option maxRecDepth 100000 in
/-- the law's loop: at its head, behind k calls, both systems hold one state -/
theorem lw_loop {pg : Program} {l : Launch} {ev : Env} {s : State} {mi : MethodId} {below : List Frame} {meth : Method} {cd : Code} {D : va_G} {ox om : Nat → Nat} {cI cJ cZ : ClassId} {b L : Nat} {xs : Nat → Int32} (C0 : lw_At pg s mi meth cd b L xs) (hK : va_K D vwCl (hg_ty cI cJ cZ) s) (hdj : ∀ i j, i < 26 → j < 21 → ox i ≠ om j) (hL : L ≤ 4096) : ∀ (n i k : Nat) (S : hg_S), i = 8 * k → k ≤ 512 → L + 8 ≤ i + 8 * n → hg_Inv S k → ∀ (H : Heap) (locs : List Loc) (ls : Array Slot), va_P D vwCl (xW ox cI cJ cZ S) H → va_P D vwCl (mW om cI cJ cZ S) H → va_D (fun q : Nat => s.heap.size ≤ q) (xW ox cI cJ cZ S) → va_D (fun q : Nat => s.heap.size ≤ q) (mW om cI cJ cZ S) → va_S (fun q : Nat => s.heap.size ≤ q) s.heap H locs → lv_has ls 4 [(3, .int (nI i)), (2, .ref (om 0)), (1, .ref (ox 0)), (0, .ref b)] → W pg l ev room_1 s mi #[Value.ref b] below meth cd H locs 47 379 (lw_Z below #[Value.ref b] s) (F0 mi 18 ls []) := by
  have C1 := C0
  obtain ⟨hx, hb, hr, hml, hown0, hts0, hX, hbl, hlocks, hgv⟩ := C0
  have hbA : ¬ (fun q : Nat => s.heap.size ≤ q) b := Nat.not_le.mpr hbl
  intro n
  induction n with
  | zero =>
    intro i k S hik hk hn hI H locs ls hPx hPm hDx hDm hS hl
    refine lv_iload_n hx hb dL_law_18 rfl (lv_at hl 0 rfl) ?_
    refine lv_aload_n hx hb dL_law_19 rfl (lv_at hl 3 rfl) ?_
    refine va_slen hx hb hX hbl hbA hS dL_law_20 ?_
    refine lv_bipush (v := nI 8) hx hb dL_law_21 (by decide) ?_
    refine lv_isub hx hb dL_law_23 ?_
    refine lv_icmp_gt (tgt := 941) hx hb dL_law_24 (by decide) (fun c => ?_) (fun c => absurd ((hg_lp hL (by omega)).mpr (by omega)) c)
    refine lv_iconst (v := 1) hx hb dL_law_941 (by decide) ?_
    refine va_forget (fun q hq => hS.2.2 q hq) ?_
    exact lw_ret hx hb hr hlocks dL_law_942
  | succ n ih =>
    intro i k S hik hk hn hI H locs ls hPx hPm hDx hDm hS hl
    refine lv_iload_n hx hb dL_law_18 rfl (lv_at hl 0 rfl) ?_
    refine lv_aload_n hx hb dL_law_19 rfl (lv_at hl 3 rfl) ?_
    refine va_slen hx hb hX hbl hbA hS dL_law_20 ?_
    refine lv_bipush (v := nI 8) hx hb dL_law_21 (by decide) ?_
    refine lv_isub hx hb dL_law_23 ?_
    refine lv_icmp_gt (tgt := 941) hx hb dL_law_24 (by decide) (fun c => ?_) (fun c => ?_)
    · refine lv_iconst (v := 1) hx hb dL_law_941 (by decide) ?_
      refine va_forget (fun q hq => hS.2.2 q hq) ?_
      exact lw_ret hx hb hr hlocks dL_law_942
    · have hi8 : i + 8 ≤ L := Nat.not_lt.mp (fun q => c ((hg_lp hL (by omega)).mpr q))
      have kk : ∀ (S' : hg_S) (H : Heap) (locs : List Loc), hg_Inv S' (k + 1) → va_P D vwCl (xW ox cI cJ cZ S') H → va_P D vwCl (mW om cI cJ cZ S') H → va_D (fun q : Nat => s.heap.size ≤ q) (xW ox cI cJ cZ S') → va_D (fun q : Nat => s.heap.size ≤ q) (mW om cI cJ cZ S') → va_S (fun q : Nat => s.heap.size ≤ q) s.heap H locs → W pg l ev room_1 s mi #[Value.ref b] below meth cd H locs 47 379 (lw_Z below #[Value.ref b] s) (F0 mi 935 ls []) := by
        intro S' H locs hI hPx hPm hDx hDm hS
        refine lv_iinc (v := nI (i + 8)) (lv' := [(3, .int (nI (i + 8))), (2, .ref (om 0)), (1, .ref (ox 0)), (0, .ref b)]) hx hb dL_law_935 hl (k := 0) rfl (by rw [show Int32.ofInt 8 = nI 8 from by decide, nI_add]) (by decide) rfl (fun ls hl => ?_)
        refine lv_goto (tgt := 18) hx hb dL_law_938 (by decide) ?_
        exact ih (i + 8) (k + 1) S' (by omega) (by omega) (by omega) hI H locs ls hPx hPm hDx hDm hS hl
      refine lv_aload_n hx hb dL_law_27 rfl (lv_at hl 3 rfl) ?_
      refine lv_iload_n hx hb dL_law_28 rfl (lv_at hl 0 rfl) ?_
      refine h_sld hx hb hX hbl hbA hS i rfl (by omega) (by omega) dL_law_29 ?_
      refine lv_bipush (v := nI 31) hx hb dL_law_30 (by decide) ?_
      refine lv_iand hx hb dL_law_32 ?_
      obtain ⟨j, hj, ej⟩ := pk_andE (xs i) (m := nI 31) 5 (by decide)
      refine h_topi ej ?_
      rcases (show j = 0 ∨ j = 1 ∨ j = 2 ∨ j = 3 ∨ j = 4 ∨ j = 5 ∨ j = 6 ∨ j = 7 ∨ j = 8 ∨ j = 9 ∨ j = 10 ∨ j = 11 ∨ j = 12 ∨ j = 13 ∨ j = 14 ∨ j = 15 ∨ j = 16 ∨ j = 17 ∨ j = 18 ∨ j = 19 ∨ j = 20 ∨ j = 21 ∨ j = 22 ∨ j = 23 ∨ 24 ≤ j by omega) with rfl | rfl | rfl | rfl | rfl | rfl | rfl | rfl | rfl | rfl | rfl | rfl | rfl | rfl | rfl | rfl | rfl | rfl | rfl | rfl | rfl | rfl | rfl | rfl | h24
      · refine lv_tableIn (off := 111) (tgt := 144) hx hb dL_law_33 (by decide) (by decide) (by decide) (by decide) ?_
        exact lw_well C1 hK hdj hL hI hk hi8 hPx hPm hDx hDm hS hl kk
      · refine lv_tableIn (off := 198) (tgt := 231) hx hb dL_law_33 (by decide) (by decide) (by decide) (by decide) ?_
        exact lw_open C1 hK hdj hL hI hk hi8 hPx hPm hDx hDm hS hl kk
      · refine lv_tableIn (off := 247) (tgt := 280) hx hb dL_law_33 (by decide) (by decide) (by decide) (by decide) ?_
        exact lw_clean C1 hK hdj hL hI hk hi8 hPx hPm hDx hDm hS hl kk
      · refine lv_tableIn (off := 270) (tgt := 303) hx hb dL_law_33 (by decide) (by decide) (by decide) (by decide) ?_
        exact lw_flow C1 hK hdj hL hI hk hi8 hPx hPm hDx hDm hS hl kk
      · refine lv_tableIn (off := 303) (tgt := 336) hx hb dL_law_33 (by decide) (by decide) (by decide) (by decide) ?_
        exact lw_about C1 hK hdj hL hI hk hi8 hPx hPm hDx hDm hS hl kk
      · refine lv_tableIn (off := 336) (tgt := 369) hx hb dL_law_33 (by decide) (by decide) (by decide) (by decide) ?_
        exact lw_turbine C1 hK hdj hL hI hk hi8 hPx hPm hDx hDm hS hl kk
      · refine lv_tableIn (off := 379) (tgt := 412) hx hb dL_law_33 (by decide) (by decide) (by decide) (by decide) ?_
        exact lw_on C1 hK hdj hL hI hk hi8 hPx hPm hDx hDm hS hl kk
      · refine lv_tableIn (off := 428) (tgt := 461) hx hb dL_law_33 (by decide) (by decide) (by decide) (by decide) ?_
        exact lw_at C1 hK hdj hL hI hk hi8 hPx hPm hDx hDm hS hl kk
      · refine lv_tableIn (off := 461) (tgt := 494) hx hb dL_law_33 (by decide) (by decide) (by decide) (by decide) ?_
        exact lw_point C1 hK hdj hL hI hk hi8 hPx hPm hDx hDm hS hl kk
      · refine lv_tableIn (off := 474) (tgt := 507) hx hb dL_law_33 (by decide) (by decide) (by decide) (by decide) ?_
        exact lw_fill C1 hK hdj hL hI hk hi8 hPx hPm hDx hDm hS hl kk
      · refine lv_tableIn (off := 517) (tgt := 550) hx hb dL_law_33 (by decide) (by decide) (by decide) (by decide) ?_
        exact lw_set C1 hK hdj hL hI hk hi8 hPx hPm hDx hDm hS hl kk
      · refine lv_tableIn (off := 560) (tgt := 593) hx hb dL_law_33 (by decide) (by decide) (by decide) (by decide) ?_
        exact lw_year C1 hK hdj hL hI hk hi8 hPx hPm hDx hDm hS hl kk
      · refine lv_tableIn (off := 583) (tgt := 616) hx hb dL_law_33 (by decide) (by decide) (by decide) (by decide) ?_
        exact lw_box C1 hK hdj hL hI hk hi8 hPx hPm hDx hDm hS hl kk
      · refine lv_tableIn (off := 617) (tgt := 650) hx hb dL_law_33 (by decide) (by decide) (by decide) (by decide) ?_
        exact lw_sum C1 hK hdj hL hI hk hi8 hPx hPm hDx hDm hS hl kk
      · refine lv_tableIn (off := 641) (tgt := 674) hx hb dL_law_33 (by decide) (by decide) (by decide) (by decide) ?_
        exact lw_share C1 hK hdj hL hI hk hi8 hPx hPm hDx hDm hS hl kk
      · refine lv_tableIn (off := 674) (tgt := 707) hx hb dL_law_33 (by decide) (by decide) (by decide) (by decide) ?_
        exact lw_put C1 hK hdj hL hI hk hi8 hPx hPm hDx hDm hS hl kk
      · refine lv_tableIn (off := 697) (tgt := 730) hx hb dL_law_33 (by decide) (by decide) (by decide) (by decide) ?_
        exact lw_back C1 hK hdj hL hI hk hi8 hPx hPm hDx hDm hS hl kk
      · refine lv_tableIn (off := 720) (tgt := 753) hx hb dL_law_33 (by decide) (by decide) (by decide) (by decide) ?_
        exact lw_cut C1 hK hdj hL hI hk hi8 hPx hPm hDx hDm hS hl kk
      · refine lv_tableIn (off := 733) (tgt := 766) hx hb dL_law_33 (by decide) (by decide) (by decide) (by decide) ?_
        exact lw_candidate C1 hK hdj hL hI hk hi8 hPx hPm hDx hDm hS hl kk
      · refine lv_tableIn (off := 776) (tgt := 809) hx hb dL_law_33 (by decide) (by decide) (by decide) (by decide) ?_
        exact lw_promise C1 hK hdj hL hI hk hi8 hPx hPm hDx hDm hS hl kk
      · refine lv_tableIn (off := 809) (tgt := 842) hx hb dL_law_33 (by decide) (by decide) (by decide) (by decide) ?_
        exact lw_plan C1 hK hdj hL hI hk hi8 hPx hPm hDx hDm hS hl kk
      · refine lv_tableIn (off := 832) (tgt := 865) hx hb dL_law_33 (by decide) (by decide) (by decide) (by decide) ?_
        exact lw_lacks C1 hK hdj hL hI hk hi8 hPx hPm hDx hDm hS hl kk
      · refine lv_tableIn (off := 865) (tgt := 898) hx hb dL_law_33 (by decide) (by decide) (by decide) (by decide) ?_
        exact lw_count C1 hK hdj hL hI hk hi8 hPx hPm hDx hDm hS hl kk
      · refine lv_tableIn (off := 888) (tgt := 921) hx hb dL_law_33 (by decide) (by decide) (by decide) (by decide) ?_
        exact lw_trace C1 hK hdj hL hI hk hi8 hPx hPm hDx hDm hS hl kk
      · refine lv_tableOut (tgt := 935) hx hb dL_law_33 (Or.inr (by rw [nI_toInt (by omega)]; omega)) (by decide) ?_
        exact kk S H locs hI.mono hPx hPm hDx hDm hS
