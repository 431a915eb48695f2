set_option maxHeartbeats 4000000 in
set_option maxRecDepth 100000 in
theorem lw_well {pg : Program} {l : Launch} {ev : Env} {s : State} {mi : MethodId} {below : List Frame} {meth : Method} {cd : Code} {D : va_G} {ox om : Nat → Nat} {cI cJ cZ : ClassId} {b L : Nat} {xs : Nat → Int32} (C0 : lw_At pg s mi meth cd b L xs) (hK : va_K D vwCl (hg_ty cI cJ cZ) s) (hdj : ∀ i j, i < 26 → j < 21 → ox i ≠ om j) (hL : L ≤ 4096) {S : hg_S} {i k : Nat} (hI : hg_Inv S k) (hk : k ≤ 512) (hi : i + 8 ≤ L) {H : Heap} {locs : List Loc} {ls : Array Slot} (hPx : va_P D vwCl (xW ox cI cJ cZ S) H) (hPm : va_P D vwCl (mW om cI cJ cZ S) H) (hDx : va_D (fun q : Nat => s.heap.size ≤ q) (xW ox cI cJ cZ S)) (hDm : va_D (fun q : Nat => s.heap.size ≤ q) (mW om cI cJ cZ S)) (hS : va_S (fun q : Nat => s.heap.size ≤ q) s.heap H locs) (hl : lv_has ls 4 [(3, .int (nI i)), (2, .ref (om 0)), (1, .ref (ox 0)), (0, .ref b)]) (kk : ∀ (S' : hg_S) (H : Heap) (locs : List Loc), hg_Inv S' (k + 1) → va_P D vwCl (xW ox cI cJ cZ S') H → va_P D vwCl (mW om cI cJ cZ S') H → va_D (fun q : Nat => s.heap.size ≤ q) (xW ox cI cJ cZ S') → va_D (fun q : Nat => s.heap.size ≤ q) (mW om cI cJ cZ S') → va_S (fun q : Nat => s.heap.size ≤ q) s.heap H locs → W pg l ev room_1 s mi #[Value.ref b] below meth cd H locs 47 379 (lw_Z below #[Value.ref b] s) (F0 mi 935 ls [])) : W pg l ev room_1 s mi #[Value.ref b] below meth cd H locs 47 379 (lw_Z below #[Value.ref b] s) (F0 mi 144 ls []) := by
  obtain ⟨hx, hb, hr, hml, hown0, hts0, hX, hbl, hlocks, hgv⟩ := C0
  have hown : s.vm.findClass RL = some mi.cls := hown0
  have hts : ∀ w ∈ wsL_law, w.before #[Value.ref b] s = true := fun w h => hts0 w (wsL_law_in w h)
  have hA : ∀ q : Nat, s.heap.size ≤ q → (fun q : Nat => s.heap.size ≤ q) q := fun _ h => h
  have hbA : ¬ (fun q : Nat => s.heap.size ≤ q) b := Nat.not_le.mpr hbl
  obtain ⟨⟨⟨h0, h1, h2, hg3, h4, h5⟩, hkd, hbx, hlq, hfd, hcr⟩, hms, hag, hfr⟩ := id hI
  refine lv_aload_n hx hb dL_law_144 rfl (lv_at hl 2 rfl) ?_
  refine lv_aload_n hx hb dL_law_145 rfl (lv_at hl 3 rfl) ?_
  refine lv_iload_n hx hb dL_law_146 rfl (lv_at hl 0 rfl) ?_
  refine lv_iconst (v := nI 1) hx hb dL_law_147 (by decide) ?_
  refine lv_iadd hx hb dL_law_148 ?_
  refine h_topi (y := nI (i + 1)) (nI_add _ _) ?_
  refine h_sld hx hb hX hbl hbA hS (i + 1) rfl (by omega) (by omega) dL_law_149 ?_
  refine lv_aload_n hx hb dL_law_150 rfl (lv_at hl 3 rfl) ?_
  refine lv_iload_n hx hb dL_law_151 rfl (lv_at hl 0 rfl) ?_
  refine lv_iconst (v := nI 2) hx hb dL_law_152 (by decide) ?_
  refine lv_iadd hx hb dL_law_153 ?_
  refine h_topi (y := nI (i + 2)) (nI_add _ _) ?_
  refine h_sld hx hb hX hbl hbA hS (i + 2) rfl (by omega) (by omega) dL_law_154 ?_
  refine lv_aload_n hx hb dL_law_155 rfl (lv_at hl 3 rfl) ?_
  refine lv_iload_n hx hb dL_law_156 rfl (lv_at hl 0 rfl) ?_
  refine lv_iconst (v := nI 3) hx hb dL_law_157 (by decide) ?_
  refine lv_iadd hx hb dL_law_158 ?_
  refine h_topi (y := nI (i + 3)) (nI_add _ _) ?_
  refine h_sld hx hb hX hbl hbA hS (i + 3) rfl (by omega) (by omega) dL_law_159 ?_
  refine lv_aload_n hx hb dL_law_160 rfl (lv_at hl 3 rfl) ?_
  refine lv_iload_n hx hb dL_law_161 rfl (lv_at hl 0 rfl) ?_
  refine lv_iconst (v := nI 4) hx hb dL_law_162 (by decide) ?_
  refine lv_iadd hx hb dL_law_163 ?_
  refine h_topi (y := nI (i + 4)) (nI_add _ _) ?_
  refine h_sld hx hb hX hbl hbA hS (i + 4) rfl (by omega) (by omega) dL_law_164 ?_
  refine lv_aload_n hx hb dL_law_165 rfl (lv_at hl 3 rfl) ?_
  refine lv_iload_n hx hb dL_law_166 rfl (lv_at hl 0 rfl) ?_
  refine lv_iconst (v := nI 5) hx hb dL_law_167 (by decide) ?_
  refine lv_iadd hx hb dL_law_168 ?_
  refine h_topi (y := nI (i + 5)) (nI_add _ _) ?_
  refine h_sld hx hb hX hbl hbA hS (i + 5) rfl (by omega) (by omega) dL_law_169 ?_
  refine lv_aload_n hx hb dL_law_170 rfl (lv_at hl 3 rfl) ?_
  refine lv_iload_n hx hb dL_law_171 rfl (lv_at hl 0 rfl) ?_
  refine lv_bipush (v := nI 6) hx hb dL_law_172 (by decide) ?_
  refine lv_iadd hx hb dL_law_174 ?_
  refine h_topi (y := nI (i + 6)) (nI_add _ _) ?_
  refine h_sld hx hb hX hbl hbA hS (i + 6) rfl (by omega) (by omega) dL_law_175 ?_
  refine lv_aload_n hx hb dL_law_176 rfl (lv_at hl 3 rfl) ?_
  refine lv_iload_n hx hb dL_law_177 rfl (lv_at hl 0 rfl) ?_
  refine lv_bipush (v := nI 7) hx hb dL_law_178 (by decide) ?_
  refine lv_iadd hx hb dL_law_180 ?_
  refine h_topi (y := nI (i + 7)) (nI_add _ _) ?_
  refine h_sld hx hb hX hbl hbA hS (i + 7) rfl (by omega) (by omega) dL_law_181 ?_
  refine h_lcalli (w1 := xW ox cI cJ cZ ((r_well S (xs (i + 1)) (xs (i + 2)) (xs (i + 3)) (xs (i + 4)) (xs (i + 5)) (xs (i + 6)) (xs (i + 7))).2)) (wr := mW om cI cJ cZ S) (va_runV (As := [.int (xs (i + 1)), .int (xs (i + 2)), .int (xs (i + 3)), .int (xs (i + 4)), .int (xs (i + 5)), .int (xs (i + 6)), .int (xs (i + 7))]) (rest := []) ⟨hx, hb, hml, hown, hts⟩ (m_X5_well l D ox cI cJ cZ S H.size h0 (xs (i + 1)) (xs (i + 2)) (xs (i + 3)) (xs (i + 4)) (xs (i + 5)) (xs (i + 6)) (xs (i + 7))) (cwV 7 hts gL_law_X5_well rfl rfl rfl (by decide +kernel) ⟨Nat.le_of_ble_eq_true rfl, Nat.le_of_ble_eq_true rfl⟩) (h_preW hK hPx hDx 0 rfl rfl rfl) rfl rfl hl.1 rfl (lv_room (Nat.le_of_ble_eq_true rfl)) dL_law_182 ⟨Nat.le_of_ble_eq_true rfl, Nat.le_of_ble_eq_true rfl⟩) hS hA hDx hPm (dj_xm hdj) (fun rx H locs hrx hPx hPm hDx hS => ?_)
  subst hrx
  refine lv_aload_n hx hb dL_law_185 rfl (lv_at hl 1 rfl) ?_
  refine lv_aload_n hx hb dL_law_186 rfl (lv_at hl 3 rfl) ?_
  refine lv_iload_n hx hb dL_law_187 rfl (lv_at hl 0 rfl) ?_
  refine lv_iconst (v := nI 1) hx hb dL_law_188 (by decide) ?_
  refine lv_iadd hx hb dL_law_189 ?_
  refine h_topi (y := nI (i + 1)) (nI_add _ _) ?_
  refine h_sld hx hb hX hbl hbA hS (i + 1) rfl (by omega) (by omega) dL_law_190 ?_
  refine lv_aload_n hx hb dL_law_191 rfl (lv_at hl 3 rfl) ?_
  refine lv_iload_n hx hb dL_law_192 rfl (lv_at hl 0 rfl) ?_
  refine lv_iconst (v := nI 2) hx hb dL_law_193 (by decide) ?_
  refine lv_iadd hx hb dL_law_194 ?_
  refine h_topi (y := nI (i + 2)) (nI_add _ _) ?_
  refine h_sld hx hb hX hbl hbA hS (i + 2) rfl (by omega) (by omega) dL_law_195 ?_
  refine lv_aload_n hx hb dL_law_196 rfl (lv_at hl 3 rfl) ?_
  refine lv_iload_n hx hb dL_law_197 rfl (lv_at hl 0 rfl) ?_
  refine lv_iconst (v := nI 3) hx hb dL_law_198 (by decide) ?_
  refine lv_iadd hx hb dL_law_199 ?_
  refine h_topi (y := nI (i + 3)) (nI_add _ _) ?_
  refine h_sld hx hb hX hbl hbA hS (i + 3) rfl (by omega) (by omega) dL_law_200 ?_
  refine lv_aload_n hx hb dL_law_201 rfl (lv_at hl 3 rfl) ?_
  refine lv_iload_n hx hb dL_law_202 rfl (lv_at hl 0 rfl) ?_
  refine lv_iconst (v := nI 4) hx hb dL_law_203 (by decide) ?_
  refine lv_iadd hx hb dL_law_204 ?_
  refine h_topi (y := nI (i + 4)) (nI_add _ _) ?_
  refine h_sld hx hb hX hbl hbA hS (i + 4) rfl (by omega) (by omega) dL_law_205 ?_
  refine lv_aload_n hx hb dL_law_206 rfl (lv_at hl 3 rfl) ?_
  refine lv_iload_n hx hb dL_law_207 rfl (lv_at hl 0 rfl) ?_
  refine lv_iconst (v := nI 5) hx hb dL_law_208 (by decide) ?_
  refine lv_iadd hx hb dL_law_209 ?_
  refine h_topi (y := nI (i + 5)) (nI_add _ _) ?_
  refine h_sld hx hb hX hbl hbA hS (i + 5) rfl (by omega) (by omega) dL_law_210 ?_
  refine lv_aload_n hx hb dL_law_211 rfl (lv_at hl 3 rfl) ?_
  refine lv_iload_n hx hb dL_law_212 rfl (lv_at hl 0 rfl) ?_
  refine lv_bipush (v := nI 6) hx hb dL_law_213 (by decide) ?_
  refine lv_iadd hx hb dL_law_215 ?_
  refine h_topi (y := nI (i + 6)) (nI_add _ _) ?_
  refine h_sld hx hb hX hbl hbA hS (i + 6) rfl (by omega) (by omega) dL_law_216 ?_
  refine lv_aload_n hx hb dL_law_217 rfl (lv_at hl 3 rfl) ?_
  refine lv_iload_n hx hb dL_law_218 rfl (lv_at hl 0 rfl) ?_
  refine lv_bipush (v := nI 7) hx hb dL_law_219 (by decide) ?_
  refine lv_iadd hx hb dL_law_221 ?_
  refine h_topi (y := nI (i + 7)) (nI_add _ _) ?_
  refine h_sld hx hb hX hbl hbA hS (i + 7) rfl (by omega) (by omega) dL_law_222 ?_
  refine h_lcalli (w1 := mW om cI cJ cZ ((r_well S (xs (i + 1)) (xs (i + 2)) (xs (i + 3)) (xs (i + 4)) (xs (i + 5)) (xs (i + 6)) (xs (i + 7))).2)) (wr := xW ox cI cJ cZ ((r_well S (xs (i + 1)) (xs (i + 2)) (xs (i + 3)) (xs (i + 4)) (xs (i + 5)) (xs (i + 6)) (xs (i + 7))).2)) (va_runV (As := [.int (xs (i + 1)), .int (xs (i + 2)), .int (xs (i + 3)), .int (xs (i + 4)), .int (xs (i + 5)), .int (xs (i + 6)), .int (xs (i + 7))]) (rest := [.int ((r_well S (xs (i + 1)) (xs (i + 2)) (xs (i + 3)) (xs (i + 4)) (xs (i + 5)) (xs (i + 6)) (xs (i + 7))).1)]) ⟨hx, hb, hml, hown, hts⟩ (m_X6_well l D om cI cJ cZ S H.size h0 (fun h => (hfr _ (Nat.le_refl _) h).1) (fun h => (hfr _ (Nat.le_refl _) h).2) (xs (i + 1)) (xs (i + 2)) (xs (i + 3)) (xs (i + 4)) (xs (i + 5)) (xs (i + 6)) (xs (i + 7))) (cwV 7 hts gL_law_X6_well rfl rfl rfl (by decide +kernel) ⟨Nat.le_of_ble_eq_true rfl, Nat.le_of_ble_eq_true rfl⟩) (h_preW hK hPm hDm 0 rfl rfl rfl) rfl rfl hl.1 rfl (lv_room (Nat.le_of_ble_eq_true rfl)) dL_law_223 ⟨Nat.le_of_ble_eq_true rfl, Nat.le_of_ble_eq_true rfl⟩) hS hA hDm hPx (dj_mx hdj) (fun rm H locs hrm hPm hPx hDm hS => ?_)
  subst hrm
  refine lv_icmp_eq (tgt := 935) hx hb dL_law_226 (by decide) (fun _ => ?_) (fun c9 => absurd rfl c9)
  exact kk _ H locs (inv_well hI (xs (i + 1)) (xs (i + 2)) (xs (i + 3)) (xs (i + 4)) (xs (i + 5)) (xs (i + 6)) (xs (i + 7))) hPx hPm hDx hDm hS
set_option maxHeartbeats 4000000 in
set_option maxRecDepth 100000 in
theorem lw_open {pg : Program} {l : Launch} {ev : Env} {s : State} {mi : MethodId} {below : List Frame} {meth : Method} {cd : Code} {D : va_G} {ox om : Nat → Nat} {cI cJ cZ : ClassId} {b L : Nat} {xs : Nat → Int32} (C0 : lw_At pg s mi meth cd b L xs) (hK : va_K D vwCl (hg_ty cI cJ cZ) s) (hdj : ∀ i j, i < 26 → j < 21 → ox i ≠ om j) (hL : L ≤ 4096) {S : hg_S} {i k : Nat} (hI : hg_Inv S k) (hk : k ≤ 512) (hi : i + 8 ≤ L) {H : Heap} {locs : List Loc} {ls : Array Slot} (hPx : va_P D vwCl (xW ox cI cJ cZ S) H) (hPm : va_P D vwCl (mW om cI cJ cZ S) H) (hDx : va_D (fun q : Nat => s.heap.size ≤ q) (xW ox cI cJ cZ S)) (hDm : va_D (fun q : Nat => s.heap.size ≤ q) (mW om cI cJ cZ S)) (hS : va_S (fun q : Nat => s.heap.size ≤ q) s.heap H locs) (hl : lv_has ls 4 [(3, .int (nI i)), (2, .ref (om 0)), (1, .ref (ox 0)), (0, .ref b)]) (kk : ∀ (S' : hg_S) (H : Heap) (locs : List Loc), hg_Inv S' (k + 1) → va_P D vwCl (xW ox cI cJ cZ S') H → va_P D vwCl (mW om cI cJ cZ S') H → va_D (fun q : Nat => s.heap.size ≤ q) (xW ox cI cJ cZ S') → va_D (fun q : Nat => s.heap.size ≤ q) (mW om cI cJ cZ S') → va_S (fun q : Nat => s.heap.size ≤ q) s.heap H locs → W pg l ev room_1 s mi #[Value.ref b] below meth cd H locs 47 379 (lw_Z below #[Value.ref b] s) (F0 mi 935 ls [])) : W pg l ev room_1 s mi #[Value.ref b] below meth cd H locs 47 379 (lw_Z below #[Value.ref b] s) (F0 mi 231 ls []) := by
  obtain ⟨hx, hb, hr, hml, hown0, hts0, hX, hbl, hlocks, hgv⟩ := C0
  have hown : s.vm.findClass RL = some mi.cls := hown0
  have hts : ∀ w ∈ wsL_law, w.before #[Value.ref b] s = true := fun w h => hts0 w (wsL_law_in w h)
  have hA : ∀ q : Nat, s.heap.size ≤ q → (fun q : Nat => s.heap.size ≤ q) q := fun _ h => h
  have hbA : ¬ (fun q : Nat => s.heap.size ≤ q) b := Nat.not_le.mpr hbl
  obtain ⟨⟨⟨h0, h1, h2, hg3, h4, h5⟩, hkd, hbx, hlq, hfd, hcr⟩, hms, hag, hfr⟩ := id hI
  refine lv_aload_n hx hb dL_law_231 rfl (lv_at hl 2 rfl) ?_
  refine lv_aload_n hx hb dL_law_232 rfl (lv_at hl 3 rfl) ?_
  refine lv_iload_n hx hb dL_law_233 rfl (lv_at hl 0 rfl) ?_
  refine lv_iconst (v := nI 1) hx hb dL_law_234 (by decide) ?_
  refine lv_iadd hx hb dL_law_235 ?_
  refine h_topi (y := nI (i + 1)) (nI_add _ _) ?_
  refine h_sld hx hb hX hbl hbA hS (i + 1) rfl (by omega) (by omega) dL_law_236 ?_
  refine lv_aload_n hx hb dL_law_237 rfl (lv_at hl 3 rfl) ?_
  refine lv_iload_n hx hb dL_law_238 rfl (lv_at hl 0 rfl) ?_
  refine lv_iconst (v := nI 2) hx hb dL_law_239 (by decide) ?_
  refine lv_iadd hx hb dL_law_240 ?_
  refine h_topi (y := nI (i + 2)) (nI_add _ _) ?_
  refine h_sld hx hb hX hbl hbA hS (i + 2) rfl (by omega) (by omega) dL_law_241 ?_
  refine lv_if_eq (tgt := 249) hx hb dL_law_242 (by decide) (fun c => ?_) (fun c => ?_)
  · skip
    refine lv_iconst (v := nI 0) hx hb dL_law_249 (by decide) ?_
    refine h_lcalli (w1 := xW ox cI cJ cZ ((r_open S (xs (i + 1)) (nI 0)).2)) (wr := mW om cI cJ cZ S) (va_runV (As := [.int (xs (i + 1)), .int (nI 0)]) (rest := []) ⟨hx, hb, hml, hown, hts⟩ (m_X5_open l D ox cI cJ cZ S H.size h0 (xs (i + 1)) (nI 0) (by decide)) (cwV 2 hts gL_law_X5_open rfl rfl rfl (by decide +kernel) ⟨Nat.le_of_ble_eq_true rfl, Nat.le_of_ble_eq_true rfl⟩) (h_preW hK hPx hDx 0 rfl rfl rfl) rfl rfl hl.1 rfl (lv_room (Nat.le_of_ble_eq_true rfl)) dL_law_250 ⟨Nat.le_of_ble_eq_true rfl, Nat.le_of_ble_eq_true rfl⟩) hS hA hDx hPm (dj_xm hdj) (fun rx H locs hrx hPx hPm hDx hS => ?_)
    subst hrx
    refine lv_aload_n hx hb dL_law_253 rfl (lv_at hl 1 rfl) ?_
    refine lv_aload_n hx hb dL_law_254 rfl (lv_at hl 3 rfl) ?_
    refine lv_iload_n hx hb dL_law_255 rfl (lv_at hl 0 rfl) ?_
    refine lv_iconst (v := nI 1) hx hb dL_law_256 (by decide) ?_
    refine lv_iadd hx hb dL_law_257 ?_
    refine h_topi (y := nI (i + 1)) (nI_add _ _) ?_
    refine h_sld hx hb hX hbl hbA hS (i + 1) rfl (by omega) (by omega) dL_law_258 ?_
    refine lv_aload_n hx hb dL_law_259 rfl (lv_at hl 3 rfl) ?_
    refine lv_iload_n hx hb dL_law_260 rfl (lv_at hl 0 rfl) ?_
    refine lv_iconst (v := nI 2) hx hb dL_law_261 (by decide) ?_
    refine lv_iadd hx hb dL_law_262 ?_
    refine h_topi (y := nI (i + 2)) (nI_add _ _) ?_
    refine h_sld hx hb hX hbl hbA hS (i + 2) rfl (by omega) (by omega) dL_law_263 ?_
    refine lv_if_eq (tgt := 271) hx hb dL_law_264 (by decide) (fun _ => ?_) (fun c2 => absurd c c2)
    refine lv_iconst (v := nI 0) hx hb dL_law_271 (by decide) ?_
    refine h_lcalli (w1 := mW om cI cJ cZ ((r_open S (xs (i + 1)) (nI 0)).2)) (wr := xW ox cI cJ cZ ((r_open S (xs (i + 1)) (nI 0)).2)) (va_runV (As := [.int (xs (i + 1)), .int (nI 0)]) (rest := [.int ((r_open S (xs (i + 1)) (nI 0)).1)]) ⟨hx, hb, hml, hown, hts⟩ (m_X6_open l D om cI cJ cZ S H.size h0 (xs (i + 1)) (nI 0) (by decide)) (cwV 2 hts gL_law_X6_open rfl rfl rfl (by decide +kernel) ⟨Nat.le_of_ble_eq_true rfl, Nat.le_of_ble_eq_true rfl⟩) (h_preW hK hPm hDm 0 rfl rfl rfl) rfl rfl hl.1 rfl (lv_room (Nat.le_of_ble_eq_true rfl)) dL_law_272 ⟨Nat.le_of_ble_eq_true rfl, Nat.le_of_ble_eq_true rfl⟩) hS hA hDm hPx (dj_mx hdj) (fun rm H locs hrm hPm hPx hDm hS => ?_)
    subst hrm
    refine lv_icmp_eq (tgt := 935) hx hb dL_law_275 (by decide) (fun _ => ?_) (fun c9 => absurd rfl c9)
    exact kk _ H locs (inv_open hI (xs (i + 1)) (nI 0)) hPx hPm hDx hDm hS
  · skip
    refine lv_iconst (v := nI 1) hx hb dL_law_245 (by decide) ?_
    refine lv_goto (tgt := 250) hx hb dL_law_246 (by decide) ?_
    refine h_lcalli (w1 := xW ox cI cJ cZ ((r_open S (xs (i + 1)) (nI 1)).2)) (wr := mW om cI cJ cZ S) (va_runV (As := [.int (xs (i + 1)), .int (nI 1)]) (rest := []) ⟨hx, hb, hml, hown, hts⟩ (m_X5_open l D ox cI cJ cZ S H.size h0 (xs (i + 1)) (nI 1) (by decide)) (cwV 2 hts gL_law_X5_open rfl rfl rfl (by decide +kernel) ⟨Nat.le_of_ble_eq_true rfl, Nat.le_of_ble_eq_true rfl⟩) (h_preW hK hPx hDx 0 rfl rfl rfl) rfl rfl hl.1 rfl (lv_room (Nat.le_of_ble_eq_true rfl)) dL_law_250 ⟨Nat.le_of_ble_eq_true rfl, Nat.le_of_ble_eq_true rfl⟩) hS hA hDx hPm (dj_xm hdj) (fun rx H locs hrx hPx hPm hDx hS => ?_)
    subst hrx
    refine lv_aload_n hx hb dL_law_253 rfl (lv_at hl 1 rfl) ?_
    refine lv_aload_n hx hb dL_law_254 rfl (lv_at hl 3 rfl) ?_
    refine lv_iload_n hx hb dL_law_255 rfl (lv_at hl 0 rfl) ?_
    refine lv_iconst (v := nI 1) hx hb dL_law_256 (by decide) ?_
    refine lv_iadd hx hb dL_law_257 ?_
    refine h_topi (y := nI (i + 1)) (nI_add _ _) ?_
    refine h_sld hx hb hX hbl hbA hS (i + 1) rfl (by omega) (by omega) dL_law_258 ?_
    refine lv_aload_n hx hb dL_law_259 rfl (lv_at hl 3 rfl) ?_
    refine lv_iload_n hx hb dL_law_260 rfl (lv_at hl 0 rfl) ?_
    refine lv_iconst (v := nI 2) hx hb dL_law_261 (by decide) ?_
    refine lv_iadd hx hb dL_law_262 ?_
    refine h_topi (y := nI (i + 2)) (nI_add _ _) ?_
    refine h_sld hx hb hX hbl hbA hS (i + 2) rfl (by omega) (by omega) dL_law_263 ?_
    refine lv_if_eq (tgt := 271) hx hb dL_law_264 (by decide) (fun c2 => absurd c2 c) (fun _ => ?_)
    refine lv_iconst (v := nI 1) hx hb dL_law_267 (by decide) ?_
    refine lv_goto (tgt := 272) hx hb dL_law_268 (by decide) ?_
    refine h_lcalli (w1 := mW om cI cJ cZ ((r_open S (xs (i + 1)) (nI 1)).2)) (wr := xW ox cI cJ cZ ((r_open S (xs (i + 1)) (nI 1)).2)) (va_runV (As := [.int (xs (i + 1)), .int (nI 1)]) (rest := [.int ((r_open S (xs (i + 1)) (nI 1)).1)]) ⟨hx, hb, hml, hown, hts⟩ (m_X6_open l D om cI cJ cZ S H.size h0 (xs (i + 1)) (nI 1) (by decide)) (cwV 2 hts gL_law_X6_open rfl rfl rfl (by decide +kernel) ⟨Nat.le_of_ble_eq_true rfl, Nat.le_of_ble_eq_true rfl⟩) (h_preW hK hPm hDm 0 rfl rfl rfl) rfl rfl hl.1 rfl (lv_room (Nat.le_of_ble_eq_true rfl)) dL_law_272 ⟨Nat.le_of_ble_eq_true rfl, Nat.le_of_ble_eq_true rfl⟩) hS hA hDm hPx (dj_mx hdj) (fun rm H locs hrm hPm hPx hDm hS => ?_)
    subst hrm
    refine lv_icmp_eq (tgt := 935) hx hb dL_law_275 (by decide) (fun _ => ?_) (fun c9 => absurd rfl c9)
    exact kk _ H locs (inv_open hI (xs (i + 1)) (nI 1)) hPx hPm hDx hDm hS
set_option maxHeartbeats 4000000 in
set_option maxRecDepth 100000 in
theorem lw_clean {pg : Program} {l : Launch} {ev : Env} {s : State} {mi : MethodId} {below : List Frame} {meth : Method} {cd : Code} {D : va_G} {ox om : Nat → Nat} {cI cJ cZ : ClassId} {b L : Nat} {xs : Nat → Int32} (C0 : lw_At pg s mi meth cd b L xs) (hK : va_K D vwCl (hg_ty cI cJ cZ) s) (hdj : ∀ i j, i < 26 → j < 21 → ox i ≠ om j) (hL : L ≤ 4096) {S : hg_S} {i k : Nat} (hI : hg_Inv S k) (hk : k ≤ 512) (hi : i + 8 ≤ L) {H : Heap} {locs : List Loc} {ls : Array Slot} (hPx : va_P D vwCl (xW ox cI cJ cZ S) H) (hPm : va_P D vwCl (mW om cI cJ cZ S) H) (hDx : va_D (fun q : Nat => s.heap.size ≤ q) (xW ox cI cJ cZ S)) (hDm : va_D (fun q : Nat => s.heap.size ≤ q) (mW om cI cJ cZ S)) (hS : va_S (fun q : Nat => s.heap.size ≤ q) s.heap H locs) (hl : lv_has ls 4 [(3, .int (nI i)), (2, .ref (om 0)), (1, .ref (ox 0)), (0, .ref b)]) (kk : ∀ (S' : hg_S) (H : Heap) (locs : List Loc), hg_Inv S' (k + 1) → va_P D vwCl (xW ox cI cJ cZ S') H → va_P D vwCl (mW om cI cJ cZ S') H → va_D (fun q : Nat => s.heap.size ≤ q) (xW ox cI cJ cZ S') → va_D (fun q : Nat => s.heap.size ≤ q) (mW om cI cJ cZ S') → va_S (fun q : Nat => s.heap.size ≤ q) s.heap H locs → W pg l ev room_1 s mi #[Value.ref b] below meth cd H locs 47 379 (lw_Z below #[Value.ref b] s) (F0 mi 935 ls [])) : W pg l ev room_1 s mi #[Value.ref b] below meth cd H locs 47 379 (lw_Z below #[Value.ref b] s) (F0 mi 280 ls []) := by
  obtain ⟨hx, hb, hr, hml, hown0, hts0, hX, hbl, hlocks, hgv⟩ := C0
  have hown : s.vm.findClass RL = some mi.cls := hown0
  have hts : ∀ w ∈ wsL_law, w.before #[Value.ref b] s = true := fun w h => hts0 w (wsL_law_in w h)
  have hA : ∀ q : Nat, s.heap.size ≤ q → (fun q : Nat => s.heap.size ≤ q) q := fun _ h => h
  have hbA : ¬ (fun q : Nat => s.heap.size ≤ q) b := Nat.not_le.mpr hbl
  obtain ⟨⟨⟨h0, h1, h2, hg3, h4, h5⟩, hkd, hbx, hlq, hfd, hcr⟩, hms, hag, hfr⟩ := id hI
  refine lv_aload_n hx hb dL_law_280 rfl (lv_at hl 2 rfl) ?_
  refine lv_aload_n hx hb dL_law_281 rfl (lv_at hl 3 rfl) ?_
  refine lv_iload_n hx hb dL_law_282 rfl (lv_at hl 0 rfl) ?_
  refine lv_iconst (v := nI 1) hx hb dL_law_283 (by decide) ?_
  refine lv_iadd hx hb dL_law_284 ?_
  refine h_topi (y := nI (i + 1)) (nI_add _ _) ?_
  refine h_sld hx hb hX hbl hbA hS (i + 1) rfl (by omega) (by omega) dL_law_285 ?_
  refine h_lcalli (w1 := xW ox cI cJ cZ ((r_clean S (xs (i + 1))).2)) (wr := mW om cI cJ cZ S) (va_runV (As := [.int (xs (i + 1))]) (rest := []) ⟨hx, hb, hml, hown, hts⟩ (m_X5_clean l D ox cI cJ cZ S H.size h0 (xs (i + 1))) (cwV 1 hts gL_law_X5_clean rfl rfl rfl (by decide +kernel) ⟨Nat.le_of_ble_eq_true rfl, Nat.le_of_ble_eq_true rfl⟩) (h_preW hK hPx hDx 0 rfl rfl rfl) rfl rfl hl.1 rfl (lv_room (Nat.le_of_ble_eq_true rfl)) dL_law_286 ⟨Nat.le_of_ble_eq_true rfl, Nat.le_of_ble_eq_true rfl⟩) hS hA hDx hPm (dj_xm hdj) (fun rx H locs hrx hPx hPm hDx hS => ?_)
  subst hrx
  refine lv_aload_n hx hb dL_law_289 rfl (lv_at hl 1 rfl) ?_
  refine lv_aload_n hx hb dL_law_290 rfl (lv_at hl 3 rfl) ?_
  refine lv_iload_n hx hb dL_law_291 rfl (lv_at hl 0 rfl) ?_
  refine lv_iconst (v := nI 1) hx hb dL_law_292 (by decide) ?_
  refine lv_iadd hx hb dL_law_293 ?_
  refine h_topi (y := nI (i + 1)) (nI_add _ _) ?_
  refine h_sld hx hb hX hbl hbA hS (i + 1) rfl (by omega) (by omega) dL_law_294 ?_
  refine h_lcalli (w1 := mW om cI cJ cZ ((r_clean S (xs (i + 1))).2)) (wr := xW ox cI cJ cZ ((r_clean S (xs (i + 1))).2)) (va_runV (As := [.int (xs (i + 1))]) (rest := [.int ((r_clean S (xs (i + 1))).1)]) ⟨hx, hb, hml, hown, hts⟩ (m_X6_clean l D om cI cJ cZ S H.size h0 (xs (i + 1))) (cwV 1 hts gL_law_X6_clean rfl rfl rfl (by decide +kernel) ⟨Nat.le_of_ble_eq_true rfl, Nat.le_of_ble_eq_true rfl⟩) (h_preW hK hPm hDm 0 rfl rfl rfl) rfl rfl hl.1 rfl (lv_room (Nat.le_of_ble_eq_true rfl)) dL_law_295 ⟨Nat.le_of_ble_eq_true rfl, Nat.le_of_ble_eq_true rfl⟩) hS hA hDm hPx (dj_mx hdj) (fun rm H locs hrm hPm hPx hDm hS => ?_)
  subst hrm
  refine lv_icmp_eq (tgt := 935) hx hb dL_law_298 (by decide) (fun _ => ?_) (fun c9 => absurd rfl c9)
  exact kk _ H locs (inv_clean hI (xs (i + 1))) hPx hPm hDx hDm hS
set_option maxHeartbeats 4000000 in
set_option maxRecDepth 100000 in
theorem lw_flow {pg : Program} {l : Launch} {ev : Env} {s : State} {mi : MethodId} {below : List Frame} {meth : Method} {cd : Code} {D : va_G} {ox om : Nat → Nat} {cI cJ cZ : ClassId} {b L : Nat} {xs : Nat → Int32} (C0 : lw_At pg s mi meth cd b L xs) (hK : va_K D vwCl (hg_ty cI cJ cZ) s) (hdj : ∀ i j, i < 26 → j < 21 → ox i ≠ om j) (hL : L ≤ 4096) {S : hg_S} {i k : Nat} (hI : hg_Inv S k) (hk : k ≤ 512) (hi : i + 8 ≤ L) {H : Heap} {locs : List Loc} {ls : Array Slot} (hPx : va_P D vwCl (xW ox cI cJ cZ S) H) (hPm : va_P D vwCl (mW om cI cJ cZ S) H) (hDx : va_D (fun q : Nat => s.heap.size ≤ q) (xW ox cI cJ cZ S)) (hDm : va_D (fun q : Nat => s.heap.size ≤ q) (mW om cI cJ cZ S)) (hS : va_S (fun q : Nat => s.heap.size ≤ q) s.heap H locs) (hl : lv_has ls 4 [(3, .int (nI i)), (2, .ref (om 0)), (1, .ref (ox 0)), (0, .ref b)]) (kk : ∀ (S' : hg_S) (H : Heap) (locs : List Loc), hg_Inv S' (k + 1) → va_P D vwCl (xW ox cI cJ cZ S') H → va_P D vwCl (mW om cI cJ cZ S') H → va_D (fun q : Nat => s.heap.size ≤ q) (xW ox cI cJ cZ S') → va_D (fun q : Nat => s.heap.size ≤ q) (mW om cI cJ cZ S') → va_S (fun q : Nat => s.heap.size ≤ q) s.heap H locs → W pg l ev room_1 s mi #[Value.ref b] below meth cd H locs 47 379 (lw_Z below #[Value.ref b] s) (F0 mi 935 ls [])) : W pg l ev room_1 s mi #[Value.ref b] below meth cd H locs 47 379 (lw_Z below #[Value.ref b] s) (F0 mi 303 ls []) := by
  obtain ⟨hx, hb, hr, hml, hown0, hts0, hX, hbl, hlocks, hgv⟩ := C0
  have hown : s.vm.findClass RL = some mi.cls := hown0
  have hts : ∀ w ∈ wsL_law, w.before #[Value.ref b] s = true := fun w h => hts0 w (wsL_law_in w h)
  have hA : ∀ q : Nat, s.heap.size ≤ q → (fun q : Nat => s.heap.size ≤ q) q := fun _ h => h
  have hbA : ¬ (fun q : Nat => s.heap.size ≤ q) b := Nat.not_le.mpr hbl
  obtain ⟨⟨⟨h0, h1, h2, hg3, h4, h5⟩, hkd, hbx, hlq, hfd, hcr⟩, hms, hag, hfr⟩ := id hI
  refine lv_aload_n hx hb dL_law_303 rfl (lv_at hl 2 rfl) ?_
  refine lv_aload_n hx hb dL_law_304 rfl (lv_at hl 3 rfl) ?_
  refine lv_iload_n hx hb dL_law_305 rfl (lv_at hl 0 rfl) ?_
  refine lv_iconst (v := nI 1) hx hb dL_law_306 (by decide) ?_
  refine lv_iadd hx hb dL_law_307 ?_
  refine h_topi (y := nI (i + 1)) (nI_add _ _) ?_
  refine h_sld hx hb hX hbl hbA hS (i + 1) rfl (by omega) (by omega) dL_law_308 ?_
  refine lv_aload_n hx hb dL_law_309 rfl (lv_at hl 3 rfl) ?_
  refine lv_iload_n hx hb dL_law_310 rfl (lv_at hl 0 rfl) ?_
  refine lv_iconst (v := nI 2) hx hb dL_law_311 (by decide) ?_
  refine lv_iadd hx hb dL_law_312 ?_
  refine h_topi (y := nI (i + 2)) (nI_add _ _) ?_
  refine h_sld hx hb hX hbl hbA hS (i + 2) rfl (by omega) (by omega) dL_law_313 ?_
  refine h_lcalli (w1 := xW ox cI cJ cZ ((r_flow S (xs (i + 1)) (xs (i + 2))).2)) (wr := mW om cI cJ cZ S) (va_runV (As := [.int (xs (i + 1)), .int (xs (i + 2))]) (rest := []) ⟨hx, hb, hml, hown, hts⟩ (m_X5_flow l D ox cI cJ cZ S H.size h0 (xs (i + 1)) (xs (i + 2))) (cwV 2 hts gL_law_X5_flow rfl rfl rfl (by decide +kernel) ⟨Nat.le_of_ble_eq_true rfl, Nat.le_of_ble_eq_true rfl⟩) (h_preW hK hPx hDx 0 rfl rfl rfl) rfl rfl hl.1 rfl (lv_room (Nat.le_of_ble_eq_true rfl)) dL_law_314 ⟨Nat.le_of_ble_eq_true rfl, Nat.le_of_ble_eq_true rfl⟩) hS hA hDx hPm (dj_xm hdj) (fun rx H locs hrx hPx hPm hDx hS => ?_)
  subst hrx
  refine lv_aload_n hx hb dL_law_317 rfl (lv_at hl 1 rfl) ?_
  refine lv_aload_n hx hb dL_law_318 rfl (lv_at hl 3 rfl) ?_
  refine lv_iload_n hx hb dL_law_319 rfl (lv_at hl 0 rfl) ?_
  refine lv_iconst (v := nI 1) hx hb dL_law_320 (by decide) ?_
  refine lv_iadd hx hb dL_law_321 ?_
  refine h_topi (y := nI (i + 1)) (nI_add _ _) ?_
  refine h_sld hx hb hX hbl hbA hS (i + 1) rfl (by omega) (by omega) dL_law_322 ?_
  refine lv_aload_n hx hb dL_law_323 rfl (lv_at hl 3 rfl) ?_
  refine lv_iload_n hx hb dL_law_324 rfl (lv_at hl 0 rfl) ?_
  refine lv_iconst (v := nI 2) hx hb dL_law_325 (by decide) ?_
  refine lv_iadd hx hb dL_law_326 ?_
  refine h_topi (y := nI (i + 2)) (nI_add _ _) ?_
  refine h_sld hx hb hX hbl hbA hS (i + 2) rfl (by omega) (by omega) dL_law_327 ?_
  refine h_lcalli (w1 := mW om cI cJ cZ ((r_flow S (xs (i + 1)) (xs (i + 2))).2)) (wr := xW ox cI cJ cZ ((r_flow S (xs (i + 1)) (xs (i + 2))).2)) (va_runV (As := [.int (xs (i + 1)), .int (xs (i + 2))]) (rest := [.int ((r_flow S (xs (i + 1)) (xs (i + 2))).1)]) ⟨hx, hb, hml, hown, hts⟩ (m_X6_flow l D om cI cJ cZ S H.size h0 hkd (xs (i + 1)) (xs (i + 2))) (cwV 2 hts gL_law_X6_flow rfl rfl rfl (by decide +kernel) ⟨Nat.le_of_ble_eq_true rfl, Nat.le_of_ble_eq_true rfl⟩) (h_preW hK hPm hDm 0 rfl rfl rfl) rfl rfl hl.1 rfl (lv_room (Nat.le_of_ble_eq_true rfl)) dL_law_328 ⟨Nat.le_of_ble_eq_true rfl, Nat.le_of_ble_eq_true rfl⟩) hS hA hDm hPx (dj_mx hdj) (fun rm H locs hrm hPm hPx hDm hS => ?_)
  subst hrm
  refine lv_icmp_eq (tgt := 935) hx hb dL_law_331 (by decide) (fun _ => ?_) (fun c9 => absurd rfl c9)
  exact kk _ H locs (inv_flow hI (xs (i + 1)) (xs (i + 2))) hPx hPm hDx hDm hS
set_option maxHeartbeats 4000000 in
set_option maxRecDepth 100000 in
theorem lw_about {pg : Program} {l : Launch} {ev : Env} {s : State} {mi : MethodId} {below : List Frame} {meth : Method} {cd : Code} {D : va_G} {ox om : Nat → Nat} {cI cJ cZ : ClassId} {b L : Nat} {xs : Nat → Int32} (C0 : lw_At pg s mi meth cd b L xs) (hK : va_K D vwCl (hg_ty cI cJ cZ) s) (hdj : ∀ i j, i < 26 → j < 21 → ox i ≠ om j) (hL : L ≤ 4096) {S : hg_S} {i k : Nat} (hI : hg_Inv S k) (hk : k ≤ 512) (hi : i + 8 ≤ L) {H : Heap} {locs : List Loc} {ls : Array Slot} (hPx : va_P D vwCl (xW ox cI cJ cZ S) H) (hPm : va_P D vwCl (mW om cI cJ cZ S) H) (hDx : va_D (fun q : Nat => s.heap.size ≤ q) (xW ox cI cJ cZ S)) (hDm : va_D (fun q : Nat => s.heap.size ≤ q) (mW om cI cJ cZ S)) (hS : va_S (fun q : Nat => s.heap.size ≤ q) s.heap H locs) (hl : lv_has ls 4 [(3, .int (nI i)), (2, .ref (om 0)), (1, .ref (ox 0)), (0, .ref b)]) (kk : ∀ (S' : hg_S) (H : Heap) (locs : List Loc), hg_Inv S' (k + 1) → va_P D vwCl (xW ox cI cJ cZ S') H → va_P D vwCl (mW om cI cJ cZ S') H → va_D (fun q : Nat => s.heap.size ≤ q) (xW ox cI cJ cZ S') → va_D (fun q : Nat => s.heap.size ≤ q) (mW om cI cJ cZ S') → va_S (fun q : Nat => s.heap.size ≤ q) s.heap H locs → W pg l ev room_1 s mi #[Value.ref b] below meth cd H locs 47 379 (lw_Z below #[Value.ref b] s) (F0 mi 935 ls [])) : W pg l ev room_1 s mi #[Value.ref b] below meth cd H locs 47 379 (lw_Z below #[Value.ref b] s) (F0 mi 336 ls []) := by
  obtain ⟨hx, hb, hr, hml, hown0, hts0, hX, hbl, hlocks, hgv⟩ := C0
  have hown : s.vm.findClass RL = some mi.cls := hown0
  have hts : ∀ w ∈ wsL_law, w.before #[Value.ref b] s = true := fun w h => hts0 w (wsL_law_in w h)
  have hA : ∀ q : Nat, s.heap.size ≤ q → (fun q : Nat => s.heap.size ≤ q) q := fun _ h => h
  have hbA : ¬ (fun q : Nat => s.heap.size ≤ q) b := Nat.not_le.mpr hbl
  obtain ⟨⟨⟨h0, h1, h2, hg3, h4, h5⟩, hkd, hbx, hlq, hfd, hcr⟩, hms, hag, hfr⟩ := id hI
  refine lv_aload_n hx hb dL_law_336 rfl (lv_at hl 2 rfl) ?_
  refine lv_aload_n hx hb dL_law_337 rfl (lv_at hl 3 rfl) ?_
  refine lv_iload_n hx hb dL_law_338 rfl (lv_at hl 0 rfl) ?_
  refine lv_iconst (v := nI 1) hx hb dL_law_339 (by decide) ?_
  refine lv_iadd hx hb dL_law_340 ?_
  refine h_topi (y := nI (i + 1)) (nI_add _ _) ?_
  refine h_sld hx hb hX hbl hbA hS (i + 1) rfl (by omega) (by omega) dL_law_341 ?_
  refine lv_aload_n hx hb dL_law_342 rfl (lv_at hl 3 rfl) ?_
  refine lv_iload_n hx hb dL_law_343 rfl (lv_at hl 0 rfl) ?_
  refine lv_iconst (v := nI 2) hx hb dL_law_344 (by decide) ?_
  refine lv_iadd hx hb dL_law_345 ?_
  refine h_topi (y := nI (i + 2)) (nI_add _ _) ?_
  refine h_sld hx hb hX hbl hbA hS (i + 2) rfl (by omega) (by omega) dL_law_346 ?_
  refine vp_callSi (va_Run.run (va_runV (As := [.int (xs (i + 1)), .int (xs (i + 2))]) (rest := []) ⟨hx, hb, hml, hown, hts⟩ (m_X5_about l D ox cI cJ cZ S h0 (xs (i + 1)) (xs (i + 2))) (cwV 2 hts gL_law_X5_about rfl rfl rfl (by decide +kernel) ⟨Nat.le_of_ble_eq_true rfl, Nat.le_of_ble_eq_true rfl⟩) (h_preR hK hPx 0 rfl rfl rfl) rfl rfl hl.1 rfl (lv_room (Nat.le_of_ble_eq_true rfl)) dL_law_347 ⟨Nat.le_of_ble_eq_true rfl, Nat.le_of_ble_eq_true rfl⟩)) (fun rx hrx => ?_)
  subst hrx
  refine lv_aload_n hx hb dL_law_350 rfl (lv_at hl 1 rfl) ?_
  refine lv_aload_n hx hb dL_law_351 rfl (lv_at hl 3 rfl) ?_
  refine lv_iload_n hx hb dL_law_352 rfl (lv_at hl 0 rfl) ?_
  refine lv_iconst (v := nI 1) hx hb dL_law_353 (by decide) ?_
  refine lv_iadd hx hb dL_law_354 ?_
  refine h_topi (y := nI (i + 1)) (nI_add _ _) ?_
  refine h_sld hx hb hX hbl hbA hS (i + 1) rfl (by omega) (by omega) dL_law_355 ?_
  refine lv_aload_n hx hb dL_law_356 rfl (lv_at hl 3 rfl) ?_
  refine lv_iload_n hx hb dL_law_357 rfl (lv_at hl 0 rfl) ?_
  refine lv_iconst (v := nI 2) hx hb dL_law_358 (by decide) ?_
  refine lv_iadd hx hb dL_law_359 ?_
  refine h_topi (y := nI (i + 2)) (nI_add _ _) ?_
  refine h_sld hx hb hX hbl hbA hS (i + 2) rfl (by omega) (by omega) dL_law_360 ?_
  refine vp_callSi (va_Run.run (va_runV (As := [.int (xs (i + 1)), .int (xs (i + 2))]) (rest := [.int (a_about S (xs (i + 1)) (xs (i + 2)))]) ⟨hx, hb, hml, hown, hts⟩ (m_X6_about l D om cI cJ cZ S h0 (xs (i + 1)) (xs (i + 2))) (cwV 2 hts gL_law_X6_about rfl rfl rfl (by decide +kernel) ⟨Nat.le_of_ble_eq_true rfl, Nat.le_of_ble_eq_true rfl⟩) (h_preR hK hPm 0 rfl rfl rfl) rfl rfl hl.1 rfl (lv_room (Nat.le_of_ble_eq_true rfl)) dL_law_361 ⟨Nat.le_of_ble_eq_true rfl, Nat.le_of_ble_eq_true rfl⟩)) (fun rm hrm => ?_)
  subst hrm
  refine lv_icmp_eq (tgt := 935) hx hb dL_law_364 (by decide) (fun _ => ?_) (fun c9 => absurd rfl c9)
  exact kk S H locs hI.mono hPx hPm hDx hDm hS
set_option maxHeartbeats 4000000 in
set_option maxRecDepth 100000 in
theorem lw_turbine {pg : Program} {l : Launch} {ev : Env} {s : State} {mi : MethodId} {below : List Frame} {meth : Method} {cd : Code} {D : va_G} {ox om : Nat → Nat} {cI cJ cZ : ClassId} {b L : Nat} {xs : Nat → Int32} (C0 : lw_At pg s mi meth cd b L xs) (hK : va_K D vwCl (hg_ty cI cJ cZ) s) (hdj : ∀ i j, i < 26 → j < 21 → ox i ≠ om j) (hL : L ≤ 4096) {S : hg_S} {i k : Nat} (hI : hg_Inv S k) (hk : k ≤ 512) (hi : i + 8 ≤ L) {H : Heap} {locs : List Loc} {ls : Array Slot} (hPx : va_P D vwCl (xW ox cI cJ cZ S) H) (hPm : va_P D vwCl (mW om cI cJ cZ S) H) (hDx : va_D (fun q : Nat => s.heap.size ≤ q) (xW ox cI cJ cZ S)) (hDm : va_D (fun q : Nat => s.heap.size ≤ q) (mW om cI cJ cZ S)) (hS : va_S (fun q : Nat => s.heap.size ≤ q) s.heap H locs) (hl : lv_has ls 4 [(3, .int (nI i)), (2, .ref (om 0)), (1, .ref (ox 0)), (0, .ref b)]) (kk : ∀ (S' : hg_S) (H : Heap) (locs : List Loc), hg_Inv S' (k + 1) → va_P D vwCl (xW ox cI cJ cZ S') H → va_P D vwCl (mW om cI cJ cZ S') H → va_D (fun q : Nat => s.heap.size ≤ q) (xW ox cI cJ cZ S') → va_D (fun q : Nat => s.heap.size ≤ q) (mW om cI cJ cZ S') → va_S (fun q : Nat => s.heap.size ≤ q) s.heap H locs → W pg l ev room_1 s mi #[Value.ref b] below meth cd H locs 47 379 (lw_Z below #[Value.ref b] s) (F0 mi 935 ls [])) : W pg l ev room_1 s mi #[Value.ref b] below meth cd H locs 47 379 (lw_Z below #[Value.ref b] s) (F0 mi 369 ls []) := by
  obtain ⟨hx, hb, hr, hml, hown0, hts0, hX, hbl, hlocks, hgv⟩ := C0
  have hown : s.vm.findClass RL = some mi.cls := hown0
  have hts : ∀ w ∈ wsL_law, w.before #[Value.ref b] s = true := fun w h => hts0 w (wsL_law_in w h)
  have hA : ∀ q : Nat, s.heap.size ≤ q → (fun q : Nat => s.heap.size ≤ q) q := fun _ h => h
  have hbA : ¬ (fun q : Nat => s.heap.size ≤ q) b := Nat.not_le.mpr hbl
  obtain ⟨⟨⟨h0, h1, h2, hg3, h4, h5⟩, hkd, hbx, hlq, hfd, hcr⟩, hms, hag, hfr⟩ := id hI
  refine lv_aload_n hx hb dL_law_369 rfl (lv_at hl 2 rfl) ?_
  refine lv_aload_n hx hb dL_law_370 rfl (lv_at hl 3 rfl) ?_
  refine lv_iload_n hx hb dL_law_371 rfl (lv_at hl 0 rfl) ?_
  refine lv_iconst (v := nI 1) hx hb dL_law_372 (by decide) ?_
  refine lv_iadd hx hb dL_law_373 ?_
  refine h_topi (y := nI (i + 1)) (nI_add _ _) ?_
  refine h_sld hx hb hX hbl hbA hS (i + 1) rfl (by omega) (by omega) dL_law_374 ?_
  refine lv_aload_n hx hb dL_law_375 rfl (lv_at hl 3 rfl) ?_
  refine lv_iload_n hx hb dL_law_376 rfl (lv_at hl 0 rfl) ?_
  refine lv_iconst (v := nI 2) hx hb dL_law_377 (by decide) ?_
  refine lv_iadd hx hb dL_law_378 ?_
  refine h_topi (y := nI (i + 2)) (nI_add _ _) ?_
  refine h_sld hx hb hX hbl hbA hS (i + 2) rfl (by omega) (by omega) dL_law_379 ?_
  refine lv_aload_n hx hb dL_law_380 rfl (lv_at hl 3 rfl) ?_
  refine lv_iload_n hx hb dL_law_381 rfl (lv_at hl 0 rfl) ?_
  refine lv_iconst (v := nI 3) hx hb dL_law_382 (by decide) ?_
  refine lv_iadd hx hb dL_law_383 ?_
  refine h_topi (y := nI (i + 3)) (nI_add _ _) ?_
  refine h_sld hx hb hX hbl hbA hS (i + 3) rfl (by omega) (by omega) dL_law_384 ?_
  refine h_lcalli (w1 := xW ox cI cJ cZ ((r_turb S (xs (i + 1)) (xs (i + 2)) (xs (i + 3))).2)) (wr := mW om cI cJ cZ S) (va_runV (As := [.int (xs (i + 1)), .int (xs (i + 2)), .int (xs (i + 3))]) (rest := []) ⟨hx, hb, hml, hown, hts⟩ (m_X5_turbine l D ox cI cJ cZ S H.size h1 (xs (i + 1)) (xs (i + 2)) (xs (i + 3))) (cwV 3 hts gL_law_X5_turbine rfl rfl rfl (by decide +kernel) ⟨Nat.le_of_ble_eq_true rfl, Nat.le_of_ble_eq_true rfl⟩) (h_preW hK hPx hDx 0 rfl rfl rfl) rfl rfl hl.1 rfl (lv_room (Nat.le_of_ble_eq_true rfl)) dL_law_385 ⟨Nat.le_of_ble_eq_true rfl, Nat.le_of_ble_eq_true rfl⟩) hS hA hDx hPm (dj_xm hdj) (fun rx H locs hrx hPx hPm hDx hS => ?_)
  subst hrx
  refine lv_aload_n hx hb dL_law_388 rfl (lv_at hl 1 rfl) ?_
  refine lv_aload_n hx hb dL_law_389 rfl (lv_at hl 3 rfl) ?_
  refine lv_iload_n hx hb dL_law_390 rfl (lv_at hl 0 rfl) ?_
  refine lv_iconst (v := nI 1) hx hb dL_law_391 (by decide) ?_
  refine lv_iadd hx hb dL_law_392 ?_
  refine h_topi (y := nI (i + 1)) (nI_add _ _) ?_
  refine h_sld hx hb hX hbl hbA hS (i + 1) rfl (by omega) (by omega) dL_law_393 ?_
  refine lv_aload_n hx hb dL_law_394 rfl (lv_at hl 3 rfl) ?_
  refine lv_iload_n hx hb dL_law_395 rfl (lv_at hl 0 rfl) ?_
  refine lv_iconst (v := nI 2) hx hb dL_law_396 (by decide) ?_
  refine lv_iadd hx hb dL_law_397 ?_
  refine h_topi (y := nI (i + 2)) (nI_add _ _) ?_
  refine h_sld hx hb hX hbl hbA hS (i + 2) rfl (by omega) (by omega) dL_law_398 ?_
  refine lv_aload_n hx hb dL_law_399 rfl (lv_at hl 3 rfl) ?_
  refine lv_iload_n hx hb dL_law_400 rfl (lv_at hl 0 rfl) ?_
  refine lv_iconst (v := nI 3) hx hb dL_law_401 (by decide) ?_
  refine lv_iadd hx hb dL_law_402 ?_
  refine h_topi (y := nI (i + 3)) (nI_add _ _) ?_
  refine h_sld hx hb hX hbl hbA hS (i + 3) rfl (by omega) (by omega) dL_law_403 ?_
  refine h_lcalli (w1 := mW om cI cJ cZ ((r_turb S (xs (i + 1)) (xs (i + 2)) (xs (i + 3))).2)) (wr := xW ox cI cJ cZ ((r_turb S (xs (i + 1)) (xs (i + 2)) (xs (i + 3))).2)) (va_runV (As := [.int (xs (i + 1)), .int (xs (i + 2)), .int (xs (i + 3))]) (rest := [.int ((r_turb S (xs (i + 1)) (xs (i + 2)) (xs (i + 3))).1)]) ⟨hx, hb, hml, hown, hts⟩ (m_X6_turbine l D om cI cJ cZ S H.size h1 (xs (i + 1)) (xs (i + 2)) (xs (i + 3))) (cwV 3 hts gL_law_X6_turbine rfl rfl rfl (by decide +kernel) ⟨Nat.le_of_ble_eq_true rfl, Nat.le_of_ble_eq_true rfl⟩) (h_preW hK hPm hDm 0 rfl rfl rfl) rfl rfl hl.1 rfl (lv_room (Nat.le_of_ble_eq_true rfl)) dL_law_404 ⟨Nat.le_of_ble_eq_true rfl, Nat.le_of_ble_eq_true rfl⟩) hS hA hDm hPx (dj_mx hdj) (fun rm H locs hrm hPm hPx hDm hS => ?_)
  subst hrm
  refine lv_icmp_eq (tgt := 935) hx hb dL_law_407 (by decide) (fun _ => ?_) (fun c9 => absurd rfl c9)
  exact kk _ H locs (inv_turb hI (xs (i + 1)) (xs (i + 2)) (xs (i + 3))) hPx hPm hDx hDm hS
set_option maxHeartbeats 4000000 in
set_option maxRecDepth 100000 in
theorem lw_on {pg : Program} {l : Launch} {ev : Env} {s : State} {mi : MethodId} {below : List Frame} {meth : Method} {cd : Code} {D : va_G} {ox om : Nat → Nat} {cI cJ cZ : ClassId} {b L : Nat} {xs : Nat → Int32} (C0 : lw_At pg s mi meth cd b L xs) (hK : va_K D vwCl (hg_ty cI cJ cZ) s) (hdj : ∀ i j, i < 26 → j < 21 → ox i ≠ om j) (hL : L ≤ 4096) {S : hg_S} {i k : Nat} (hI : hg_Inv S k) (hk : k ≤ 512) (hi : i + 8 ≤ L) {H : Heap} {locs : List Loc} {ls : Array Slot} (hPx : va_P D vwCl (xW ox cI cJ cZ S) H) (hPm : va_P D vwCl (mW om cI cJ cZ S) H) (hDx : va_D (fun q : Nat => s.heap.size ≤ q) (xW ox cI cJ cZ S)) (hDm : va_D (fun q : Nat => s.heap.size ≤ q) (mW om cI cJ cZ S)) (hS : va_S (fun q : Nat => s.heap.size ≤ q) s.heap H locs) (hl : lv_has ls 4 [(3, .int (nI i)), (2, .ref (om 0)), (1, .ref (ox 0)), (0, .ref b)]) (kk : ∀ (S' : hg_S) (H : Heap) (locs : List Loc), hg_Inv S' (k + 1) → va_P D vwCl (xW ox cI cJ cZ S') H → va_P D vwCl (mW om cI cJ cZ S') H → va_D (fun q : Nat => s.heap.size ≤ q) (xW ox cI cJ cZ S') → va_D (fun q : Nat => s.heap.size ≤ q) (mW om cI cJ cZ S') → va_S (fun q : Nat => s.heap.size ≤ q) s.heap H locs → W pg l ev room_1 s mi #[Value.ref b] below meth cd H locs 47 379 (lw_Z below #[Value.ref b] s) (F0 mi 935 ls [])) : W pg l ev room_1 s mi #[Value.ref b] below meth cd H locs 47 379 (lw_Z below #[Value.ref b] s) (F0 mi 412 ls []) := by
  obtain ⟨hx, hb, hr, hml, hown0, hts0, hX, hbl, hlocks, hgv⟩ := C0
  have hown : s.vm.findClass RL = some mi.cls := hown0
  have hts : ∀ w ∈ wsL_law, w.before #[Value.ref b] s = true := fun w h => hts0 w (wsL_law_in w h)
  have hA : ∀ q : Nat, s.heap.size ≤ q → (fun q : Nat => s.heap.size ≤ q) q := fun _ h => h
  have hbA : ¬ (fun q : Nat => s.heap.size ≤ q) b := Nat.not_le.mpr hbl
  obtain ⟨⟨⟨h0, h1, h2, hg3, h4, h5⟩, hkd, hbx, hlq, hfd, hcr⟩, hms, hag, hfr⟩ := id hI
  refine lv_aload_n hx hb dL_law_412 rfl (lv_at hl 2 rfl) ?_
  refine lv_aload_n hx hb dL_law_413 rfl (lv_at hl 3 rfl) ?_
  refine lv_iload_n hx hb dL_law_414 rfl (lv_at hl 0 rfl) ?_
  refine lv_iconst (v := nI 1) hx hb dL_law_415 (by decide) ?_
  refine lv_iadd hx hb dL_law_416 ?_
  refine h_topi (y := nI (i + 1)) (nI_add _ _) ?_
  refine h_sld hx hb hX hbl hbA hS (i + 1) rfl (by omega) (by omega) dL_law_417 ?_
  refine lv_aload_n hx hb dL_law_418 rfl (lv_at hl 3 rfl) ?_
  refine lv_iload_n hx hb dL_law_419 rfl (lv_at hl 0 rfl) ?_
  refine lv_iconst (v := nI 2) hx hb dL_law_420 (by decide) ?_
  refine lv_iadd hx hb dL_law_421 ?_
  refine h_topi (y := nI (i + 2)) (nI_add _ _) ?_
  refine h_sld hx hb hX hbl hbA hS (i + 2) rfl (by omega) (by omega) dL_law_422 ?_
  refine lv_if_eq (tgt := 430) hx hb dL_law_423 (by decide) (fun c => ?_) (fun c => ?_)
  · skip
    refine lv_iconst (v := nI 0) hx hb dL_law_430 (by decide) ?_
    refine h_lcalli (w1 := xW ox cI cJ cZ ((r_on S (xs (i + 1)) (nI 0)).2)) (wr := mW om cI cJ cZ S) (va_runV (As := [.int (xs (i + 1)), .int (nI 0)]) (rest := []) ⟨hx, hb, hml, hown, hts⟩ (m_X5_on l D ox cI cJ cZ S H.size h1 (xs (i + 1)) (nI 0) (by decide)) (cwV 2 hts gL_law_X5_on rfl rfl rfl (by decide +kernel) ⟨Nat.le_of_ble_eq_true rfl, Nat.le_of_ble_eq_true rfl⟩) (h_preW hK hPx hDx 0 rfl rfl rfl) rfl rfl hl.1 rfl (lv_room (Nat.le_of_ble_eq_true rfl)) dL_law_431 ⟨Nat.le_of_ble_eq_true rfl, Nat.le_of_ble_eq_true rfl⟩) hS hA hDx hPm (dj_xm hdj) (fun rx H locs hrx hPx hPm hDx hS => ?_)
    subst hrx
    refine lv_aload_n hx hb dL_law_434 rfl (lv_at hl 1 rfl) ?_
    refine lv_aload_n hx hb dL_law_435 rfl (lv_at hl 3 rfl) ?_
    refine lv_iload_n hx hb dL_law_436 rfl (lv_at hl 0 rfl) ?_
    refine lv_iconst (v := nI 1) hx hb dL_law_437 (by decide) ?_
    refine lv_iadd hx hb dL_law_438 ?_
    refine h_topi (y := nI (i + 1)) (nI_add _ _) ?_
    refine h_sld hx hb hX hbl hbA hS (i + 1) rfl (by omega) (by omega) dL_law_439 ?_
    refine lv_aload_n hx hb dL_law_440 rfl (lv_at hl 3 rfl) ?_
    refine lv_iload_n hx hb dL_law_441 rfl (lv_at hl 0 rfl) ?_
    refine lv_iconst (v := nI 2) hx hb dL_law_442 (by decide) ?_
    refine lv_iadd hx hb dL_law_443 ?_
    refine h_topi (y := nI (i + 2)) (nI_add _ _) ?_
    refine h_sld hx hb hX hbl hbA hS (i + 2) rfl (by omega) (by omega) dL_law_444 ?_
    refine lv_if_eq (tgt := 452) hx hb dL_law_445 (by decide) (fun _ => ?_) (fun c2 => absurd c c2)
    refine lv_iconst (v := nI 0) hx hb dL_law_452 (by decide) ?_
    refine h_lcalli (w1 := mW om cI cJ cZ ((r_on S (xs (i + 1)) (nI 0)).2)) (wr := xW ox cI cJ cZ ((r_on S (xs (i + 1)) (nI 0)).2)) (va_runV (As := [.int (xs (i + 1)), .int (nI 0)]) (rest := [.int ((r_on S (xs (i + 1)) (nI 0)).1)]) ⟨hx, hb, hml, hown, hts⟩ (m_X6_on l D om cI cJ cZ S H.size h1 (xs (i + 1)) (nI 0) (by decide)) (cwV 2 hts gL_law_X6_on rfl rfl rfl (by decide +kernel) ⟨Nat.le_of_ble_eq_true rfl, Nat.le_of_ble_eq_true rfl⟩) (h_preW hK hPm hDm 0 rfl rfl rfl) rfl rfl hl.1 rfl (lv_room (Nat.le_of_ble_eq_true rfl)) dL_law_453 ⟨Nat.le_of_ble_eq_true rfl, Nat.le_of_ble_eq_true rfl⟩) hS hA hDm hPx (dj_mx hdj) (fun rm H locs hrm hPm hPx hDm hS => ?_)
    subst hrm
    refine lv_icmp_eq (tgt := 935) hx hb dL_law_456 (by decide) (fun _ => ?_) (fun c9 => absurd rfl c9)
    exact kk _ H locs (inv_on hI (xs (i + 1)) (nI 0)) hPx hPm hDx hDm hS
  · skip
    refine lv_iconst (v := nI 1) hx hb dL_law_426 (by decide) ?_
    refine lv_goto (tgt := 431) hx hb dL_law_427 (by decide) ?_
    refine h_lcalli (w1 := xW ox cI cJ cZ ((r_on S (xs (i + 1)) (nI 1)).2)) (wr := mW om cI cJ cZ S) (va_runV (As := [.int (xs (i + 1)), .int (nI 1)]) (rest := []) ⟨hx, hb, hml, hown, hts⟩ (m_X5_on l D ox cI cJ cZ S H.size h1 (xs (i + 1)) (nI 1) (by decide)) (cwV 2 hts gL_law_X5_on rfl rfl rfl (by decide +kernel) ⟨Nat.le_of_ble_eq_true rfl, Nat.le_of_ble_eq_true rfl⟩) (h_preW hK hPx hDx 0 rfl rfl rfl) rfl rfl hl.1 rfl (lv_room (Nat.le_of_ble_eq_true rfl)) dL_law_431 ⟨Nat.le_of_ble_eq_true rfl, Nat.le_of_ble_eq_true rfl⟩) hS hA hDx hPm (dj_xm hdj) (fun rx H locs hrx hPx hPm hDx hS => ?_)
    subst hrx
    refine lv_aload_n hx hb dL_law_434 rfl (lv_at hl 1 rfl) ?_
    refine lv_aload_n hx hb dL_law_435 rfl (lv_at hl 3 rfl) ?_
    refine lv_iload_n hx hb dL_law_436 rfl (lv_at hl 0 rfl) ?_
    refine lv_iconst (v := nI 1) hx hb dL_law_437 (by decide) ?_
    refine lv_iadd hx hb dL_law_438 ?_
    refine h_topi (y := nI (i + 1)) (nI_add _ _) ?_
    refine h_sld hx hb hX hbl hbA hS (i + 1) rfl (by omega) (by omega) dL_law_439 ?_
    refine lv_aload_n hx hb dL_law_440 rfl (lv_at hl 3 rfl) ?_
    refine lv_iload_n hx hb dL_law_441 rfl (lv_at hl 0 rfl) ?_
    refine lv_iconst (v := nI 2) hx hb dL_law_442 (by decide) ?_
    refine lv_iadd hx hb dL_law_443 ?_
    refine h_topi (y := nI (i + 2)) (nI_add _ _) ?_
    refine h_sld hx hb hX hbl hbA hS (i + 2) rfl (by omega) (by omega) dL_law_444 ?_
    refine lv_if_eq (tgt := 452) hx hb dL_law_445 (by decide) (fun c2 => absurd c2 c) (fun _ => ?_)
    refine lv_iconst (v := nI 1) hx hb dL_law_448 (by decide) ?_
    refine lv_goto (tgt := 453) hx hb dL_law_449 (by decide) ?_
    refine h_lcalli (w1 := mW om cI cJ cZ ((r_on S (xs (i + 1)) (nI 1)).2)) (wr := xW ox cI cJ cZ ((r_on S (xs (i + 1)) (nI 1)).2)) (va_runV (As := [.int (xs (i + 1)), .int (nI 1)]) (rest := [.int ((r_on S (xs (i + 1)) (nI 1)).1)]) ⟨hx, hb, hml, hown, hts⟩ (m_X6_on l D om cI cJ cZ S H.size h1 (xs (i + 1)) (nI 1) (by decide)) (cwV 2 hts gL_law_X6_on rfl rfl rfl (by decide +kernel) ⟨Nat.le_of_ble_eq_true rfl, Nat.le_of_ble_eq_true rfl⟩) (h_preW hK hPm hDm 0 rfl rfl rfl) rfl rfl hl.1 rfl (lv_room (Nat.le_of_ble_eq_true rfl)) dL_law_453 ⟨Nat.le_of_ble_eq_true rfl, Nat.le_of_ble_eq_true rfl⟩) hS hA hDm hPx (dj_mx hdj) (fun rm H locs hrm hPm hPx hDm hS => ?_)
    subst hrm
    refine lv_icmp_eq (tgt := 935) hx hb dL_law_456 (by decide) (fun _ => ?_) (fun c9 => absurd rfl c9)
    exact kk _ H locs (inv_on hI (xs (i + 1)) (nI 1)) hPx hPm hDx hDm hS
set_option maxHeartbeats 4000000 in
set_option maxRecDepth 100000 in
theorem lw_at {pg : Program} {l : Launch} {ev : Env} {s : State} {mi : MethodId} {below : List Frame} {meth : Method} {cd : Code} {D : va_G} {ox om : Nat → Nat} {cI cJ cZ : ClassId} {b L : Nat} {xs : Nat → Int32} (C0 : lw_At pg s mi meth cd b L xs) (hK : va_K D vwCl (hg_ty cI cJ cZ) s) (hdj : ∀ i j, i < 26 → j < 21 → ox i ≠ om j) (hL : L ≤ 4096) {S : hg_S} {i k : Nat} (hI : hg_Inv S k) (hk : k ≤ 512) (hi : i + 8 ≤ L) {H : Heap} {locs : List Loc} {ls : Array Slot} (hPx : va_P D vwCl (xW ox cI cJ cZ S) H) (hPm : va_P D vwCl (mW om cI cJ cZ S) H) (hDx : va_D (fun q : Nat => s.heap.size ≤ q) (xW ox cI cJ cZ S)) (hDm : va_D (fun q : Nat => s.heap.size ≤ q) (mW om cI cJ cZ S)) (hS : va_S (fun q : Nat => s.heap.size ≤ q) s.heap H locs) (hl : lv_has ls 4 [(3, .int (nI i)), (2, .ref (om 0)), (1, .ref (ox 0)), (0, .ref b)]) (kk : ∀ (S' : hg_S) (H : Heap) (locs : List Loc), hg_Inv S' (k + 1) → va_P D vwCl (xW ox cI cJ cZ S') H → va_P D vwCl (mW om cI cJ cZ S') H → va_D (fun q : Nat => s.heap.size ≤ q) (xW ox cI cJ cZ S') → va_D (fun q : Nat => s.heap.size ≤ q) (mW om cI cJ cZ S') → va_S (fun q : Nat => s.heap.size ≤ q) s.heap H locs → W pg l ev room_1 s mi #[Value.ref b] below meth cd H locs 47 379 (lw_Z below #[Value.ref b] s) (F0 mi 935 ls [])) : W pg l ev room_1 s mi #[Value.ref b] below meth cd H locs 47 379 (lw_Z below #[Value.ref b] s) (F0 mi 461 ls []) := by
  obtain ⟨hx, hb, hr, hml, hown0, hts0, hX, hbl, hlocks, hgv⟩ := C0
  have hown : s.vm.findClass RL = some mi.cls := hown0
  have hts : ∀ w ∈ wsL_law, w.before #[Value.ref b] s = true := fun w h => hts0 w (wsL_law_in w h)
  have hA : ∀ q : Nat, s.heap.size ≤ q → (fun q : Nat => s.heap.size ≤ q) q := fun _ h => h
  have hbA : ¬ (fun q : Nat => s.heap.size ≤ q) b := Nat.not_le.mpr hbl
  obtain ⟨⟨⟨h0, h1, h2, hg3, h4, h5⟩, hkd, hbx, hlq, hfd, hcr⟩, hms, hag, hfr⟩ := id hI
  refine lv_aload_n hx hb dL_law_461 rfl (lv_at hl 2 rfl) ?_
  refine lv_aload_n hx hb dL_law_462 rfl (lv_at hl 3 rfl) ?_
  refine lv_iload_n hx hb dL_law_463 rfl (lv_at hl 0 rfl) ?_
  refine lv_iconst (v := nI 1) hx hb dL_law_464 (by decide) ?_
  refine lv_iadd hx hb dL_law_465 ?_
  refine h_topi (y := nI (i + 1)) (nI_add _ _) ?_
  refine h_sld hx hb hX hbl hbA hS (i + 1) rfl (by omega) (by omega) dL_law_466 ?_
  refine lv_aload_n hx hb dL_law_467 rfl (lv_at hl 3 rfl) ?_
  refine lv_iload_n hx hb dL_law_468 rfl (lv_at hl 0 rfl) ?_
  refine lv_iconst (v := nI 2) hx hb dL_law_469 (by decide) ?_
  refine lv_iadd hx hb dL_law_470 ?_
  refine h_topi (y := nI (i + 2)) (nI_add _ _) ?_
  refine h_sld hx hb hX hbl hbA hS (i + 2) rfl (by omega) (by omega) dL_law_471 ?_
  refine vp_callSi (va_Run.run (va_runV (As := [.int (xs (i + 1)), .int (xs (i + 2))]) (rest := []) ⟨hx, hb, hml, hown, hts⟩ (m_X5_at l D ox cI cJ cZ S h0 h1 (xs (i + 1)) (xs (i + 2))) (cwV 2 hts gL_law_X5_at rfl rfl rfl (by decide +kernel) ⟨Nat.le_of_ble_eq_true rfl, Nat.le_of_ble_eq_true rfl⟩) (h_preR hK hPx 0 rfl rfl rfl) rfl rfl hl.1 rfl (lv_room (Nat.le_of_ble_eq_true rfl)) dL_law_472 ⟨Nat.le_of_ble_eq_true rfl, Nat.le_of_ble_eq_true rfl⟩)) (fun rx hrx => ?_)
  subst hrx
  refine lv_aload_n hx hb dL_law_475 rfl (lv_at hl 1 rfl) ?_
  refine lv_aload_n hx hb dL_law_476 rfl (lv_at hl 3 rfl) ?_
  refine lv_iload_n hx hb dL_law_477 rfl (lv_at hl 0 rfl) ?_
  refine lv_iconst (v := nI 1) hx hb dL_law_478 (by decide) ?_
  refine lv_iadd hx hb dL_law_479 ?_
  refine h_topi (y := nI (i + 1)) (nI_add _ _) ?_
  refine h_sld hx hb hX hbl hbA hS (i + 1) rfl (by omega) (by omega) dL_law_480 ?_
  refine lv_aload_n hx hb dL_law_481 rfl (lv_at hl 3 rfl) ?_
  refine lv_iload_n hx hb dL_law_482 rfl (lv_at hl 0 rfl) ?_
  refine lv_iconst (v := nI 2) hx hb dL_law_483 (by decide) ?_
  refine lv_iadd hx hb dL_law_484 ?_
  refine h_topi (y := nI (i + 2)) (nI_add _ _) ?_
  refine h_sld hx hb hX hbl hbA hS (i + 2) rfl (by omega) (by omega) dL_law_485 ?_
  refine vp_callSi (va_Run.run (va_runV (As := [.int (xs (i + 1)), .int (xs (i + 2))]) (rest := [.int (a_at S (xs (i + 1)) (xs (i + 2)))]) ⟨hx, hb, hml, hown, hts⟩ (m_X6_at l D om cI cJ cZ S h0 h1 hkd (xs (i + 1)) (xs (i + 2))) (cwV 2 hts gL_law_X6_at rfl rfl rfl (by decide +kernel) ⟨Nat.le_of_ble_eq_true rfl, Nat.le_of_ble_eq_true rfl⟩) (h_preR hK hPm 0 rfl rfl rfl) rfl rfl hl.1 rfl (lv_room (Nat.le_of_ble_eq_true rfl)) dL_law_486 ⟨Nat.le_of_ble_eq_true rfl, Nat.le_of_ble_eq_true rfl⟩)) (fun rm hrm => ?_)
  subst hrm
  refine lv_icmp_eq (tgt := 935) hx hb dL_law_489 (by decide) (fun _ => ?_) (fun c9 => absurd rfl c9)
  exact kk S H locs hI.mono hPx hPm hDx hDm hS
set_option maxHeartbeats 4000000 in
set_option maxRecDepth 100000 in
theorem lw_point {pg : Program} {l : Launch} {ev : Env} {s : State} {mi : MethodId} {below : List Frame} {meth : Method} {cd : Code} {D : va_G} {ox om : Nat → Nat} {cI cJ cZ : ClassId} {b L : Nat} {xs : Nat → Int32} (C0 : lw_At pg s mi meth cd b L xs) (hK : va_K D vwCl (hg_ty cI cJ cZ) s) (hdj : ∀ i j, i < 26 → j < 21 → ox i ≠ om j) (hL : L ≤ 4096) {S : hg_S} {i k : Nat} (hI : hg_Inv S k) (hk : k ≤ 512) (hi : i + 8 ≤ L) {H : Heap} {locs : List Loc} {ls : Array Slot} (hPx : va_P D vwCl (xW ox cI cJ cZ S) H) (hPm : va_P D vwCl (mW om cI cJ cZ S) H) (hDx : va_D (fun q : Nat => s.heap.size ≤ q) (xW ox cI cJ cZ S)) (hDm : va_D (fun q : Nat => s.heap.size ≤ q) (mW om cI cJ cZ S)) (hS : va_S (fun q : Nat => s.heap.size ≤ q) s.heap H locs) (hl : lv_has ls 4 [(3, .int (nI i)), (2, .ref (om 0)), (1, .ref (ox 0)), (0, .ref b)]) (kk : ∀ (S' : hg_S) (H : Heap) (locs : List Loc), hg_Inv S' (k + 1) → va_P D vwCl (xW ox cI cJ cZ S') H → va_P D vwCl (mW om cI cJ cZ S') H → va_D (fun q : Nat => s.heap.size ≤ q) (xW ox cI cJ cZ S') → va_D (fun q : Nat => s.heap.size ≤ q) (mW om cI cJ cZ S') → va_S (fun q : Nat => s.heap.size ≤ q) s.heap H locs → W pg l ev room_1 s mi #[Value.ref b] below meth cd H locs 47 379 (lw_Z below #[Value.ref b] s) (F0 mi 935 ls [])) : W pg l ev room_1 s mi #[Value.ref b] below meth cd H locs 47 379 (lw_Z below #[Value.ref b] s) (F0 mi 494 ls []) := by
  obtain ⟨hx, hb, hr, hml, hown0, hts0, hX, hbl, hlocks, hgv⟩ := C0
  have hown : s.vm.findClass RL = some mi.cls := hown0
  have hts : ∀ w ∈ wsL_law, w.before #[Value.ref b] s = true := fun w h => hts0 w (wsL_law_in w h)
  have hA : ∀ q : Nat, s.heap.size ≤ q → (fun q : Nat => s.heap.size ≤ q) q := fun _ h => h
  have hbA : ¬ (fun q : Nat => s.heap.size ≤ q) b := Nat.not_le.mpr hbl
  obtain ⟨⟨⟨h0, h1, h2, hg3, h4, h5⟩, hkd, hbx, hlq, hfd, hcr⟩, hms, hag, hfr⟩ := id hI
  refine lv_aload_n hx hb dL_law_494 rfl (lv_at hl 2 rfl) ?_
  refine vp_callSi (va_Run.run (va_runV (As := []) (rest := []) ⟨hx, hb, hml, hown, hts⟩ (m_X5_point l D ox cI cJ cZ S h0 h1 ) (cwV 0 hts gL_law_X5_point rfl rfl rfl (by decide +kernel) ⟨Nat.le_of_ble_eq_true rfl, Nat.le_of_ble_eq_true rfl⟩) (h_preR hK hPx 0 rfl rfl rfl) rfl rfl hl.1 rfl (lv_room (Nat.le_of_ble_eq_true rfl)) dL_law_495 ⟨Nat.le_of_ble_eq_true rfl, Nat.le_of_ble_eq_true rfl⟩)) (fun rx hrx => ?_)
  subst hrx
  refine lv_aload_n hx hb dL_law_498 rfl (lv_at hl 1 rfl) ?_
  refine vp_callSi (va_Run.run (va_runV (As := []) (rest := [.int (f_point S)]) ⟨hx, hb, hml, hown, hts⟩ (m_X6_point l D om cI cJ cZ S h0 h1 hkd ) (cwV 0 hts gL_law_X6_point rfl rfl rfl (by decide +kernel) ⟨Nat.le_of_ble_eq_true rfl, Nat.le_of_ble_eq_true rfl⟩) (h_preR hK hPm 0 rfl rfl rfl) rfl rfl hl.1 rfl (lv_room (Nat.le_of_ble_eq_true rfl)) dL_law_499 ⟨Nat.le_of_ble_eq_true rfl, Nat.le_of_ble_eq_true rfl⟩)) (fun rm hrm => ?_)
  subst hrm
  refine lv_icmp_eq (tgt := 935) hx hb dL_law_502 (by decide) (fun _ => ?_) (fun c9 => absurd rfl c9)
  exact kk S H locs hI.mono hPx hPm hDx hDm hS
set_option maxHeartbeats 4000000 in
set_option maxRecDepth 100000 in
theorem lw_fill {pg : Program} {l : Launch} {ev : Env} {s : State} {mi : MethodId} {below : List Frame} {meth : Method} {cd : Code} {D : va_G} {ox om : Nat → Nat} {cI cJ cZ : ClassId} {b L : Nat} {xs : Nat → Int32} (C0 : lw_At pg s mi meth cd b L xs) (hK : va_K D vwCl (hg_ty cI cJ cZ) s) (hdj : ∀ i j, i < 26 → j < 21 → ox i ≠ om j) (hL : L ≤ 4096) {S : hg_S} {i k : Nat} (hI : hg_Inv S k) (hk : k ≤ 512) (hi : i + 8 ≤ L) {H : Heap} {locs : List Loc} {ls : Array Slot} (hPx : va_P D vwCl (xW ox cI cJ cZ S) H) (hPm : va_P D vwCl (mW om cI cJ cZ S) H) (hDx : va_D (fun q : Nat => s.heap.size ≤ q) (xW ox cI cJ cZ S)) (hDm : va_D (fun q : Nat => s.heap.size ≤ q) (mW om cI cJ cZ S)) (hS : va_S (fun q : Nat => s.heap.size ≤ q) s.heap H locs) (hl : lv_has ls 4 [(3, .int (nI i)), (2, .ref (om 0)), (1, .ref (ox 0)), (0, .ref b)]) (kk : ∀ (S' : hg_S) (H : Heap) (locs : List Loc), hg_Inv S' (k + 1) → va_P D vwCl (xW ox cI cJ cZ S') H → va_P D vwCl (mW om cI cJ cZ S') H → va_D (fun q : Nat => s.heap.size ≤ q) (xW ox cI cJ cZ S') → va_D (fun q : Nat => s.heap.size ≤ q) (mW om cI cJ cZ S') → va_S (fun q : Nat => s.heap.size ≤ q) s.heap H locs → W pg l ev room_1 s mi #[Value.ref b] below meth cd H locs 47 379 (lw_Z below #[Value.ref b] s) (F0 mi 935 ls [])) : W pg l ev room_1 s mi #[Value.ref b] below meth cd H locs 47 379 (lw_Z below #[Value.ref b] s) (F0 mi 507 ls []) := by
  obtain ⟨hx, hb, hr, hml, hown0, hts0, hX, hbl, hlocks, hgv⟩ := C0
  have hown : s.vm.findClass RL = some mi.cls := hown0
  have hts : ∀ w ∈ wsL_law, w.before #[Value.ref b] s = true := fun w h => hts0 w (wsL_law_in w h)
  have hA : ∀ q : Nat, s.heap.size ≤ q → (fun q : Nat => s.heap.size ≤ q) q := fun _ h => h
  have hbA : ¬ (fun q : Nat => s.heap.size ≤ q) b := Nat.not_le.mpr hbl
  obtain ⟨⟨⟨h0, h1, h2, hg3, h4, h5⟩, hkd, hbx, hlq, hfd, hcr⟩, hms, hag, hfr⟩ := id hI
  refine lv_aload_n hx hb dL_law_507 rfl (lv_at hl 2 rfl) ?_
  refine lv_aload_n hx hb dL_law_508 rfl (lv_at hl 3 rfl) ?_
  refine lv_iload_n hx hb dL_law_509 rfl (lv_at hl 0 rfl) ?_
  refine lv_iconst (v := nI 1) hx hb dL_law_510 (by decide) ?_
  refine lv_iadd hx hb dL_law_511 ?_
  refine h_topi (y := nI (i + 1)) (nI_add _ _) ?_
  refine h_sld hx hb hX hbl hbA hS (i + 1) rfl (by omega) (by omega) dL_law_512 ?_
  refine lv_aload_n hx hb dL_law_513 rfl (lv_at hl 3 rfl) ?_
  refine lv_iload_n hx hb dL_law_514 rfl (lv_at hl 0 rfl) ?_
  refine lv_iconst (v := nI 2) hx hb dL_law_515 (by decide) ?_
  refine lv_iadd hx hb dL_law_516 ?_
  refine h_topi (y := nI (i + 2)) (nI_add _ _) ?_
  refine h_sld hx hb hX hbl hbA hS (i + 2) rfl (by omega) (by omega) dL_law_517 ?_
  refine lv_aload_n hx hb dL_law_518 rfl (lv_at hl 3 rfl) ?_
  refine lv_iload_n hx hb dL_law_519 rfl (lv_at hl 0 rfl) ?_
  refine lv_iconst (v := nI 3) hx hb dL_law_520 (by decide) ?_
  refine lv_iadd hx hb dL_law_521 ?_
  refine h_topi (y := nI (i + 3)) (nI_add _ _) ?_
  refine h_sld hx hb hX hbl hbA hS (i + 3) rfl (by omega) (by omega) dL_law_522 ?_
  refine h_lcalli (w1 := xW ox cI cJ cZ ((r_fill S (xs (i + 1)) (xs (i + 2)) (xs (i + 3))).2)) (wr := mW om cI cJ cZ S) (va_runV (As := [.int (xs (i + 1)), .int (xs (i + 2)), .int (xs (i + 3))]) (rest := []) ⟨hx, hb, hml, hown, hts⟩ (m_X5_fill l D ox cI cJ cZ S H.size  (xs (i + 1)) (xs (i + 2)) (xs (i + 3))) (cwV 3 hts gL_law_X5_fill rfl rfl rfl (by decide +kernel) ⟨Nat.le_of_ble_eq_true rfl, Nat.le_of_ble_eq_true rfl⟩) (h_preW hK hPx hDx 0 rfl rfl rfl) rfl rfl hl.1 rfl (lv_room (Nat.le_of_ble_eq_true rfl)) dL_law_523 ⟨Nat.le_of_ble_eq_true rfl, Nat.le_of_ble_eq_true rfl⟩) hS hA hDx hPm (dj_xm hdj) (fun rx H locs hrx hPx hPm hDx hS => ?_)
  subst hrx
  refine lv_aload_n hx hb dL_law_526 rfl (lv_at hl 1 rfl) ?_
  refine lv_aload_n hx hb dL_law_527 rfl (lv_at hl 3 rfl) ?_
  refine lv_iload_n hx hb dL_law_528 rfl (lv_at hl 0 rfl) ?_
  refine lv_iconst (v := nI 1) hx hb dL_law_529 (by decide) ?_
  refine lv_iadd hx hb dL_law_530 ?_
  refine h_topi (y := nI (i + 1)) (nI_add _ _) ?_
  refine h_sld hx hb hX hbl hbA hS (i + 1) rfl (by omega) (by omega) dL_law_531 ?_
  refine lv_aload_n hx hb dL_law_532 rfl (lv_at hl 3 rfl) ?_
  refine lv_iload_n hx hb dL_law_533 rfl (lv_at hl 0 rfl) ?_
  refine lv_iconst (v := nI 2) hx hb dL_law_534 (by decide) ?_
  refine lv_iadd hx hb dL_law_535 ?_
  refine h_topi (y := nI (i + 2)) (nI_add _ _) ?_
  refine h_sld hx hb hX hbl hbA hS (i + 2) rfl (by omega) (by omega) dL_law_536 ?_
  refine lv_aload_n hx hb dL_law_537 rfl (lv_at hl 3 rfl) ?_
  refine lv_iload_n hx hb dL_law_538 rfl (lv_at hl 0 rfl) ?_
  refine lv_iconst (v := nI 3) hx hb dL_law_539 (by decide) ?_
  refine lv_iadd hx hb dL_law_540 ?_
  refine h_topi (y := nI (i + 3)) (nI_add _ _) ?_
  refine h_sld hx hb hX hbl hbA hS (i + 3) rfl (by omega) (by omega) dL_law_541 ?_
  refine h_lcalli (w1 := mW om cI cJ cZ ((r_fill S (xs (i + 1)) (xs (i + 2)) (xs (i + 3))).2)) (wr := xW ox cI cJ cZ ((r_fill S (xs (i + 1)) (xs (i + 2)) (xs (i + 3))).2)) (va_runV (As := [.int (xs (i + 1)), .int (xs (i + 2)), .int (xs (i + 3))]) (rest := [.int ((r_fill S (xs (i + 1)) (xs (i + 2)) (xs (i + 3))).1)]) ⟨hx, hb, hml, hown, hts⟩ (m_X6_fill l D om cI cJ cZ S H.size  (xs (i + 1)) (xs (i + 2)) (xs (i + 3))) (cwV 3 hts gL_law_X6_fill rfl rfl rfl (by decide +kernel) ⟨Nat.le_of_ble_eq_true rfl, Nat.le_of_ble_eq_true rfl⟩) (h_preW hK hPm hDm 0 rfl rfl rfl) rfl rfl hl.1 rfl (lv_room (Nat.le_of_ble_eq_true rfl)) dL_law_542 ⟨Nat.le_of_ble_eq_true rfl, Nat.le_of_ble_eq_true rfl⟩) hS hA hDm hPx (dj_mx hdj) (fun rm H locs hrm hPm hPx hDm hS => ?_)
  subst hrm
  refine lv_icmp_eq (tgt := 935) hx hb dL_law_545 (by decide) (fun _ => ?_) (fun c9 => absurd rfl c9)
  exact kk _ H locs (inv_fill hI (xs (i + 1)) (xs (i + 2)) (xs (i + 3))) hPx hPm hDx hDm hS
set_option maxHeartbeats 4000000 in
set_option maxRecDepth 100000 in
theorem lw_set {pg : Program} {l : Launch} {ev : Env} {s : State} {mi : MethodId} {below : List Frame} {meth : Method} {cd : Code} {D : va_G} {ox om : Nat → Nat} {cI cJ cZ : ClassId} {b L : Nat} {xs : Nat → Int32} (C0 : lw_At pg s mi meth cd b L xs) (hK : va_K D vwCl (hg_ty cI cJ cZ) s) (hdj : ∀ i j, i < 26 → j < 21 → ox i ≠ om j) (hL : L ≤ 4096) {S : hg_S} {i k : Nat} (hI : hg_Inv S k) (hk : k ≤ 512) (hi : i + 8 ≤ L) {H : Heap} {locs : List Loc} {ls : Array Slot} (hPx : va_P D vwCl (xW ox cI cJ cZ S) H) (hPm : va_P D vwCl (mW om cI cJ cZ S) H) (hDx : va_D (fun q : Nat => s.heap.size ≤ q) (xW ox cI cJ cZ S)) (hDm : va_D (fun q : Nat => s.heap.size ≤ q) (mW om cI cJ cZ S)) (hS : va_S (fun q : Nat => s.heap.size ≤ q) s.heap H locs) (hl : lv_has ls 4 [(3, .int (nI i)), (2, .ref (om 0)), (1, .ref (ox 0)), (0, .ref b)]) (kk : ∀ (S' : hg_S) (H : Heap) (locs : List Loc), hg_Inv S' (k + 1) → va_P D vwCl (xW ox cI cJ cZ S') H → va_P D vwCl (mW om cI cJ cZ S') H → va_D (fun q : Nat => s.heap.size ≤ q) (xW ox cI cJ cZ S') → va_D (fun q : Nat => s.heap.size ≤ q) (mW om cI cJ cZ S') → va_S (fun q : Nat => s.heap.size ≤ q) s.heap H locs → W pg l ev room_1 s mi #[Value.ref b] below meth cd H locs 47 379 (lw_Z below #[Value.ref b] s) (F0 mi 935 ls [])) : W pg l ev room_1 s mi #[Value.ref b] below meth cd H locs 47 379 (lw_Z below #[Value.ref b] s) (F0 mi 550 ls []) := by
  obtain ⟨hx, hb, hr, hml, hown0, hts0, hX, hbl, hlocks, hgv⟩ := C0
  have hown : s.vm.findClass RL = some mi.cls := hown0
  have hts : ∀ w ∈ wsL_law, w.before #[Value.ref b] s = true := fun w h => hts0 w (wsL_law_in w h)
  have hA : ∀ q : Nat, s.heap.size ≤ q → (fun q : Nat => s.heap.size ≤ q) q := fun _ h => h
  have hbA : ¬ (fun q : Nat => s.heap.size ≤ q) b := Nat.not_le.mpr hbl
  obtain ⟨⟨⟨h0, h1, h2, hg3, h4, h5⟩, hkd, hbx, hlq, hfd, hcr⟩, hms, hag, hfr⟩ := id hI
  refine lv_aload_n hx hb dL_law_550 rfl (lv_at hl 2 rfl) ?_
  refine lv_aload_n hx hb dL_law_551 rfl (lv_at hl 3 rfl) ?_
  refine lv_iload_n hx hb dL_law_552 rfl (lv_at hl 0 rfl) ?_
  refine lv_iconst (v := nI 1) hx hb dL_law_553 (by decide) ?_
  refine lv_iadd hx hb dL_law_554 ?_
  refine h_topi (y := nI (i + 1)) (nI_add _ _) ?_
  refine h_sld hx hb hX hbl hbA hS (i + 1) rfl (by omega) (by omega) dL_law_555 ?_
  refine lv_aload_n hx hb dL_law_556 rfl (lv_at hl 3 rfl) ?_
  refine lv_iload_n hx hb dL_law_557 rfl (lv_at hl 0 rfl) ?_
  refine lv_iconst (v := nI 2) hx hb dL_law_558 (by decide) ?_
  refine lv_iadd hx hb dL_law_559 ?_
  refine h_topi (y := nI (i + 2)) (nI_add _ _) ?_
  refine h_sld hx hb hX hbl hbA hS (i + 2) rfl (by omega) (by omega) dL_law_560 ?_
  refine lv_aload_n hx hb dL_law_561 rfl (lv_at hl 3 rfl) ?_
  refine lv_iload_n hx hb dL_law_562 rfl (lv_at hl 0 rfl) ?_
  refine lv_iconst (v := nI 3) hx hb dL_law_563 (by decide) ?_
  refine lv_iadd hx hb dL_law_564 ?_
  refine h_topi (y := nI (i + 3)) (nI_add _ _) ?_
  refine h_sld hx hb hX hbl hbA hS (i + 3) rfl (by omega) (by omega) dL_law_565 ?_
  refine h_lcalli (w1 := xW ox cI cJ cZ ((r_set S (xs (i + 1)) (xs (i + 2)) (xs (i + 3))).2)) (wr := mW om cI cJ cZ S) (va_runV (As := [.int (xs (i + 1)), .int (xs (i + 2)), .int (xs (i + 3))]) (rest := []) ⟨hx, hb, hml, hown, hts⟩ (m_X5_set l D ox cI cJ cZ S H.size  (xs (i + 1)) (xs (i + 2)) (xs (i + 3))) (cwV 3 hts gL_law_X5_set rfl rfl rfl (by decide +kernel) ⟨Nat.le_of_ble_eq_true rfl, Nat.le_of_ble_eq_true rfl⟩) (h_preW hK hPx hDx 0 rfl rfl rfl) rfl rfl hl.1 rfl (lv_room (Nat.le_of_ble_eq_true rfl)) dL_law_566 ⟨Nat.le_of_ble_eq_true rfl, Nat.le_of_ble_eq_true rfl⟩) hS hA hDx hPm (dj_xm hdj) (fun rx H locs hrx hPx hPm hDx hS => ?_)
  subst hrx
  refine lv_aload_n hx hb dL_law_569 rfl (lv_at hl 1 rfl) ?_
  refine lv_aload_n hx hb dL_law_570 rfl (lv_at hl 3 rfl) ?_
  refine lv_iload_n hx hb dL_law_571 rfl (lv_at hl 0 rfl) ?_
  refine lv_iconst (v := nI 1) hx hb dL_law_572 (by decide) ?_
  refine lv_iadd hx hb dL_law_573 ?_
  refine h_topi (y := nI (i + 1)) (nI_add _ _) ?_
  refine h_sld hx hb hX hbl hbA hS (i + 1) rfl (by omega) (by omega) dL_law_574 ?_
  refine lv_aload_n hx hb dL_law_575 rfl (lv_at hl 3 rfl) ?_
  refine lv_iload_n hx hb dL_law_576 rfl (lv_at hl 0 rfl) ?_
  refine lv_iconst (v := nI 2) hx hb dL_law_577 (by decide) ?_
  refine lv_iadd hx hb dL_law_578 ?_
  refine h_topi (y := nI (i + 2)) (nI_add _ _) ?_
  refine h_sld hx hb hX hbl hbA hS (i + 2) rfl (by omega) (by omega) dL_law_579 ?_
  refine lv_aload_n hx hb dL_law_580 rfl (lv_at hl 3 rfl) ?_
  refine lv_iload_n hx hb dL_law_581 rfl (lv_at hl 0 rfl) ?_
  refine lv_iconst (v := nI 3) hx hb dL_law_582 (by decide) ?_
  refine lv_iadd hx hb dL_law_583 ?_
  refine h_topi (y := nI (i + 3)) (nI_add _ _) ?_
  refine h_sld hx hb hX hbl hbA hS (i + 3) rfl (by omega) (by omega) dL_law_584 ?_
  refine h_lcalli (w1 := mW om cI cJ cZ ((r_set S (xs (i + 1)) (xs (i + 2)) (xs (i + 3))).2)) (wr := xW ox cI cJ cZ ((r_set S (xs (i + 1)) (xs (i + 2)) (xs (i + 3))).2)) (va_runV (As := [.int (xs (i + 1)), .int (xs (i + 2)), .int (xs (i + 3))]) (rest := [.int ((r_set S (xs (i + 1)) (xs (i + 2)) (xs (i + 3))).1)]) ⟨hx, hb, hml, hown, hts⟩ (m_X6_set l D om cI cJ cZ S H.size  (xs (i + 1)) (xs (i + 2)) (xs (i + 3))) (cwV 3 hts gL_law_X6_set rfl rfl rfl (by decide +kernel) ⟨Nat.le_of_ble_eq_true rfl, Nat.le_of_ble_eq_true rfl⟩) (h_preW hK hPm hDm 0 rfl rfl rfl) rfl rfl hl.1 rfl (lv_room (Nat.le_of_ble_eq_true rfl)) dL_law_585 ⟨Nat.le_of_ble_eq_true rfl, Nat.le_of_ble_eq_true rfl⟩) hS hA hDm hPx (dj_mx hdj) (fun rm H locs hrm hPm hPx hDm hS => ?_)
  subst hrm
  refine lv_icmp_eq (tgt := 935) hx hb dL_law_588 (by decide) (fun _ => ?_) (fun c9 => absurd rfl c9)
  exact kk _ H locs (inv_set hI (xs (i + 1)) (xs (i + 2)) (xs (i + 3))) hPx hPm hDx hDm hS
set_option maxHeartbeats 4000000 in
set_option maxRecDepth 100000 in
theorem lw_year {pg : Program} {l : Launch} {ev : Env} {s : State} {mi : MethodId} {below : List Frame} {meth : Method} {cd : Code} {D : va_G} {ox om : Nat → Nat} {cI cJ cZ : ClassId} {b L : Nat} {xs : Nat → Int32} (C0 : lw_At pg s mi meth cd b L xs) (hK : va_K D vwCl (hg_ty cI cJ cZ) s) (hdj : ∀ i j, i < 26 → j < 21 → ox i ≠ om j) (hL : L ≤ 4096) {S : hg_S} {i k : Nat} (hI : hg_Inv S k) (hk : k ≤ 512) (hi : i + 8 ≤ L) {H : Heap} {locs : List Loc} {ls : Array Slot} (hPx : va_P D vwCl (xW ox cI cJ cZ S) H) (hPm : va_P D vwCl (mW om cI cJ cZ S) H) (hDx : va_D (fun q : Nat => s.heap.size ≤ q) (xW ox cI cJ cZ S)) (hDm : va_D (fun q : Nat => s.heap.size ≤ q) (mW om cI cJ cZ S)) (hS : va_S (fun q : Nat => s.heap.size ≤ q) s.heap H locs) (hl : lv_has ls 4 [(3, .int (nI i)), (2, .ref (om 0)), (1, .ref (ox 0)), (0, .ref b)]) (kk : ∀ (S' : hg_S) (H : Heap) (locs : List Loc), hg_Inv S' (k + 1) → va_P D vwCl (xW ox cI cJ cZ S') H → va_P D vwCl (mW om cI cJ cZ S') H → va_D (fun q : Nat => s.heap.size ≤ q) (xW ox cI cJ cZ S') → va_D (fun q : Nat => s.heap.size ≤ q) (mW om cI cJ cZ S') → va_S (fun q : Nat => s.heap.size ≤ q) s.heap H locs → W pg l ev room_1 s mi #[Value.ref b] below meth cd H locs 47 379 (lw_Z below #[Value.ref b] s) (F0 mi 935 ls [])) : W pg l ev room_1 s mi #[Value.ref b] below meth cd H locs 47 379 (lw_Z below #[Value.ref b] s) (F0 mi 593 ls []) := by
  obtain ⟨hx, hb, hr, hml, hown0, hts0, hX, hbl, hlocks, hgv⟩ := C0
  have hown : s.vm.findClass RL = some mi.cls := hown0
  have hts : ∀ w ∈ wsL_law, w.before #[Value.ref b] s = true := fun w h => hts0 w (wsL_law_in w h)
  have hA : ∀ q : Nat, s.heap.size ≤ q → (fun q : Nat => s.heap.size ≤ q) q := fun _ h => h
  have hbA : ¬ (fun q : Nat => s.heap.size ≤ q) b := Nat.not_le.mpr hbl
  obtain ⟨⟨⟨h0, h1, h2, hg3, h4, h5⟩, hkd, hbx, hlq, hfd, hcr⟩, hms, hag, hfr⟩ := id hI
  refine lv_aload_n hx hb dL_law_593 rfl (lv_at hl 2 rfl) ?_
  refine lv_aload_n hx hb dL_law_594 rfl (lv_at hl 3 rfl) ?_
  refine lv_iload_n hx hb dL_law_595 rfl (lv_at hl 0 rfl) ?_
  refine lv_iconst (v := nI 1) hx hb dL_law_596 (by decide) ?_
  refine lv_iadd hx hb dL_law_597 ?_
  refine h_topi (y := nI (i + 1)) (nI_add _ _) ?_
  refine h_sld hx hb hX hbl hbA hS (i + 1) rfl (by omega) (by omega) dL_law_598 ?_
  refine h_lcalli (w1 := xW ox cI cJ cZ ((r_year S (xs (i + 1))).2)) (wr := mW om cI cJ cZ S) (va_runV (As := [.int (xs (i + 1))]) (rest := []) ⟨hx, hb, hml, hown, hts⟩ (m_X5_year l D ox cI cJ cZ S H.size h0 h1 hg3 hbx hlq.lk (xs (i + 1))) (cwV 1 hts gL_law_X5_year rfl rfl rfl (by decide +kernel) ⟨Nat.le_of_ble_eq_true rfl, Nat.le_of_ble_eq_true rfl⟩) (h_preW hK hPx hDx 0 rfl rfl rfl) rfl rfl hl.1 rfl (lv_room (Nat.le_of_ble_eq_true rfl)) dL_law_599 ⟨Nat.le_of_ble_eq_true rfl, Nat.le_of_ble_eq_true rfl⟩) hS hA hDx hPm (dj_xm hdj) (fun rx H locs hrx hPx hPm hDx hS => ?_)
  subst hrx
  refine lv_aload_n hx hb dL_law_602 rfl (lv_at hl 1 rfl) ?_
  refine lv_aload_n hx hb dL_law_603 rfl (lv_at hl 3 rfl) ?_
  refine lv_iload_n hx hb dL_law_604 rfl (lv_at hl 0 rfl) ?_
  refine lv_iconst (v := nI 1) hx hb dL_law_605 (by decide) ?_
  refine lv_iadd hx hb dL_law_606 ?_
  refine h_topi (y := nI (i + 1)) (nI_add _ _) ?_
  refine h_sld hx hb hX hbl hbA hS (i + 1) rfl (by omega) (by omega) dL_law_607 ?_
  refine h_lcalli (w1 := mW om cI cJ cZ ((r_year S (xs (i + 1))).2)) (wr := xW ox cI cJ cZ ((r_year S (xs (i + 1))).2)) (va_runV (As := [.int (xs (i + 1))]) (rest := [.int ((r_year S (xs (i + 1))).1)]) ⟨hx, hb, hml, hown, hts⟩ (m_X6_year l D om cI cJ cZ S H.size h0 h1 hg3 hbx hlq.lk hkd 1000000000000 (by decide) (inv_hys hk hI) (xs (i + 1))) (cwV 1 hts gL_law_X6_year rfl rfl rfl (by decide +kernel) ⟨Nat.le_of_ble_eq_true rfl, Nat.le_of_ble_eq_true rfl⟩) (h_preW hK hPm hDm 0 rfl rfl rfl) rfl rfl hl.1 rfl (lv_room (Nat.le_of_ble_eq_true rfl)) dL_law_608 ⟨Nat.le_of_ble_eq_true rfl, Nat.le_of_ble_eq_true rfl⟩) hS hA hDm hPx (dj_mx hdj) (fun rm H locs hrm hPm hPx hDm hS => ?_)
  subst hrm
  refine lv_icmp_eq (tgt := 935) hx hb dL_law_611 (by decide) (fun _ => ?_) (fun c9 => absurd rfl c9)
  exact kk _ H locs (inv_year hk hI (xs (i + 1))) hPx hPm hDx hDm hS
