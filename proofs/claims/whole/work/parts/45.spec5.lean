/-! More facts that tie the reference's roads to the same numbers. -/
theorem hg_subL {a b : Int64} (h1 : -(2 ^ 63) ≤ a.toInt - b.toInt) (h2 : a.toInt - b.toInt < 2 ^ 63) : (a - b).toInt = a.toInt - b.toInt := by
  rw [Int64.toInt_sub]
  exact Int.bmod_eq_of_le (by omega) (by omega)
def ok_ms (S : hg_S) (B : Int) : Prop := ∀ b, b < 4 → 0 ≤ (hg_l S 0 b).toInt ∧ (hg_l S 0 b).toInt ≤ B
theorem ok_ms.nn {S : hg_S} {B : Int} (h : ok_ms S B) {b : Nat} (hb : b < 4) : ¬ hg_l S 0 b < 0 := by
  rw [hg_ltL]
  have := (h b hb).1
  have e : (0 : Int64).toInt = 0 := by decide
  omega
theorem s_drain_pour (S : hg_S) (b : Nat) (m h : Int64) : s_drain S b m h = s_pour S b (-m) (-h) := by
  unfold s_drain s_pour
  rw [Int64.sub_eq_add_neg, Int64.sub_eq_add_neg]
theorem f_wm_0 (S : hg_S) (b : Nat) : f_wm S b 0 = 0 := by
  unfold f_wm f_warm
  split
  · rw [Int64.zero_mul, Int64.zero_div]
  · rfl
theorem s_pour_0 (S : hg_S) (b : Nat) : s_pour S b 0 0 = S := by
  unfold s_pour
  rw [Int64.add_zero, Int64.add_zero, updL_same rfl, updL_same rfl, hg_sl_of (T := S) rfl, hg_sl_of (T := S) rfl]
theorem s_move_0 (S : hg_S) (a b : Nat) : s_move S a b 0 = S := by
  unfold s_move
  rw [f_wm_0, Int64.neg_zero, s_pour_0, s_pour_0]
theorem s_leak_t {S : hg_S} {B : Int} (hB : B < 2 ^ 62) (hm : ok_ms S B) {k : Nat} (hk : k < 3) (h : lg_cmp (hg_l S 0 k - hg_l S 0 (k + 1)) 0 ≤ 0) :
    s_pour (s_drain S (k + 1) (f_leakP S k (k + 1) k) (f_wm S (k + 1) (f_leakP S k (k + 1) k))) k (f_leakP S k (k + 1) k) (f_wm S (k + 1) (f_leakP S k (k + 1) k)) = s_leak S k := by
  have hd := hg_leL.mp ((lg_cmp_le _ _).mp h)
  have h1 := hm k (by omega)
  have h2 := hm (k + 1) (by omega)
  have e : (0 : Int64).toInt = 0 := by decide
  rw [hg_subL (by omega) (by omega)] at hd
  rw [s_drain_pour]
  unfold s_leak
  by_cases hlt : hg_l S 0 k < hg_l S 0 (k + 1)
  · rw [if_pos hlt]
    rfl
  · rw [if_neg hlt]
    have he : hg_l S 0 k = hg_l S 0 (k + 1) := Int64.toInt_inj.mp (by rw [hg_ltL] at hlt; omega)
    have z : f_leakP S k (k + 1) k = 0 := by unfold f_leakP; rw [he, Int64.sub_self, Int64.zero_div]
    have z2 : f_leakP S k k (k + 1) = 0 := by unfold f_leakP; rw [he, Int64.sub_self, Int64.zero_div]
    rw [z, z2, s_move_0, f_wm_0, Int64.neg_zero, s_pour_0, s_pour_0]
theorem s_leak_f {S : hg_S} {B : Int} (hB : B < 2 ^ 62) (hm : ok_ms S B) {k : Nat} (hk : k < 3) (h : ¬ lg_cmp (hg_l S 0 k - hg_l S 0 (k + 1)) 0 ≤ 0) :
    s_pour (s_drain S k (f_leakP S k k (k + 1)) (f_wm S k (f_leakP S k k (k + 1)))) (k + 1) (f_leakP S k k (k + 1)) (f_wm S k (f_leakP S k k (k + 1))) = s_leak S k := by
  have hd := hg_ltL.mp (hg_nleL.mp (fun q => h ((lg_cmp_le _ _).mpr q)))
  have h1 := hm k (by omega)
  have h2 := hm (k + 1) (by omega)
  have e : (0 : Int64).toInt = 0 := by decide
  rw [hg_subL (by omega) (by omega)] at hd
  rw [s_drain_pour]
  unfold s_leak
  rw [if_neg (by rw [hg_ltL]; omega)]
  rfl
theorem f_ages_put0 {S : hg_S} {i : Nat} (h : hg_i S 3 i = 0) : upd (f_ages S i) i (f_ages S i i + nI 0) = f_ages S (i + 1) := by
  rw [nI_0, Int32.add_zero, upd_same rfl, f_ages_skip h]
theorem hg_ss (a b c : Int32) : a - b - c = a - (b + c) := by
  rw [Int32.sub_eq_add_neg, Int32.sub_eq_add_neg, Int32.sub_eq_add_neg, Int32.neg_add, Int32.sub_eq_add_neg]
  ac_rfl
theorem hg_sum_ext {g g' : Nat → Int32} : ∀ N, (∀ j, j < N → g' j = g j) → hg_sum g' N = hg_sum g N
  | 0, _ => rfl
  | N + 1, h => by
    show hg_sum g' N + g' N = hg_sum g N + g N
    rw [hg_sum_ext N (fun j hj => h j (by omega)), h N (by omega)]
theorem hg_sum_one {g g' : Nat → Int32} {k0 : Nat} (h0 : g k0 = 0) (h : ∀ j, j ≠ k0 → g' j = g j) : ∀ N, k0 < N → hg_sum g' N = hg_sum g N + g' k0
  | 0, hk => absurd hk (Nat.not_lt_zero _)
  | N + 1, hk => by
    show hg_sum g' N + g' N = hg_sum g N + g N + g' k0
    by_cases e : k0 = N
    · subst e
      rw [hg_sum_ext k0 (fun j hj => h j (by omega)), h0, Int32.add_zero]
    · rw [hg_sum_one h0 h N (by omega), h N (fun q => e q.symm), Int32.add_assoc, Int32.add_assoc, Int32.add_comm (g' k0)]
def f_cn1 (S : hg_S) (yr n k : Nat) : Int32 := if yr < k then 0 else if yr - k < n then hg_i S 12 (yr - k) * hg_i S 11 k / nI 1000 else 0
theorem f_bk_n (S : hg_S) (yr : Nat) : ∀ n, hg_sum (f_bk1 S yr) n = hg_sum (f_cn1 S yr n) 6
  | 0 => by
    have h : hg_sum (f_cn1 S yr 0) 6 = hg_sum (fun _ => (0 : Int32)) 6 := hg_sum_ext 6 (fun j _ => by
      unfold f_cn1
      split
      · rfl
      · rw [if_neg (Nat.not_lt_zero _)])
    rw [h]
    show (0 : Int32) = hg_sum (fun _ => (0 : Int32)) 6
    decide
  | n + 1 => by
    show hg_sum (f_bk1 S yr) n + f_bk1 S yr n = _
    rw [f_bk_n S yr n]
    by_cases hc : n ≤ yr ∧ yr - n ≤ 5
    · have e1 : f_cn1 S yr (n + 1) (yr - n) = f_bk1 S yr n := by
        unfold f_cn1 f_bk1
        rw [if_neg (by omega), if_pos (by omega), if_pos hc, show yr - (yr - n) = n by omega]
      rw [hg_sum_one (g := f_cn1 S yr n) (g' := f_cn1 S yr (n + 1)) (k0 := yr - n) ?_ ?_ 6 (by omega), e1]
      · unfold f_cn1
        rw [if_neg (by omega), if_neg (by omega)]
      · intro j hj
        unfold f_cn1
        by_cases h1 : yr < j
        · rw [if_pos h1, if_pos h1]
        · rw [if_neg h1, if_neg h1]
          by_cases h2 : yr - j < n
          · rw [if_pos h2, if_pos (by omega)]
          · rw [if_neg h2, if_neg (by omega)]
    · have e1 : f_bk1 S yr n = 0 := (if_neg hc).trans nI_0
      rw [e1, Int32.add_zero]
      refine (hg_sum_ext 6 (fun j hj => ?_)).symm
      unfold f_cn1
      by_cases h1 : yr < j
      · rw [if_pos h1, if_pos h1]
      · rw [if_neg h1, if_neg h1]
        by_cases h2 : yr - j < n
        · rw [if_pos h2, if_pos (by omega)]
        · rw [if_neg h2, if_neg (by omega)]
theorem f_bk_eq (S : hg_S) (yr : Nat) : hg_sum (f_bk1 S yr) (hg_n S 4) = f_comes S yr := f_bk_n S yr (hg_n S 4)
theorem hg_bkr {a b : Nat} (ha : a < 2 ^ 30) (hb : b < 2 ^ 30) : (nI 0 ≤ nI a - nI b ∧ nI a - nI b ≤ nI 5) ↔ (b ≤ a ∧ a - b ≤ 5) := by
  rw [hg_le, hg_le, pk_sub_toInt ha hb, i_0, nI_toInt (by omega)]
  omega
theorem f_lack_nn (S : hg_S) (s : Int32) (y : Nat) : 0 ≤ f_lack S s y := by
  unfold f_lack
  split
  · rw [nI_0]; exact Int32.le_refl 0
  · next h => rw [nI_0] at h; exact hg_nlt.mp h
theorem f_lack_0 (S : hg_S) (s : Int32) (y : Nat) : f_lack S s y = 0 ↔ ¬ 0 < f_lack S s y := by
  constructor
  · intro h q
    rw [h] at q
    exact absurd q (by decide)
  · intro h
    have h1 := hg_le.mp (f_lack_nn S s y)
    have h2 := hg_le.mp (hg_nlt.mp h)
    exact Int32.toInt_inj.mp (by omega)
abbrev f_kpP (S : hg_S) (s : Int32) (n : Nat) : Prop := ∀ y, y < n → f_lack S s y = 0
def f_kp (S : hg_S) (s : Int32) (n : Nat) : Int32 := if f_kpP S s n then nI 1 else nI 0
theorem f_kp_s {S : hg_S} {s : Int32} {n : Nat} (h : ¬ f_kp S s n = 0) (h2 : f_lack S s n = 0) : nI 1 = f_kp S s (n + 1) := by
  unfold f_kp at h ⊢
  split at h
  · next q =>
    rw [if_pos (fun y hy => by
      rcases Nat.lt_succ_iff_lt_or_eq.mp hy with e | e
      · exact q y e
      · rw [e]; exact h2)]
  · exact absurd nI_0 h
theorem f_kp_z {S : hg_S} {s : Int32} {n : Nat} (h : f_kp S s n = 0) : nI 0 = f_kp S s (n + 1) := by
  unfold f_kp at h ⊢
  split at h
  · exact absurd h (by decide)
  · next q => rw [if_neg (fun z => q (fun y hy => z y (by omega)))]
theorem f_kp_l {S : hg_S} {s : Int32} {n : Nat} (h2 : ¬ f_lack S s n = 0) : nI 0 = f_kp S s (n + 1) := by
  unfold f_kp
  rw [if_neg (fun z => h2 (z n (by omega)))]
theorem f_kp_0 (S : hg_S) (s : Int32) : nI 1 = f_kp S s 0 := by
  unfold f_kp
  rw [if_pos (fun y hy => absurd hy (Nat.not_lt_zero y))]
theorem f_kp_6 (S : hg_S) (s : Int32) : f_kp S s 6 = 0 ↔ ¬ f_keeps S s := by
  unfold f_kp
  constructor
  · intro h q
    rw [if_pos (fun y hy => (f_lack_0 S s y).mpr (q y hy))] at h
    exact absurd h (by decide)
  · intro h
    rw [if_neg (fun z => h (fun y hy => (f_lack_0 S s y).mp (z y hy)))]
    exact nI_0
theorem f_best_neg {S : hg_S} {i : Nat} (hi : i ≤ 2 ^ 8) : (f_best S i).1 < 0 ↔ (f_best S i).1 = -9 := by
  constructor
  · intro h
    rcases f_best_inv S i hi with q | ⟨⟨j, h1, h2⟩, -⟩
    · exact q
    · rw [h2] at h
      exact absurd h (nI_pos (by omega))
  · intro h
    rw [h]
    decide
theorem f_best_cost {S : hg_S} {i : Nat} (hi : i ≤ 2 ^ 8) (h : ¬ (f_best S i).1 < 0) : (f_best S i).2 = f_cost S (f_best S i).1 := by
  rcases f_best_inv S i hi with q | ⟨-, h3⟩
  · exact absurd ((f_best_neg hi).mpr q) h
  · exact h3
theorem hg_pow256 {n : Nat} (h : n ≤ 8) : 2 ^ n ≤ 2 ^ 8 := Nat.pow_le_pow_right (by decide) h
