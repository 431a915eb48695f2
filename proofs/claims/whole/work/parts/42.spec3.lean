/-! Facts that tie the reference's roads to the same numbers. -/
theorem i_200 : (nI 200).toInt = 200 := by decide
theorem upd_same {f : Nat → Int32} {k : Nat} {v : Int32} (h : f k = v) : upd f k v = f := by
  funext j
  unfold upd
  split
  · next e => rw [e, h]
  · rfl
theorem updL_same {f : Nat → Int64} {k : Nat} {v : Int64} (h : f k = v) : vp_updL f k v = f := by
  funext j
  unfold vp_updL
  split
  · next e => rw [e, h]
  · rfl
theorem hg_si_of {T : hg_S} {k : Nat} {f : Nat → Int32} (h : hg_i T k = f) : hg_si T k f = T := by rw [← h]; exact hg_si_self T k
theorem hg_sl_of {T : hg_S} {k : Nat} {f : Nat → Int64} (h : hg_l T k = f) : hg_sl T k f = T := by rw [← h]; exact hg_sl_self T k
theorem s_well_m {S : hg_S} {k b a1 b1 c1 d1 e1 : Int32} (h2 : hg_i S 2 (hg_n S 0) = nI 0) (h3 : hg_i S 3 (hg_n S 0) = nI 0) :
    hg_sn (hg_si (hg_si (hg_si (hg_si (hg_si S 0 (upd (hg_i S 0) (hg_n S 0) k)) 1 (upd (hg_i S 1) (hg_n S 0) b)) 2 (upd (hg_i S 2) (hg_n S 0) (nI 0))) 3 (upd (hg_i S 3) (hg_n S 0) (nI 0))) 4 (upd (upd (upd (upd (upd (hg_i S 4) (5 * hg_n S 0) a1) (5 * hg_n S 0 + 1) b1) (5 * hg_n S 0 + 2) c1) (5 * hg_n S 0 + 3) d1) (5 * hg_n S 0 + 4) e1)) 0 (hg_n S 0 + 1) = s_well S k b a1 b1 c1 d1 e1 := by
  rw [upd_same h2, upd_same h3, hg_si_of (T := hg_si (hg_si S 0 (upd (hg_i S 0) (hg_n S 0) k)) 1 (upd (hg_i S 1) (hg_n S 0) b)) (k := 2) (f := hg_i S 2) rfl, hg_si_of (T := hg_si (hg_si S 0 (upd (hg_i S 0) (hg_n S 0) k)) 1 (upd (hg_i S 1) (hg_n S 0) b)) (k := 3) (f := hg_i S 3) rfl, Nat.mul_comm 5 (hg_n S 0)]
  rfl
def ok_kd (S : hg_S) : Prop := ∀ w, w < 8 → hg_i S 0 w = nI 0 ∨ hg_i S 0 w = nI 1 ∨ hg_i S 0 w = nI 2
def f_flw1 (S : hg_S) (p w : Nat) : Int32 := if hg_i S 3 w = 0 then 0 else f_flow S w p
theorem hg_ring1 (a b c d : Int32) : a + b - (c + d) = a - c + (b - d) := by
  rw [Int32.sub_eq_add_neg, Int32.sub_eq_add_neg, Int32.sub_eq_add_neg, Int32.neg_add, Int32.sub_eq_add_neg]
  ac_rfl
theorem hg_can (a b : Int32) : a + b - a = b := by
  rw [Int32.add_comm, Int32.add_sub_cancel]
theorem hg_sum_sub {g1 g2 g3 : Nat → Int32} (h : ∀ i, g1 i - g2 i = g3 i) : ∀ n, hg_sum g1 n - hg_sum g2 n = hg_sum g3 n
  | 0 => Int32.sub_zero 0
  | n + 1 => by
    show hg_sum g1 n + g1 n - (hg_sum g2 n + g2 n) = hg_sum g3 n + g3 n
    rw [hg_ring1, hg_sum_sub h n, h n]
theorem f_water_m (S : hg_S) (p n : Nat) : hg_sum (f_flw1 S p) n - hg_sum (f_sup1 S p) n = hg_sum (f_wat1 S p) n := by
  refine hg_sum_sub (fun i => ?_) n
  unfold f_flw1 f_sup1 f_wat1
  split
  · exact Int32.sub_zero 0
  · rfl
/-- the shares but one, with what it becomes -/
def f_oth1 (S : hg_S) (k j : Nat) : Int32 := if j = k then nI 0 else hg_i S 11 j
def f_oth (S : hg_S) (k : Nat) (v : Int32) : Nat → Int32
  | 0 => v
  | i + 1 => f_oth S k v i + f_oth1 S k i
theorem hg_oth0 (a x0 x1 x2 x3 x4 x5 : Int32) : a + nI 0 + x1 + x2 + x3 + x4 + x5 = (0 : Int32) + x0 + x1 + x2 + x3 + x4 + x5 - x0 + a := by
  rw [show (0 : Int32) + x0 + x1 + x2 + x3 + x4 + x5 = x0 + (x1 + x2 + x3 + x4 + x5) from by rw [Int32.zero_add]; ac_rfl, hg_can, nI_0, Int32.add_zero]
  ac_rfl
theorem hg_oth1 (a x0 x1 x2 x3 x4 x5 : Int32) : a + x0 + nI 0 + x2 + x3 + x4 + x5 = (0 : Int32) + x0 + x1 + x2 + x3 + x4 + x5 - x1 + a := by
  rw [show (0 : Int32) + x0 + x1 + x2 + x3 + x4 + x5 = x1 + (x0 + x2 + x3 + x4 + x5) from by rw [Int32.zero_add]; ac_rfl, hg_can, nI_0, Int32.add_zero]
  ac_rfl
theorem hg_oth2 (a x0 x1 x2 x3 x4 x5 : Int32) : a + x0 + x1 + nI 0 + x3 + x4 + x5 = (0 : Int32) + x0 + x1 + x2 + x3 + x4 + x5 - x2 + a := by
  rw [show (0 : Int32) + x0 + x1 + x2 + x3 + x4 + x5 = x2 + (x0 + x1 + x3 + x4 + x5) from by rw [Int32.zero_add]; ac_rfl, hg_can, nI_0, Int32.add_zero]
  ac_rfl
theorem hg_oth3 (a x0 x1 x2 x3 x4 x5 : Int32) : a + x0 + x1 + x2 + nI 0 + x4 + x5 = (0 : Int32) + x0 + x1 + x2 + x3 + x4 + x5 - x3 + a := by
  rw [show (0 : Int32) + x0 + x1 + x2 + x3 + x4 + x5 = x3 + (x0 + x1 + x2 + x4 + x5) from by rw [Int32.zero_add]; ac_rfl, hg_can, nI_0, Int32.add_zero]
  ac_rfl
theorem hg_oth4 (a x0 x1 x2 x3 x4 x5 : Int32) : a + x0 + x1 + x2 + x3 + nI 0 + x5 = (0 : Int32) + x0 + x1 + x2 + x3 + x4 + x5 - x4 + a := by
  rw [show (0 : Int32) + x0 + x1 + x2 + x3 + x4 + x5 = x4 + (x0 + x1 + x2 + x3 + x5) from by rw [Int32.zero_add]; ac_rfl, hg_can, nI_0, Int32.add_zero]
  ac_rfl
theorem hg_oth5 (a x0 x1 x2 x3 x4 x5 : Int32) : a + x0 + x1 + x2 + x3 + x4 + nI 0 = (0 : Int32) + x0 + x1 + x2 + x3 + x4 + x5 - x5 + a := by
  rw [show (0 : Int32) + x0 + x1 + x2 + x3 + x4 + x5 = x5 + (x0 + x1 + x2 + x3 + x4) from by rw [Int32.zero_add]; ac_rfl, hg_can, nI_0, Int32.add_zero]
  ac_rfl
theorem f_oth_eq (S : hg_S) {k : Nat} (hk : k ≤ 5) (v : Int32) : f_oth S k v 6 = f_shr S k v := by
  rcases (show k = 0 ∨ k = 1 ∨ k = 2 ∨ k = 3 ∨ k = 4 ∨ k = 5 by omega) with rfl | rfl | rfl | rfl | rfl | rfl
  · exact hg_oth0 v _ _ _ _ _ _
  · exact hg_oth1 v _ _ _ _ _ _
  · exact hg_oth2 v _ _ _ _ _ _
  · exact hg_oth3 v _ _ _ _ _ _
  · exact hg_oth4 v _ _ _ _ _ _
  · exact hg_oth5 v _ _ _ _ _ _
/-- what comes back, by the years of what was put in -/
def f_bk1 (S : hg_S) (yr y : Nat) : Int32 := if y ≤ yr ∧ yr - y ≤ 5 then hg_i S 12 y * hg_i S 11 (yr - y) / nI 1000 else nI 0
/-- the cost of the best, kept beside it -/
theorem f_best_inv (S : hg_S) : ∀ i, i ≤ 2 ^ 8 → (f_best S i).1 = -9 ∨ ((∃ j, j < i ∧ (f_best S i).1 = nI j) ∧ (f_best S i).2 = f_cost S (f_best S i).1)
  | 0, _ => Or.inl rfl
  | i + 1, h => by
    unfold f_best
    split
    · exact Or.inr ⟨⟨i, Nat.lt_succ_self i, rfl⟩, rfl⟩
    · rcases f_best_inv S i (by omega) with q | ⟨⟨j, h1, h2⟩, h3⟩
      · exact Or.inl q
      · exact Or.inr ⟨⟨j, by omega, h2⟩, h3⟩
