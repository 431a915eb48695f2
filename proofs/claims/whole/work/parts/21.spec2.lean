/-! What each call answers, and the state behind it. -/
theorem hg_in_t {v lo hi : Int32} (h : ¬ hg_in v lo hi = 0) : lo ≤ v ∧ v ≤ hi := Classical.byContradiction (fun q => h (hg_in_0 q))
theorem hg_in_f {v lo hi : Int32} (h : hg_in v lo hi = 0) : ¬ (lo ≤ v ∧ v ≤ hi) := fun q => by rw [hg_in_1 q] at h; exact absurd h (by decide)
theorem hg_rng {v : Int32} {lo hi : Nat} (hl : lo < 2 ^ 31) (hh : hi < 2 ^ 31) (h : nI lo ≤ v ∧ v ≤ nI hi) : ∃ k, lo ≤ k ∧ k ≤ hi ∧ v = nI k := by
  have h1 := hg_le.mp h.1
  have h2 := hg_le.mp h.2
  rw [nI_toInt hl] at h1
  rw [nI_toInt hh] at h2
  obtain ⟨j, hj, rfl⟩ := nI_of (x := v) (by rw [hg_nlt, hg_le, i_z]; omega)
  rw [nI_toInt hj] at h1 h2
  exact ⟨j, by omega, by omega, rfl⟩
theorem hg_wel {v : Int32} {n : Nat} (hn : n < 2 ^ 30) (h : nI 0 ≤ v ∧ v ≤ nI n - nI 1) : ∃ k, k < n ∧ v = nI k := by
  have h1 := hg_le.mp h.1
  have h2 := hg_le.mp h.2
  rw [i_0] at h1
  rw [pk_sub_toInt hn (by omega)] at h2
  obtain ⟨j, hj, rfl⟩ := nI_of (x := v) (by rw [hg_nlt, hg_le, i_z]; omega)
  rw [nI_toInt hj] at h1 h2
  exact ⟨j, by omega, rfl⟩
abbrev ok_in (v : Int32) (lo hi : Nat) : Prop := nI lo ≤ v ∧ v ≤ nI hi
abbrev ok_of (v : Int32) (n : Nat) : Prop := nI 0 ≤ v ∧ v ≤ nI n - nI 1
abbrev ok_well (k b a1 b1 c1 d1 e1 : Int32) : Prop := ok_in k 0 2 ∧ ok_in b 0 3 ∧ ok_in a1 0 200 ∧ (nI 0 ≤ b1 ∧ b1 ≤ a1) ∧ (nI 0 ≤ c1 ∧ c1 ≤ b1) ∧ (nI 0 ≤ d1 ∧ d1 ≤ c1) ∧ (nI 0 ≤ e1 ∧ e1 ≤ d1)
def s_well (S : hg_S) (k b a1 b1 c1 d1 e1 : Int32) : hg_S := hg_si (hg_sn (hg_si (hg_si S 0 (upd (hg_i S 0) (hg_n S 0) k)) 1 (upd (hg_i S 1) (hg_n S 0) b)) 0 (hg_n S 0 + 1)) 4 (upd (upd (upd (upd (upd (hg_i S 4) (hg_n S 0 * 5) a1) (hg_n S 0 * 5 + 1) b1) (hg_n S 0 * 5 + 2) c1) (hg_n S 0 * 5 + 3) d1) (hg_n S 0 * 5 + 4) e1)
def r_well (S : hg_S) (k b a1 b1 c1 d1 e1 : Int32) : Int32 × hg_S := if ok_well k b a1 b1 c1 d1 e1 then (if hg_n S 0 < 8 then (nI (hg_n S 0), s_well S k b a1 b1 c1 d1 e1) else (-3, S)) else (-1, S)
def f_01 (v : Int32) : Int32 := if v = 0 then nI 0 else nI 1
def r_open (S : hg_S) (w x : Int32) : Int32 × hg_S := if ok_of w (hg_n S 0) then (f_01 (hg_i S 3 w.toNatClampNeg), hg_si S 3 (upd (hg_i S 3) w.toNatClampNeg x)) else (-1, S)
def r_clean (S : hg_S) (w : Int32) : Int32 × hg_S := if ok_of w (hg_n S 0) then (hg_i S 2 w.toNatClampNeg, hg_si S 2 (upd (hg_i S 2) w.toNatClampNeg (nI 0))) else (-1, S)
def r_flow (S : hg_S) (w p : Int32) : Int32 × hg_S := if ok_of w (hg_n S 0) ∧ ok_in p 0 20 then (f_flow S w.toNatClampNeg p.toNatClampNeg, hg_st S (hg_t S + Int32.toInt64 (f_weight S w.toNatClampNeg))) else (-1, S)
def a_about (S : hg_S) (w q : Int32) : Int32 := if ok_of w (hg_n S 0) ∧ ok_in q 0 8 then (if q = nI 0 then hg_i S 0 w.toNatClampNeg else if q = nI 1 then hg_i S 1 w.toNatClampNeg else if q = nI 2 then hg_i S 2 w.toNatClampNeg else if q = nI 3 then f_01 (hg_i S 3 w.toNatClampNeg) else hg_i S 4 (w.toNatClampNeg * 5 + q.toNatClampNeg - 4)) else -1
def s_turb (S : hg_S) (a b d : Int32) : hg_S := hg_sn (hg_si (hg_si (hg_si (hg_si S 5 (upd (hg_i S 5) (hg_n S 1) a)) 6 (upd (hg_i S 6) (hg_n S 1) b)) 7 (upd (hg_i S 7) (hg_n S 1) d)) 8 (upd (hg_i S 8) (hg_n S 1) (nI 1))) 1 (hg_n S 1 + 1)
def r_turb (S : hg_S) (a b d : Int32) : Int32 × hg_S := if ok_in a 0 20 ∧ ok_in b 1 40 ∧ ok_in d 1 2000 then (if hg_n S 1 < 4 then (nI (hg_n S 1), s_turb S a b d) else (-3, S)) else (-1, S)
def r_on (S : hg_S) (w x : Int32) : Int32 × hg_S := if ok_of w (hg_n S 1) then (f_01 (hg_i S 8 w.toNatClampNeg), hg_si S 8 (upd (hg_i S 8) w.toNatClampNeg x)) else (-1, S)
def a_at (S : hg_S) (q p : Int32) : Int32 := if ok_in q 0 2 ∧ ok_in p 0 20 then (if q = nI 0 then f_supply S p.toNatClampNeg else if q = nI 1 then f_draw S p.toNatClampNeg else f_water S p.toNatClampNeg) else -1
def r_fill (S : hg_S) (b a d : Int32) : Int32 × hg_S := if ok_in b 0 3 ∧ ok_in a 0 10000000 ∧ ok_in d 0 10000000 then (nI 1, hg_sl (hg_sl S 0 (vp_updL (hg_l S 0) b.toNatClampNeg (Int32.toInt64 a))) 1 (vp_updL (hg_l S 1) b.toNatClampNeg (Int32.toInt64 d))) else (-1, S)
def r_leak (S : hg_S) (w v : Int32) : Int32 × hg_S := if ok_in w 0 2 ∧ ok_in v 2 1000 then (hg_i S 9 w.toNatClampNeg, hg_si S 9 (upd (hg_i S 9) w.toNatClampNeg v)) else (-1, S)
def r_feed (S : hg_S) (w v : Int32) : Int32 × hg_S := if ok_in w 0 3 ∧ ok_in v 0 1000 then (hg_i S 10 w.toNatClampNeg, hg_si S 10 (upd (hg_i S 10) w.toNatClampNeg v)) else (-1, S)
def r_gsh (S : hg_S) (v : Int32) : Int32 × hg_S := if ok_in v 0 1000 then (nI (hg_n S 2), hg_sn S 2 v.toNatClampNeg) else (-1, S)
def r_gbx (S : hg_S) (v : Int32) : Int32 × hg_S := if ok_in v 0 3 then (nI (hg_n S 3), hg_sn S 3 v.toNatClampNeg) else (-1, S)
def r_set (S : hg_S) (q w v : Int32) : Int32 × hg_S := if q = nI 0 then r_leak S w v else if q = nI 1 then r_feed S w v else if q = nI 2 then (if w = nI 0 then r_gsh S v else if w = nI 1 then r_gbx S v else (-1, S)) else (-1, S)
def a_box (S : hg_S) (b q : Int32) : Int64 := if ok_in b 0 3 ∧ ok_in q 0 1 then (if q = nI 0 then hg_l S 0 b.toNatClampNeg else hg_l S 1 b.toNatClampNeg) else -1
def a_sum (S : hg_S) (q : Int32) : Int64 := if ok_in q 0 8 then hg_l S 2 q.toNatClampNeg else -1
def f_shr (S : hg_S) (k : Nat) (v : Int32) : Int32 := hg_sum (hg_i S 11) 6 - hg_i S 11 k + v
def r_share (S : hg_S) (k v : Int32) : Int32 × hg_S := if ok_in k 0 5 ∧ ok_in v 0 1000 ∧ f_shr S k.toNatClampNeg v ≤ nI 1000 then (hg_i S 11 k.toNatClampNeg, hg_si S 11 (upd (hg_i S 11) k.toNatClampNeg v)) else (-1, S)
def r_put (S : hg_S) (v : Int32) : Int32 × hg_S := if ok_in v 0 1000000 then (if hg_n S 4 < 12 then (nI (hg_n S 4 + 1), hg_sn (hg_si S 12 (upd (hg_i S 12) (hg_n S 4) v)) 4 (hg_n S 4 + 1)) else (-3, S)) else (-1, S)
def a_back (S : hg_S) (y : Int32) : Int32 := if ok_in y 0 16 then f_comes S y.toNatClampNeg else -1
def r_cut (S : hg_S) : Int32 × hg_S := if hg_n S 4 = 0 then (-2, S) else (nI (hg_n S 4 - 1), hg_sn S 4 (hg_n S 4 - 1))
def s_cand (S : hg_S) (a b d : Int32) : hg_S := hg_sn (hg_si (hg_si (hg_si S 13 (upd (hg_i S 13) (hg_n S 5) a)) 14 (upd (hg_i S 14) (hg_n S 5) b)) 15 (upd (hg_i S 15) (hg_n S 5) d)) 5 (hg_n S 5 + 1)
def r_cand (S : hg_S) (a b d : Int32) : Int32 × hg_S := if ok_in a 1 1000 ∧ ok_in b 0 5 ∧ ok_in d 1 500 then (if hg_n S 5 < 8 then (nI (hg_n S 5), s_cand S a b d) else (-3, S)) else (-1, S)
def r_prom (S : hg_S) (y v : Int32) : Int32 × hg_S := if ok_in y 0 5 ∧ ok_in v 0 3000 then (hg_i S 16 y.toNatClampNeg, hg_si S 16 (upd (hg_i S 16) y.toNatClampNeg v)) else (-1, S)
def f_bst (S : hg_S) : Int32 := (f_best S (2 ^ hg_n S 5)).1
def a_plan (S : hg_S) (q : Int32) : Int32 := if ok_in q 0 1 then (if f_bst S = -9 then -9 else if q = nI 0 then f_bst S else f_cost S (f_bst S)) else -1
def a_lacks (S : hg_S) (a y : Int32) : Int32 := if ok_of a (2 ^ hg_n S 5) ∧ ok_in y 0 5 then f_lack S a y.toNatClampNeg else -1
def f_tr (f : Nat → Int32) (n : Nat) : Int32 := hg_sum (fun i => f_01 (f i)) n
def a_count (S : hg_S) (q : Int32) : Int32 := if q = nI 0 then nI (hg_n S 0) else if q = nI 1 then nI (hg_n S 1) else if q = nI 2 then nI (hg_n S 5) else if q = nI 3 then nI (hg_n S 4) else if q = nI 4 then f_tr (hg_i S 3) (hg_n S 0) else if q = nI 5 then f_tr (hg_i S 8) (hg_n S 1) else -1
/-! years -/
def s_add (S : hg_S) (k : Nat) (v : Int64) : hg_S := hg_sl S 2 (vp_updL (hg_l S 2) k (hg_l S 2 k + v))
def f_bx (S : hg_S) (w : Nat) : Nat := (hg_i S 1 w).toNatClampNeg
def f_fl (S : hg_S) (w p : Nat) : Int64 := Int32.toInt64 (f_flow S w p)
/-- wells take: what was taken, the state -/
def s_takes (S : hg_S) (p : Nat) : Nat → Int64 × hg_S
  | 0 => (0, S)
  | i + 1 => if hg_i (s_takes S p i).2 3 i = 0 then s_takes S p i else ((s_takes S p i).1 + f_part (s_takes S p i).2 (f_bx (s_takes S p i).2 i) (f_fl (s_takes S p i).2 i p), s_take (s_takes S p i).2 (f_bx (s_takes S p i).2 i) (f_fl (s_takes S p i).2 i p))
def f_tk (S : hg_S) (p i : Nat) : Int64 := (s_takes S p i).1
def s_tk (S : hg_S) (p i : Nat) : hg_S := (s_takes S p i).2
def s_sold (S : hg_S) (p : Nat) : hg_S := s_add S 6 (Int32.toInt64 (f_draw S p))
def s_prod (S : hg_S) (p : Nat) : hg_S := s_give (s_tk (s_sold S p) p (hg_n S 0)) (f_tk (s_sold S p) p (hg_n S 0))
def s_first (S : hg_S) : hg_S := if f_point S = -9 then s_add S 8 1 else s_prod S (f_point S).toNatClampNeg
def s_grow (S : hg_S) : hg_S := hg_si S 2 (f_ages S (hg_n S 0))
def s_year (S : hg_S) : hg_S := s_add (s_grow (s_feeds (s_leaks (s_first S) 3) 4)) 7 1
def s_years (S : hg_S) : Nat → hg_S
  | 0 => S
  | i + 1 => s_year (s_years S i)
def r_year (S : hg_S) (n : Int32) : Int32 × hg_S := if ok_in n 1 20 then (Int64.toInt32 (hg_l (s_years S n.toNatClampNeg) 2 7), s_years S n.toNatClampNeg) else (-1, S)
theorem f_meet_nat (S : hg_S) : ∀ k, k ≤ 21 → f_meet S k = -9 ∨ ∃ j, j < k ∧ f_meet S k = nI j
  | 0, _ => Or.inl rfl
  | k + 1, h => by
    unfold f_meet
    split
    · exact Or.inr ⟨k, Nat.lt_succ_self k, rfl⟩
    · rcases f_meet_nat S k (by omega) with q | ⟨j, h1, h2⟩
      · exact Or.inl q
      · exact Or.inr ⟨j, by omega, h2⟩
theorem f_point_nat {S : hg_S} (h : ¬ f_point S = -9) : ∃ j, j ≤ 20 ∧ f_point S = nI j := by
  rcases f_meet_nat S 21 (by omega) with q | ⟨j, h1, h2⟩
  · exact absurd q h
  · exact ⟨j, by omega, h2⟩
theorem hg_out {x : Int32} {n : Nat} (hn : n < 2 ^ 31) (h : ∀ j, j ≤ n → ¬ x = nI j) : x.toInt < 0 ∨ (n : Int) < x.toInt := by
  rcases Classical.em (x < 0) with q | q
  · exact Or.inl (by have := hg_lt.mp q; rw [i_z] at this; exact this)
  · obtain ⟨j, hj, rfl⟩ := nI_of q
    refine Or.inr ?_
    rw [nI_toInt hj]
    have : ¬ j ≤ n := fun q => h j q rfl
    omega
theorem s_take_i (S : hg_S) (b : Nat) (x : Int64) (k : Nat) : hg_i (s_take S b x) k = hg_i S k := rfl
theorem s_tk_i (S : hg_S) (p i k : Nat) : hg_i (s_tk S p i) k = hg_i S k := by
  induction i with
  | zero => rfl
  | succ i ih =>
    show hg_i (s_takes S p (i + 1)).2 k = _
    unfold s_takes
    split
    · exact ih
    · exact ih
theorem s_tk_n (S : hg_S) (p i k : Nat) : hg_n (s_tk S p i) k = hg_n S k := by
  induction i with
  | zero => rfl
  | succ i ih =>
    show hg_n (s_takes S p (i + 1)).2 k = _
    unfold s_takes
    split
    · exact ih
    · exact ih
theorem s_leak_n (S : hg_S) (i k : Nat) : hg_n (s_leak S i) k = hg_n S k := by unfold s_leak; split <;> rfl
theorem s_leaks_n (S : hg_S) (i k : Nat) : hg_n (s_leaks S i) k = hg_n S k := by
  induction i with
  | zero => rfl
  | succ i ih => exact (s_leak_n _ _ _).trans ih
theorem s_feeds_n (S : hg_S) (i k : Nat) : hg_n (s_feeds S i) k = hg_n S k := by
  induction i with
  | zero => rfl
  | succ i ih => exact ih
theorem s_prod_i (S : hg_S) (p k : Nat) : hg_i (s_prod S p) k = hg_i S k := by
  show hg_i (s_tk (s_sold S p) p (hg_n S 0)) k = _
  rw [s_tk_i]
  rfl
theorem s_prod_n (S : hg_S) (p k : Nat) : hg_n (s_prod S p) k = hg_n S k := by
  show hg_n (s_tk (s_sold S p) p (hg_n S 0)) k = _
  rw [s_tk_n]
  rfl
theorem s_first_i (S : hg_S) (k : Nat) : hg_i (s_first S) k = hg_i S k := by
  unfold s_first
  split
  · rfl
  · exact s_prod_i _ _ _
theorem s_first_n (S : hg_S) (k : Nat) : hg_n (s_first S) k = hg_n S k := by
  unfold s_first
  split
  · rfl
  · exact s_prod_n _ _ _
theorem s_add_n (S : hg_S) (j : Nat) (v : Int64) (k : Nat) : hg_n (s_add S j v) k = hg_n S k := rfl
theorem s_add_i (S : hg_S) (j : Nat) (v : Int64) (k : Nat) : hg_i (s_add S j v) k = hg_i S k := rfl
theorem s_grow_n (S : hg_S) (k : Nat) : hg_n (s_grow S) k = hg_n S k := rfl
theorem s_grow_i (S : hg_S) {k : Nat} (h : k ≠ 2) : hg_i (s_grow S) k = hg_i S k := if_neg h
theorem s_year_n (S : hg_S) (k : Nat) : hg_n (s_year S) k = hg_n S k := by
  unfold s_year
  rw [s_add_n, s_grow_n, s_feeds_n, s_leaks_n, s_first_n]
theorem s_year_i (S : hg_S) {k : Nat} (h : k ≠ 2) : hg_i (s_year S) k = hg_i S k := by
  unfold s_year
  rw [s_add_i, s_grow_i _ h, s_feeds_i, s_leaks_i, s_first_i]
theorem s_years_n (S : hg_S) (i k : Nat) : hg_n (s_years S i) k = hg_n S k := by
  induction i with
  | zero => rfl
  | succ i ih => exact (s_year_n _ _).trans ih
theorem s_years_i (S : hg_S) (i : Nat) {k : Nat} (h : k ≠ 2) : hg_i (s_years S i) k = hg_i S k := by
  induction i with
  | zero => rfl
  | succ i ih => exact (s_year_i _ h).trans ih
def ok_bx (S : hg_S) : Prop := ∀ w, w < 8 → ∃ b, b < 4 ∧ hg_i S 1 w = nI b
def ok_lk (S : hg_S) : Prop := ∀ i, i < 3 → 0 < hg_i S 9 i ∧ ¬ Int32.toInt64 (hg_i S 9 i) = 0
theorem ok_bx.eq {S : hg_S} (h : ok_bx S) {w : Nat} (hw : w < 8) : hg_i S 1 w = nI (f_bx S w) := by
  obtain ⟨b, hb, e⟩ := h w hw
  unfold f_bx
  rw [e, nI_clamp (by omega)]
theorem ok_bx.lt {S : hg_S} (h : ok_bx S) {w : Nat} (hw : w < 8) : f_bx S w < 4 := by
  obtain ⟨b, hb, e⟩ := h w hw
  unfold f_bx
  rw [e, nI_clamp (by omega)]
  exact hb
theorem ok_bx.tk {S : hg_S} (h : ok_bx S) (p i : Nat) : ok_bx (s_tk S p i) := fun w hw => by rw [s_tk_i]; exact h w hw
theorem ok_lk.first {S : hg_S} (h : ok_lk S) : ok_lk (s_first S) := fun w hw => by rw [s_first_i]; exact h w hw
theorem ok_bx.years {S : hg_S} (h : ok_bx S) (i : Nat) : ok_bx (s_years S i) := fun w hw => by rw [s_years_i S i (by decide)]; exact h w hw
theorem ok_lk.years {S : hg_S} (h : ok_lk S) (i : Nat) : ok_lk (s_years S i) := fun w hw => by rw [s_years_i S i (by decide)]; exact h w hw
theorem hg_dec20 {i : Nat} (h : i < 21) : nI (20 - i) + Int32.ofInt (-1) = nI 20 - nI (i + 1) := by
  have key : ∀ j : Fin 21, nI (20 - j.val) + Int32.ofInt (-1) = nI 20 - nI (j.val + 1) := by decide +kernel
  exact key ⟨i, h⟩
