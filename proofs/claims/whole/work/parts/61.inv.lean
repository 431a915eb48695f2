/-! What holds of every state that calls lead to. -/
def ok_cr (S : hg_S) : Prop := ∀ j, j < 40 → 0 ≤ (hg_i S 4 j).toInt ∧ (hg_i S 4 j).toInt ≤ 200
def ok_ag (S : hg_S) (A : Int) : Prop := ∀ w, w < 8 → 0 ≤ (hg_i S 2 w).toInt ∧ (hg_i S 2 w).toInt ≤ A
def ok_lq (S : hg_S) : Prop := ∀ i, i < 3 → 2 ≤ (hg_i S 9 i).toInt ∧ (hg_i S 9 i).toInt ≤ 1000
def ok_fd (S : hg_S) : Prop := ∀ b, b < 4 → 0 ≤ (hg_i S 10 b).toInt ∧ (hg_i S 10 b).toInt ≤ 1000
def ok_ns (S : hg_S) : Prop := hg_n S 0 ≤ 8 ∧ hg_n S 1 ≤ 4 ∧ hg_n S 2 ≤ 1000 ∧ hg_n S 3 < 4 ∧ hg_n S 4 ≤ 12 ∧ hg_n S 5 ≤ 8
/-- what a year does not touch -/
def ok_st (S : hg_S) : Prop := ok_ns S ∧ ok_kd S ∧ ok_bx S ∧ ok_lq S ∧ ok_fd S ∧ ok_cr S
def ok_fr (S : hg_S) : Prop := ∀ w, hg_n S 0 ≤ w → w < 8 → hg_i S 2 w = nI 0 ∧ hg_i S 3 w = nI 0
def hg_Inv (S : hg_S) (c : Nat) : Prop := ok_st S ∧ ok_ms S (10000000 + 180000 * c) ∧ ok_ag S (20 * c) ∧ ok_fr S
theorem ok_lq.lk {S : hg_S} (h : ok_lq S) : ok_lk S := fun i hi => ⟨hg_lt.mpr (by
  have h1 := (h i hi).1
  have e : (0 : Int32).toInt = 0 := by decide
  omega), fun q => by
  have h1 := (h i hi).1
  have h2 : (Int32.toInt64 (hg_i S 9 i)).toInt = (hg_i S 9 i).toInt := Int32.toInt_toInt64 _
  rw [q] at h2
  have e : (0 : Int64).toInt = 0 := by decide
  omega⟩
theorem t_add {a b : Int32} (h1 : -2 ^ 31 ≤ a.toInt + b.toInt) (h2 : a.toInt + b.toInt < 2 ^ 31) : (a + b).toInt = a.toInt + b.toInt := Jvm.Kit.i32_add h1 h2
theorem t_mulb {a b : Int32} {x y : Int} (ha : 0 ≤ a.toInt ∧ a.toInt ≤ x) (hb : 0 ≤ b.toInt ∧ b.toInt ≤ y) (hxy : x * y < 2 ^ 31) : 0 ≤ (a * b).toInt ∧ (a * b).toInt ≤ x * y ∧ (a * b).toInt = a.toInt * b.toInt := by
  have h1 : 0 ≤ a.toInt * b.toInt := Int.mul_nonneg ha.1 hb.1
  have h2 : a.toInt * b.toInt ≤ x * y := Int.mul_le_mul ha.2 hb.2 hb.1 (by omega)
  rw [Jvm.Kit.i32_mul (by omega) (by omega)]
  exact ⟨h1, h2, rfl⟩
theorem t_nI {n : Nat} (h : n < 2 ^ 31) : (nI n).toInt = (n : Int) := nI_toInt h
/-- a flow of a PLAIN is 0 .. 1000 -/
theorem f_plain_b {S : hg_S} (hc : ok_cr S) {w p : Nat} (hw : w < 8) (hp : p ≤ 20) : 0 ≤ (f_plain S w p).toInt ∧ (f_plain S w p).toInt ≤ 1000 := by
  have h0 := hc (w * 5 + p / 5) (by omega)
  have hr : p % 5 < 5 := Nat.mod_lt _ (by decide)
  have e5 : (nI (5 - p % 5)).toInt = 5 - ((p % 5 : Nat) : Int) := by rw [t_nI (by omega)]; omega
  have m0 := t_mulb (a := nI (5 - p % 5)) (b := hg_i S 4 (w * 5 + p / 5)) (x := 5 - ((p % 5 : Nat) : Int)) (y := 200) (by rw [e5]; omega) h0 (by omega)
  unfold f_plain
  split
  · refine ⟨m0.1, ?_⟩
    have := m0.2.1
    omega
  · next hne =>
    have h1 := hc (w * 5 + p / 5 + 1) (by omega)
    have m1 := t_mulb (a := nI (p % 5)) (b := hg_i S 4 (w * 5 + p / 5 + 1)) (x := ((p % 5 : Nat) : Int)) (y := 200) (by rw [t_nI (by omega)]; omega) h1 (by omega)
    rw [t_add (by have := m0.1; have := m1.1; omega) (by have := m0.2.1; have := m1.2.1; omega)]
    have := m0.1; have := m0.2.1; have := m1.1; have := m1.2.1
    omega
theorem f_scaled_b {u a : Int32} (hu : 0 ≤ u.toInt ∧ u.toInt ≤ 1000) (ha : 0 ≤ a.toInt) : 0 ≤ (f_scaled u a).toInt ∧ (f_scaled u a).toInt ≤ 1000 := by
  unfold f_scaled
  split
  · next h =>
    have h1 := hg_lt.mp h
    rw [i_20] at h1
    have e1 : (nI 20 - a).toInt = 20 - a.toInt := by rw [Jvm.Kit.i32_sub (by rw [i_20]; omega) (by rw [i_20]; omega), i_20]
    have m := t_mulb (a := u) (b := nI 20 - a) (x := 1000) (y := 20) hu (by rw [e1]; omega) (by omega)
    have m3 : (u * (nI 20 - a)).toInt ≤ u.toInt * 20 := by
      rw [m.2.2, e1]
      exact Int.mul_le_mul_of_nonneg_left (by omega) hu.1
    rw [Jvm.Kit.i32_div (by rw [i_20]; omega), i_20]
    have k := m.1
    rw [Int.tdiv_eq_ediv_of_nonneg k]
    omega
  · rw [i_0]; omega
theorem f_flow_b {S : hg_S} {A : Int} (hc : ok_cr S) (ha : ok_ag S A) {w p : Nat} (hw : w < 8) (hp : p ≤ 20) : 0 ≤ (f_flow S w p).toInt ∧ (f_flow S w p).toInt ≤ 1000 := by
  have h1 := f_plain_b hc hw hp
  have h2 : 0 ≤ (f_up S w p).toInt ∧ (f_up S w p).toInt ≤ 1000 := by
    unfold f_up
    split
    · exact h1
    · exact f_scaled_b h1 (ha w hw).1
  unfold f_flow
  split
  · exact h2
  · unfold f_tested
    split
    · rw [i_1000]; omega
    · exact h2
theorem f_fl_b {S : hg_S} {A : Int} (hc : ok_cr S) (ha : ok_ag S A) {w p : Nat} (hw : w < 8) (hp : p ≤ 20) : 0 ≤ (f_fl S w p).toInt ∧ (f_fl S w p).toInt ≤ 1000 := by
  unfold f_fl
  rw [Int32.toInt_toInt64]
  exact f_flow_b hc ha hw hp
theorem z64 : (0 : Int64).toInt = 0 := by decide
theorem updL_at (f : Nat → Int64) (k : Nat) (x : Int64) (j : Nat) : vp_updL f k x j = if j = k then x else f j := rfl
theorem s_book_l (S : hg_S) (k : Nat) (m h : Int64) {j : Nat} (hj : j ≠ 2) : hg_l (s_book S k m h) j = hg_l S j := if_neg hj
theorem s_pour_l (S : hg_S) (b : Nat) (m h : Int64) : hg_l (s_pour S b m h) 0 = vp_updL (hg_l S 0) b (hg_l S 0 b + m) := rfl
theorem s_drain_l (S : hg_S) (b : Nat) (m h : Int64) : hg_l (s_drain S b m h) 0 = vp_updL (hg_l S 0) b (hg_l S 0 b - m) := rfl
theorem f_part_b {S : hg_S} {B : Int} (hm : ok_ms S B) {b : Nat} (hb : b < 4) {x : Int64} {X : Int} (hx : 0 ≤ x.toInt ∧ x.toInt ≤ X) : 0 ≤ (f_part S b x).toInt ∧ (f_part S b x).toInt ≤ X ∧ (f_part S b x).toInt ≤ (hg_l S 0 b).toInt := by
  have h := hm b hb
  unfold f_part
  split
  · next q => have := hg_ltL.mp q; omega
  · next q => rw [hg_ltL] at q; omega
theorem ok_ms.take {S : hg_S} {B : Int} (hB : B < 2 ^ 62) (hm : ok_ms S B) {b : Nat} (hb : b < 4) {x : Int64} {X : Int} (hx : 0 ≤ x.toInt ∧ x.toInt ≤ X) : ok_ms (s_take S b x) B := by
  intro j hj
  have hp := f_part_b hm hb hx
  have h := hm j hj
  have hbb := hm b hb
  unfold s_take
  rw [s_book_l _ _ _ _ (by decide), s_drain_l, updL_at]
  split
  · rw [hg_subL (by omega) (by omega)]; omega
  · exact h
theorem ok_tk {S : hg_S} {B A : Int} (hB : B < 2 ^ 62) (hm : ok_ms S B) (hc : ok_cr S) (ha : ok_ag S A) (hbx : ok_bx S) {p : Nat} (hp : p ≤ 20) : ∀ i, i ≤ 8 → ok_ms (s_tk S p i) B ∧ 0 ≤ (f_tk S p i).toInt ∧ (f_tk S p i).toInt ≤ 1000 * i
  | 0, _ => ⟨hm, by show 0 ≤ (0 : Int64).toInt ∧ (0 : Int64).toInt ≤ _; rw [z64]; omega⟩
  | i + 1, hi => by
    have ih := ok_tk hB hm hc ha hbx hp i (by omega)
    have hfl : 0 ≤ (f_fl (s_tk S p i) i p).toInt ∧ (f_fl (s_tk S p i) i p).toInt ≤ 1000 := by
      have e : f_fl (s_tk S p i) i p = f_fl S i p := congrArg Int32.toInt64 (f_flow_eq (fun k => s_tk_i S p i k) i p)
      rw [e]
      exact f_fl_b hc ha (by omega) hp
    have hb4 := (hbx.tk p i).lt (show i < 8 by omega)
    by_cases hz : hg_i (s_takes S p i).2 3 i = 0
    · have e : s_takes S p (i + 1) = s_takes S p i := if_pos hz
      have e1 : s_tk S p (i + 1) = s_tk S p i := congrArg Prod.snd e
      have e2 : f_tk S p (i + 1) = f_tk S p i := congrArg Prod.fst e
      rw [e1, e2]
      exact ⟨ih.1, ih.2.1, by have := ih.2.2; omega⟩
    · have e : s_takes S p (i + 1) = (f_tk S p i + f_part (s_tk S p i) (f_bx (s_tk S p i) i) (f_fl (s_tk S p i) i p), s_take (s_tk S p i) (f_bx (s_tk S p i) i) (f_fl (s_tk S p i) i p)) := if_neg hz
      have e1 : s_tk S p (i + 1) = s_take (s_tk S p i) (f_bx (s_tk S p i) i) (f_fl (s_tk S p i) i p) := congrArg Prod.snd e
      have e2 : f_tk S p (i + 1) = f_tk S p i + f_part (s_tk S p i) (f_bx (s_tk S p i) i) (f_fl (s_tk S p i) i p) := congrArg Prod.fst e
      have hpt := f_part_b ih.1 hb4 hfl
      rw [e1, e2]
      refine ⟨ih.1.take hB hb4 hfl, ?_⟩
      have := ih.2
      rw [Jvm.Kit.i64_add (by omega) (by omega)]
      omega
theorem ok_ms.mono {S : hg_S} {B C : Int} (h : ok_ms S B) (hBC : B ≤ C) : ok_ms S C := fun b hb => ⟨(h b hb).1, Int.le_trans (h b hb).2 hBC⟩
theorem ok_ms.give {S : hg_S} {B : Int} (hB : B < 2 ^ 61) (hm : ok_ms S B) (hs : hg_n S 2 ≤ 1000) {x : Int64} (hx : 0 ≤ x.toInt ∧ x.toInt ≤ 8000) : ok_ms (s_give S x) (B + 8000) := by
  have e1 : (Int32.toInt64 (nI (hg_n S 2))).toInt = (hg_n S 2 : Int) := by rw [Int32.toInt_toInt64, t_nI (by omega)]
  have hmul : (x * Int32.toInt64 (nI (hg_n S 2))).toInt = x.toInt * (hg_n S 2 : Int) := by
    have a1 : 0 ≤ x.toInt * (hg_n S 2 : Int) := Int.mul_nonneg hx.1 (by omega)
    have a2 : x.toInt * (hg_n S 2 : Int) ≤ 8000 * 1000 := Int.mul_le_mul hx.2 (by omega) (by omega) (by omega)
    rw [Jvm.Kit.i64_mul (by rw [e1]; omega) (by rw [e1]; omega), e1]
  have hg : 0 ≤ (f_given S x).toInt ∧ (f_given S x).toInt ≤ 8000 := by
    have e3 : (1000 : Int64).toInt = 1000 := by decide
    have a1 : 0 ≤ x.toInt * (hg_n S 2 : Int) := Int.mul_nonneg hx.1 (by omega)
    have a2 : x.toInt * (hg_n S 2 : Int) ≤ x.toInt * 1000 := Int.mul_le_mul_of_nonneg_left (by omega) hx.1
    unfold f_given
    rw [Jvm.Kit.i64_div (by rw [e3]; omega), hmul, e3, Int.tdiv_eq_ediv_of_nonneg a1]
    omega
  intro j hj
  have h := hm j hj
  unfold s_give
  rw [s_book_l _ _ _ _ (by decide), s_pour_l, updL_at]
  split
  · next q => subst q; rw [Jvm.Kit.i64_add (by omega) (by omega)]; omega
  · omega
theorem f_leakP_b {S : hg_S} {B : Int} (hB : B < 2 ^ 62) (hm : ok_ms S B) (hl : ok_lq S) {i a b : Nat} (hi : i < 3) (ha : a < 4) (hb : b < 4) (hab : (hg_l S 0 b).toInt ≤ (hg_l S 0 a).toInt) : 0 ≤ (f_leakP S i a b).toInt ∧ 2 * (f_leakP S i a b).toInt ≤ (hg_l S 0 a).toInt - (hg_l S 0 b).toInt := by
  have h1 := hm a ha
  have h2 := hm b hb
  have h3 := hl i hi
  have e1 : (Int32.toInt64 (hg_i S 9 i)).toInt = (hg_i S 9 i).toInt := Int32.toInt_toInt64 _
  have e2 : (hg_l S 0 a - hg_l S 0 b).toInt = (hg_l S 0 a).toInt - (hg_l S 0 b).toInt := hg_subL (by omega) (by omega)
  unfold f_leakP
  rw [Jvm.Kit.i64_div (by rw [e1]; omega), e1, e2, Int.tdiv_eq_ediv_of_nonneg (by omega)]
  have hd : 0 ≤ (hg_l S 0 a).toInt - (hg_l S 0 b).toInt := by omega
  have q1 : 0 ≤ ((hg_l S 0 a).toInt - (hg_l S 0 b).toInt) / (hg_i S 9 i).toInt := Int.ediv_nonneg hd (by omega)
  refine ⟨q1, ?_⟩
  have q2 : ((hg_l S 0 a).toInt - (hg_l S 0 b).toInt) / (hg_i S 9 i).toInt * (hg_i S 9 i).toInt ≤ (hg_l S 0 a).toInt - (hg_l S 0 b).toInt := Int.ediv_mul_le _ (by omega)
  have q3 : ((hg_l S 0 a).toInt - (hg_l S 0 b).toInt) / (hg_i S 9 i).toInt * 2 ≤ ((hg_l S 0 a).toInt - (hg_l S 0 b).toInt) / (hg_i S 9 i).toInt * (hg_i S 9 i).toInt := Int.mul_le_mul_of_nonneg_left (by omega) q1
  omega
theorem ok_ms.move {S : hg_S} {B : Int} (hB : B < 2 ^ 62) (hm : ok_ms S B) {a b : Nat} (ha : a < 4) (hb : b < 4) (hab : a ≠ b) {m : Int64} (hm0 : 0 ≤ m.toInt) (hm1 : 2 * m.toInt ≤ (hg_l S 0 a).toInt - (hg_l S 0 b).toInt) : ok_ms (s_move S a b m) B := by
  intro j hj
  have h1 := hm a ha
  have h2 := hm b hb
  have h := hm j hj
  have en : (-m).toInt = -m.toInt := Jvm.Kit.i64_neg (by omega)
  have ea : (hg_l S 0 a + -m).toInt = (hg_l S 0 a).toInt - m.toInt := by rw [Jvm.Kit.i64_add (by rw [en]; omega) (by rw [en]; omega), en]; omega
  have eb : (hg_l S 0 b + m).toInt = (hg_l S 0 b).toInt + m.toInt := Jvm.Kit.i64_add (by omega) (by omega)
  unfold s_move
  rw [s_pour_l, s_pour_l, updL_at, updL_at, updL_at]
  by_cases jb : j = b
  · subst jb
    rw [if_pos rfl, if_neg (Ne.symm hab), eb]
    omega
  · rw [if_neg jb]
    by_cases ja : j = a
    · subst ja
      rw [if_pos rfl, ea]
      omega
    · rw [if_neg ja]
      exact h
theorem ok_ms.leak {S : hg_S} {B : Int} (hB : B < 2 ^ 62) (hm : ok_ms S B) (hl : ok_lq S) {i : Nat} (hi : i < 3) : ok_ms (s_leak S i) B := by
  unfold s_leak
  split
  · next q =>
    have q1 := hg_ltL.mp q
    have r := f_leakP_b hB hm hl hi (show i + 1 < 4 by omega) (show i < 4 by omega) (by omega)
    exact hm.move hB (by omega) (by omega) (by omega) r.1 r.2
  · next q =>
    rw [hg_ltL] at q
    have r := f_leakP_b hB hm hl hi (show i < 4 by omega) (show i + 1 < 4 by omega) (by omega)
    exact hm.move hB (by omega) (by omega) (by omega) r.1 r.2
theorem ok_lq.leaks {S : hg_S} (h : ok_lq S) (i : Nat) : ok_lq (s_leaks S i) := fun k hk => by rw [s_leaks_i]; exact h k hk
theorem ok_ms.leaks {S : hg_S} {B : Int} (hB : B < 2 ^ 62) (hm : ok_ms S B) (hl : ok_lq S) : ∀ i, i ≤ 3 → ok_ms (s_leaks S i) B
  | 0, _ => hm
  | i + 1, hi => (ok_ms.leaks hB hm hl i (by omega)).leak hB (hl.leaks i) (by omega)
theorem ok_ms.feeds {S : hg_S} {B : Int} (hB : B < 2 ^ 61) (hm : ok_ms S B) (hf : ok_fd S) : ∀ i, i ≤ 4 → ∀ b, b < 4 → 0 ≤ (hg_l (s_feeds S i) 0 b).toInt ∧ (hg_l (s_feeds S i) 0 b).toInt ≤ (if b < i then B + 1000 else B)
  | 0, _ => fun b hb => by rw [if_neg (Nat.not_lt_zero _)]; exact hm b hb
  | i + 1, hi => fun b hb => by
    have ih := ok_ms.feeds hB hm hf i (by omega)
    have hi2 := ih i (by omega)
    rw [if_neg (Nat.lt_irrefl i)] at hi2
    have fi : (f_feedM (s_feeds S i) i).toInt = (hg_i S 10 i).toInt := by
      unfold f_feedM
      rw [Int32.toInt_toInt64, s_feeds_i]
    have ff := hf i (by omega)
    have e0 : hg_l (s_feeds S (i + 1)) 0 = vp_updL (hg_l (s_feeds S i) 0) i (hg_l (s_feeds S i) 0 i + f_feedM (s_feeds S i) i) := by
      show hg_l (s_feed (s_feeds S i) i) 0 = _
      unfold s_feed
      rw [s_book_l _ _ _ _ (by decide), s_pour_l]
    rw [e0, updL_at]
    split
    · next q =>
      subst q
      rw [if_pos (Nat.lt_succ_self _), Jvm.Kit.i64_add (by omega) (by omega)]
      omega
    · next q =>
      have h := ih b hb
      refine ⟨h.1, ?_⟩
      by_cases c : b < i
      · rw [if_pos c] at h; rw [if_pos (by omega)]; exact h.2
      · rw [if_neg c] at h; rw [if_neg (by omega)]; exact h.2
