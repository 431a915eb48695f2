theorem hg_leL {a b : Int64} : a ≤ b ↔ a.toInt ≤ b.toInt := Int64.le_iff_toInt_le
theorem hg_ltL {a b : Int64} : a < b ↔ a.toInt < b.toInt := Int64.lt_iff_toInt_lt
theorem hg_nltL {a b : Int64} : ¬ a < b ↔ b ≤ a := by rw [hg_ltL, hg_leL]; omega
theorem hg_nleL {a b : Int64} : ¬ a ≤ b ↔ b < a := by rw [hg_ltL, hg_leL]; omega
theorem hg_pos {a : Int64} (h : ¬ a < 0) (hn : ¬ a = 0) : 0 < a := by
  rw [hg_ltL] at h ⊢
  have : a.toInt ≠ (0 : Int64).toInt := fun q => hn (Int64.toInt_inj.mp q)
  omega
theorem ok_kd.tk {S : hg_S} (h : ok_kd S) (p i : Nat) : ok_kd (s_tk S p i) := fun w hw => by rw [s_tk_i]; exact h w hw
theorem s_give_n (S : hg_S) (x : Int64) (k : Nat) : hg_n (s_give S x) k = hg_n S k := rfl
theorem s_give_i (S : hg_S) (x : Int64) (k : Nat) : hg_i (s_give S x) k = hg_i S k := rfl
/-- draw looks at rows and counts alone -/
theorem f_draw_eq {S T : hg_S} (hn : hg_n T 1 = hg_n S 1) (hi : ∀ k, hg_i T k = hg_i S k) (p : Nat) : f_draw T p = f_draw S p := by
  have h : f_draw1 T p = f_draw1 S p := by
    funext t
    unfold f_draw1 f_dr
    rw [hi 8, hi 5, hi 7, hi 6]
  unfold f_draw
  rw [h, hn]
theorem f_draw_give (S : hg_S) (p : Nat) : f_draw (s_give (s_tk S p (hg_n S 0)) (f_tk S p (hg_n S 0))) p = f_draw S p :=
  f_draw_eq (by rw [s_give_n, s_tk_n]) (fun k => by rw [s_give_i, s_tk_i]) p
theorem f_flow_eq {S T : hg_S} (hi : ∀ k, hg_i T k = hg_i S k) (w p : Nat) : f_flow T w p = f_flow S w p := by
  have h1 : f_plain T w p = f_plain S w p := by unfold f_plain; rw [hi 4]
  have h2 : f_up T w p = f_up S w p := by unfold f_up; rw [hi 0, hi 2, h1]
  unfold f_flow
  rw [hi 0, h2]
/-- the sums' place 6 is nobody's but BOUGHT's -/
theorem updL_comm {f : Nat → Int64} {a b : Nat} (h : a ≠ b) (x y : Int64) : vp_updL (vp_updL f a x) b y = vp_updL (vp_updL f b y) a x := by
  funext j
  unfold vp_updL
  by_cases h1 : j = b
  · rw [if_pos h1, if_neg (fun q => h (q.symm.trans h1)), if_pos h1]
  · rw [if_neg h1, if_neg h1]
theorem s_book_add (S : hg_S) {k j : Nat} (h1 : k ≠ j) (h2 : k + 1 ≠ j) (m h v : Int64) : s_book (s_add S j v) k m h = s_add (s_book S k m h) j v := by
  have e1 : ∀ f : Nat → Int64, vp_updL f j (f j + v) k = f k := fun f => if_neg h1
  have e2 : ∀ (f : Nat → Int64) (x : Int64), vp_updL (vp_updL f k x) (k + 1) (vp_updL f k x (k + 1) + h) j = f j := fun f x => (if_neg (fun q => h2 q.symm)).trans (if_neg (fun q => h1 q.symm))
  have e3 : ∀ (f : Nat → Int64) (x : Int64), vp_updL f k x (k + 1) = f (k + 1) := fun f x => if_neg (by omega)
  have e4 : ∀ f : Nat → Int64, vp_updL f j (f j + v) (k + 1) = f (k + 1) := fun f => if_neg h2
  have e : ∀ f : Nat → Int64, vp_updL (vp_updL (vp_updL f j (f j + v)) k (vp_updL f j (f j + v) k + m)) (k + 1) (vp_updL (vp_updL f j (f j + v)) k (vp_updL f j (f j + v) k + m) (k + 1) + h) = vp_updL (vp_updL (vp_updL f k (f k + m)) (k + 1) (vp_updL f k (f k + m) (k + 1) + h)) j (vp_updL (vp_updL f k (f k + m)) (k + 1) (vp_updL f k (f k + m) (k + 1) + h) j + v) := by
    intro f
    rw [e1, e2, e3, e3, e4, updL_comm (Ne.symm h1), updL_comm (Ne.symm h2)]
  obtain ⟨a, b, c, d⟩ := S
  show (a, b, va_up (va_up c 2 _) 2 _, d) = (a, b, va_up (va_up c 2 _) 2 _, d)
  rw [bx_uu, bx_uu]
  exact congrArg (fun f => (a, b, va_up c 2 f, d)) (e (c 2))
theorem s_drain_add (S : hg_S) (b j : Nat) (m h v : Int64) : s_drain (s_add S j v) b m h = s_add (s_drain S b m h) j v := by
  obtain ⟨x, y, z, u⟩ := S
  show (x, y, va_up (va_up (va_up z 2 (vp_updL (z 2) j (z 2 j + v))) 0 (vp_updL (z 0) b (z 0 b - m))) 1 (vp_updL (z 1) b (z 1 b - h)), u) = (x, y, va_up (va_up (va_up z 0 (vp_updL (z 0) b (z 0 b - m))) 1 (vp_updL (z 1) b (z 1 b - h))) 2 (vp_updL (z 2) j (z 2 j + v)), u)
  congr 3
  funext k
  unfold va_up
  by_cases h0 : k = 0
  · subst h0; rfl
  · by_cases h1 : k = 1
    · subst h1; rfl
    · rw [if_neg h1, if_neg h0, if_neg h1, if_neg h0]
theorem s_pour_add (S : hg_S) (b j : Nat) (m h v : Int64) : s_pour (s_add S j v) b m h = s_add (s_pour S b m h) j v := by
  obtain ⟨x, y, z, u⟩ := S
  show (x, y, va_up (va_up (va_up z 2 (vp_updL (z 2) j (z 2 j + v))) 0 (vp_updL (z 0) b (z 0 b + m))) 1 (vp_updL (z 1) b (z 1 b + h)), u) = (x, y, va_up (va_up (va_up z 0 (vp_updL (z 0) b (z 0 b + m))) 1 (vp_updL (z 1) b (z 1 b + h))) 2 (vp_updL (z 2) j (z 2 j + v)), u)
  congr 3
  funext k
  unfold va_up
  by_cases h0 : k = 0
  · subst h0; rfl
  · by_cases h1 : k = 1
    · subst h1; rfl
    · rw [if_neg h1, if_neg h0, if_neg h1, if_neg h0]
theorem s_add_l (S : hg_S) (j : Nat) (v : Int64) {k : Nat} (h : k ≠ 2) : hg_l (s_add S j v) k = hg_l S k := if_neg h
theorem s_take_add (S : hg_S) (b : Nat) (x v : Int64) : s_take (s_add S 6 v) b x = s_add (s_take S b x) 6 v := by
  have e1 : f_part (s_add S 6 v) b x = f_part S b x := by unfold f_part; rw [s_add_l S 6 v (by decide)]
  have e2 : ∀ y, f_wm (s_add S 6 v) b y = f_wm S b y := fun y => by unfold f_wm; rw [s_add_l S 6 v (by decide), s_add_l S 6 v (by decide)]
  unfold s_take
  rw [e1, e2, s_drain_add, s_book_add _ (by decide) (by decide)]
theorem s_takes_add (S : hg_S) (p : Nat) (v : Int64) : ∀ i, s_takes (s_add S 6 v) p i = ((s_takes S p i).1, s_add (s_takes S p i).2 6 v)
  | 0 => rfl
  | i + 1 => by
    have ih := s_takes_add S p v i
    have hi : ∀ T : hg_S, f_bx (s_add T 6 v) i = f_bx T i := fun T => rfl
    have hf : ∀ T : hg_S, f_fl (s_add T 6 v) i p = f_fl T i p := fun T => congrArg Int32.toInt64 (f_flow_eq (fun k => rfl) i p)
    have hp : ∀ (T : hg_S) (b : Nat) (x : Int64), f_part (s_add T 6 v) b x = f_part T b x := fun T b x => by unfold f_part; rw [s_add_l T 6 v (by decide)]
    unfold s_takes
    rw [ih]
    by_cases hc : hg_i (s_takes S p i).2 3 i = 0
    · rw [if_pos hc, if_pos (show hg_i (s_add (s_takes S p i).2 6 v) 3 i = 0 from hc)]
    · rw [if_neg hc, if_neg (show ¬ hg_i (s_add (s_takes S p i).2 6 v) 3 i = 0 from hc)]
      show (_, _) = (_, _)
      rw [hi, hf, hp, s_take_add]
theorem s_give_add (S : hg_S) (x v : Int64) : s_give (s_add S 6 v) x = s_add (s_give S x) 6 v := by
  have e1 : f_given (s_add S 6 v) x = f_given S x := rfl
  unfold s_give
  rw [e1, s_pour_add, s_book_add _ (by decide) (by decide)]
  rfl
theorem s_prod_m (S : hg_S) (p : Nat) : s_add (s_give (s_tk S p (hg_n S 0)) (f_tk S p (hg_n S 0))) 6 (Int32.toInt64 (f_draw S p)) = s_prod S p := by
  unfold s_prod s_sold s_tk f_tk
  rw [s_takes_add, s_give_add]
