theorem dX4_grow_35 : decode cX4_grow 35 = .ok (.return_, 1) := by decide +kernel
/-! What the document's numbers are, over the state: both systems are tied to these. -/
theorem i_0 : (nI 0).toInt = 0 := by decide
theorem i_1 : (nI 1).toInt = 1 := by decide
theorem i_2 : (nI 2).toInt = 2 := by decide
theorem i_19 : (nI 19).toInt = 19 := by decide
theorem i_20 : (nI 20).toInt = 20 := by decide
theorem i_1000 : (nI 1000).toInt = 1000 := by decide
theorem i_z : (0 : Int32).toInt = 0 := by decide
theorem nI_eq0 {n : Nat} (h : n < 2 ^ 31) : nI n = 0 ↔ n = 0 := by
  rw [← nI_0, nI_eq h (by omega)]
theorem hg_nlt {a b : Int32} : ¬ a < b ↔ b ≤ a := by rw [hg_lt, hg_le]; omega
theorem hg_nle {a b : Int32} : ¬ a ≤ b ↔ b < a := by rw [hg_lt, hg_le]; omega
def f_plain (S : hg_S) (w p : Nat) : Int32 := if p % 5 = 0 then nI (5 - p % 5) * hg_i S 4 (w * 5 + p / 5) else nI (5 - p % 5) * hg_i S 4 (w * 5 + p / 5) + nI (p % 5) * hg_i S 4 (w * 5 + p / 5 + 1)
def f_scaled (up age : Int32) : Int32 := if age < nI 20 then up * (nI 20 - age) / nI 20 else nI 0
def f_tested (up : Int32) : Int32 := if nI 1000 < up then nI 1000 else up
def f_up (S : hg_S) (w p : Nat) : Int32 := if hg_i S 0 w < nI 1 then f_plain S w p else f_scaled (f_plain S w p) (hg_i S 2 w)
def f_flow (S : hg_S) (w p : Nat) : Int32 := if hg_i S 0 w < nI 2 then f_up S w p else f_tested (f_up S w p)
def f_weight (S : hg_S) (w : Nat) : Int32 := if hg_i S 0 w < nI 1 then nI 1 else if hg_i S 0 w < nI 2 then nI 11 else nI 111
def f_steam (flow : Int32) (p : Nat) : Int32 := flow * nI (300 - 5 * p) / nI 1000
def f_sup1 (S : hg_S) (p w : Nat) : Int32 := if hg_i S 3 w = 0 then 0 else f_steam (f_flow S w p) p
def f_supply (S : hg_S) (p : Nat) : Int32 := hg_sum (f_sup1 S p) (hg_n S 0)
def f_wat1 (S : hg_S) (p w : Nat) : Int32 := if hg_i S 3 w = 0 then 0 else f_flow S w p - f_steam (f_flow S w p) p
def f_water (S : hg_S) (p : Nat) : Int32 := hg_sum (f_wat1 S p) (hg_n S 0)
def f_dr (S : hg_S) (p t : Nat) : Int32 := if hg_i S 7 t < hg_i S 6 t * nI (p + 1) then hg_i S 7 t else hg_i S 6 t * nI (p + 1)
def f_draw1 (S : hg_S) (p t : Nat) : Int32 := if hg_i S 8 t = 0 then 0 else if nI p < hg_i S 5 t then 0 else f_dr S p t
def f_draw (S : hg_S) (p : Nat) : Int32 := hg_sum (f_draw1 S p) (hg_n S 1)
def f_meet (S : hg_S) : Nat → Int32
  | 0 => -9
  | k + 1 => if f_draw S k ≤ f_supply S k then nI k else f_meet S k
def f_point (S : hg_S) : Int32 := f_meet S 21
theorem hg_sum_0 {g : Nat → Int32} : nI 0 = hg_sum g 0 := nI_0
theorem hg_sum_keep {g : Nat → Int32} {n : Nat} (h : g n = 0) : hg_sum g n = hg_sum g (n + 1) := by
  show _ = hg_sum g n + g n
  rw [h, Int32.add_zero]
section HF
variable {p : Program} {l : Launch} {e : Env} {R : Room} {s : State} {m : MethodId} {args : Array Value} {below : List Frame} {meth : Method} {c : Code} {H : Heap} {locs : List Loc} {cells slots : Nat} {Q : State → Prop}
variable {pc nL : Nat} {D : va_G} {cl : List vw_C} {A : Nat → Prop} {H0 : Heap}
/-- a loop that reads: its locals by the turn -/
theorem h_for (N : Nat) (inv : Nat → List (Nat × Value))
    (step : ∀ (i : Nat) (ls : Array Slot), i < N → lv_has ls nL (inv i) → (∀ ls' : Array Slot, lv_has ls' nL (inv (i + 1)) → W p l e R s m args below meth c H locs cells slots Q (F0 m pc ls' [])) → W p l e R s m args below meth c H locs cells slots Q (F0 m pc ls []))
    (done : ∀ ls : Array Slot, lv_has ls nL (inv N) → W p l e R s m args below meth c H locs cells slots Q (F0 m pc ls [])) {ls : Array Slot} (hl : lv_has ls nL (inv 0)) : W p l e R s m args below meth c H locs cells slots Q (F0 m pc ls []) := by
  have key : ∀ (d i : Nat), i + d = N → ∀ ls : Array Slot, lv_has ls nL (inv i) → W p l e R s m args below meth c H locs cells slots Q (F0 m pc ls []) := by
    intro d
    induction d with
    | zero => intro i hi ls h; have e : i = N := hi; subst e; exact done ls h
    | succ d ih => intro i hi ls h; exact step i ls (by omega) h (fun ls' h' => ih (i + 1) (by omega) ls' h')
  exact key N 0 (by omega) ls hl
/-- a loop that reads, with a fact -/
theorem h_forI (N : Nat) (inv : Nat → List (Nat × Value)) (I : Nat → Prop)
    (step : ∀ (i : Nat) (ls : Array Slot), i < N → I i → lv_has ls nL (inv i) → (∀ ls' : Array Slot, I (i + 1) → lv_has ls' nL (inv (i + 1)) → W p l e R s m args below meth c H locs cells slots Q (F0 m pc ls' [])) → W p l e R s m args below meth c H locs cells slots Q (F0 m pc ls []))
    (done : ∀ ls : Array Slot, I N → lv_has ls nL (inv N) → W p l e R s m args below meth c H locs cells slots Q (F0 m pc ls [])) (hI : I 0) {ls : Array Slot} (hl : lv_has ls nL (inv 0)) : W p l e R s m args below meth c H locs cells slots Q (F0 m pc ls []) := by
  have key : ∀ (d i : Nat), i + d = N → I i → ∀ ls : Array Slot, lv_has ls nL (inv i) → W p l e R s m args below meth c H locs cells slots Q (F0 m pc ls []) := by
    intro d
    induction d with
    | zero => intro i hi hI ls h; have e : i = N := hi; subst e; exact done ls hI h
    | succ d ih => intro i hi hI ls h; exact step i ls (by omega) hI h (fun ls' hI' h' => ih (i + 1) (by omega) hI' ls' h')
  exact key N 0 (by omega) hI ls hl
/-- a loop that counts down to 0, with the end below -/
theorem h_down (N : Nat) (inv : Nat → List (Nat × Value))
    (step : ∀ (i : Nat) (ls : Array Slot), i < N → lv_has ls nL (inv (i + 1)) → (∀ ls' : Array Slot, lv_has ls' nL (inv i) → W p l e R s m args below meth c H locs cells slots Q (F0 m pc ls' [])) → W p l e R s m args below meth c H locs cells slots Q (F0 m pc ls []))
    (done : ∀ ls : Array Slot, lv_has ls nL (inv 0) → W p l e R s m args below meth c H locs cells slots Q (F0 m pc ls [])) {ls : Array Slot} (hl : lv_has ls nL (inv N)) : W p l e R s m args below meth c H locs cells slots Q (F0 m pc ls []) := by
  have key : ∀ (i : Nat), i ≤ N → ∀ ls : Array Slot, lv_has ls nL (inv i) → W p l e R s m args below meth c H locs cells slots Q (F0 m pc ls []) := by
    intro i
    induction i with
    | zero => intro _ ls h; exact done ls h
    | succ i ih => intro hi ls h; exact step i ls (by omega) h (fun ls' h' => ih (by omega) ls' h')
  exact key N (Nat.le_refl N) ls hl
/-- a loop that writes: its locals and its cells by the turn -/
theorem h_forW (N : Nat) (inv : Nat → List (Nat × Value)) (wi : Nat → va_W)
    (step : ∀ (i : Nat) (ls : Array Slot) (H : Heap) (locs : List Loc), i < N → lv_has ls nL (inv i) → va_P D cl (wi i) H → va_D A (wi i) → va_S A H0 H locs → (∀ (ls' : Array Slot) (H' : Heap) (locs' : List Loc), lv_has ls' nL (inv (i + 1)) → va_P D cl (wi (i + 1)) H' → va_D A (wi (i + 1)) → va_S A H0 H' locs' → W p l e R s m args below meth c H' locs' cells slots Q (F0 m pc ls' [])) → W p l e R s m args below meth c H locs cells slots Q (F0 m pc ls []))
    (done : ∀ (ls : Array Slot) (H : Heap) (locs : List Loc), lv_has ls nL (inv N) → va_P D cl (wi N) H → va_D A (wi N) → va_S A H0 H locs → W p l e R s m args below meth c H locs cells slots Q (F0 m pc ls [])) {ls : Array Slot} (hl : lv_has ls nL (inv 0)) (hP : va_P D cl (wi 0) H) (hD : va_D A (wi 0)) (hS : va_S A H0 H locs) : W p l e R s m args below meth c H locs cells slots Q (F0 m pc ls []) := by
  have key : ∀ (d i : Nat), i + d = N → ∀ (ls : Array Slot) (H : Heap) (locs : List Loc), lv_has ls nL (inv i) → va_P D cl (wi i) H → va_D A (wi i) → va_S A H0 H locs → W p l e R s m args below meth c H locs cells slots Q (F0 m pc ls []) := by
    intro d
    induction d with
    | zero => intro i hi ls H locs h1 h2 h3 h4; have e : i = N := hi; subst e; exact done ls H locs h1 h2 h3 h4
    | succ d ih => intro i hi ls H locs h1 h2 h3 h4; exact step i ls H locs (by omega) h1 h2 h3 h4 (fun ls' H' locs' g1 g2 g3 g4 => ih (i + 1) (by omega) ls' H' locs' g1 g2 g3 g4)
  exact key N 0 (by omega) ls H locs hl hP hD hS
/-- two roads meet with a number on the stack -/
theorem h_joini {g : JFrame} {ls2 : Array Slot} {rest : List Value} (pc2 : Nat) (E : Int32) (k2 : ∀ x : Int32, x = E → W p l e R s m args below meth c H locs cells slots Q (F0 m pc2 ls2 (.int x :: rest))) (k1 : (∀ x : Int32, x = E → W p l e R s m args below meth c H locs cells slots Q (F0 m pc2 ls2 (.int x :: rest))) → W p l e R s m args below meth c H locs cells slots Q g) : W p l e R s m args below meth c H locs cells slots Q g := k1 k2
theorem h_joinl {g : JFrame} {ls2 : Array Slot} {rest : List Value} (pc2 : Nat) (E : Int64) (k2 : ∀ x : Int64, x = E → W p l e R s m args below meth c H locs cells slots Q (F0 m pc2 ls2 (.long x :: rest))) (k1 : (∀ x : Int64, x = E → W p l e R s m args below meth c H locs cells slots Q (F0 m pc2 ls2 (.long x :: rest))) → W p l e R s m args below meth c H locs cells slots Q g) : W p l e R s m args below meth c H locs cells slots Q g := k1 k2
end HF
def f_ages (S : hg_S) (i : Nat) : Nat → Int32 := fun w => if w < i ∧ ¬ hg_i S 3 w = 0 then hg_i S 2 w + nI 1 else hg_i S 2 w
theorem hg_si_self (S : hg_S) (k : Nat) : hg_si S k (hg_i S k) = S := by
  obtain ⟨a, b, c, d⟩ := S
  show (a, va_up b k (b k), c, d) = _
  congr 2
  funext j
  unfold va_up
  split
  · next h => rw [h]
  · rfl
theorem hg_sl_self (S : hg_S) (k : Nat) : hg_sl S k (hg_l S k) = S := by
  obtain ⟨a, b, c, d⟩ := S
  show (a, b, va_up c k (c k), d) = _
  congr 3
  funext j
  unfold va_up
  split
  · next h => rw [h]
  · rfl
theorem f_ages_0 (S : hg_S) : S = hg_si S 2 (f_ages S 0) := by
  have h : f_ages S 0 = hg_i S 2 := by
    funext w
    unfold f_ages
    rw [if_neg (fun h => Nat.not_lt_zero w h.1)]
  rw [h, hg_si_self]
theorem f_ages_put {S : hg_S} {i : Nat} (h : ¬ hg_i S 3 i = 0) : upd (f_ages S i) i (f_ages S i i + nI 1) = f_ages S (i + 1) := by
  funext w
  unfold upd
  by_cases hw : w = i
  · subst hw
    rw [if_pos rfl]
    unfold f_ages
    rw [if_neg (fun q => Nat.lt_irrefl _ q.1), if_pos ⟨Nat.lt_succ_self _, h⟩]
  · rw [if_neg hw]
    unfold f_ages
    by_cases h1 : w < i ∧ ¬ hg_i S 3 w = 0
    · rw [if_pos h1, if_pos ⟨Nat.lt_succ_of_lt h1.1, h1.2⟩]
    · rw [if_neg h1, if_neg (fun q => h1 ⟨by omega, q.2⟩)]
theorem f_ages_skip {S : hg_S} {i : Nat} (h : hg_i S 3 i = 0) : f_ages S i = f_ages S (i + 1) := by
  funext w
  unfold f_ages
  by_cases h1 : w < i ∧ ¬ hg_i S 3 w = 0
  · rw [if_pos h1, if_pos ⟨Nat.lt_succ_of_lt h1.1, h1.2⟩]
  · rw [if_neg h1, if_neg (fun q => h1 ⟨by
      have : w ≠ i := fun e => q.2 (e ▸ h)
      omega, q.2⟩)]

theorem hg_subneg {a b : Nat} (ha : a < 2 ^ 30) (hb : b < 2 ^ 30) : nI a - nI b < 0 ↔ a < b := by
  rw [hg_lt, pk_sub_toInt ha hb, i_z]; omega
theorem hg_n0 {a : Nat} (ha : a < 2 ^ 31) : nI a < 0 ↔ False := ⟨fun h => nI_pos ha h, False.elim⟩
/-- what comes back in a year: share k of what was put in k years before -/
def f_com1 (S : hg_S) (y k : Nat) : Int32 := if y < k then 0 else if y - k < hg_n S 4 then hg_i S 12 (y - k) * hg_i S 11 k / nI 1000 else 0
def f_comes (S : hg_S) (y : Nat) : Int32 := hg_sum (f_com1 S y) 6
/-- candidate k is in the set -/
abbrev f_in (s : Int32) (k : Nat) : Prop := (s >>> (nI k &&& 31)) &&& nI 1 = nI 1
def f_cost1 (S : hg_S) (s : Int32) (k : Nat) : Int32 := if f_in s k then hg_i S 13 k else 0
def f_cost (S : hg_S) (s : Int32) : Int32 := hg_sum (f_cost1 S s) (hg_n S 5)
def f_gives1 (S : hg_S) (s : Int32) (y k : Nat) : Int32 := if f_in s k then (if nI y < hg_i S 14 k then 0 else hg_i S 15 k) else 0
def f_gap (S : hg_S) (s : Int32) (y : Nat) : Int32 := hg_i S 16 y - hg_sum (f_gives1 S s y) (hg_n S 5)
def f_lack (S : hg_S) (s : Int32) (y : Nat) : Int32 := if f_gap S s y < nI 0 then nI 0 else f_gap S s y
abbrev f_keeps (S : hg_S) (s : Int32) : Prop := ∀ y, y < 6 → ¬ 0 < f_lack S s y
/-- the best set among the first i, and its cost -/
def f_best (S : hg_S) : Nat → Int32 × Int32
  | 0 => (-9, 0)
  | i + 1 => if ((f_best S i).1 = -9 ∨ f_cost S (nI i) < (f_best S i).2) ∧ f_keeps S (nI i) then (nI i, f_cost S (nI i)) else f_best S i
theorem hg_shl8 : ∀ n, n ≤ 8 → nI 1 <<< (nI n &&& 31) = nI (2 ^ n) := by
  intro n h
  have key : ∀ k : Fin 9, nI 1 <<< (nI k.val &&& 31) = nI (2 ^ k.val) := by decide +kernel
  exact key ⟨n, by omega⟩
theorem hg_pow8 {n : Nat} (h : n ≤ 8) : 2 ^ n < 2 ^ 31 := Nat.pow_lt_pow_right (by decide) (by omega)
/-! boxes -/
def f_warm (mass heat part : Int64) : Int64 := if 0 < mass then part * heat / mass else 0
def s_pour (S : hg_S) (b : Nat) (m h : Int64) : hg_S := hg_sl (hg_sl S 0 (vp_updL (hg_l S 0) b (hg_l S 0 b + m))) 1 (vp_updL (hg_l S 1) b (hg_l S 1 b + h))
def s_drain (S : hg_S) (b : Nat) (m h : Int64) : hg_S := hg_sl (hg_sl S 0 (vp_updL (hg_l S 0) b (hg_l S 0 b - m))) 1 (vp_updL (hg_l S 1) b (hg_l S 1 b - h))
def s_book (S : hg_S) (k : Nat) (m h : Int64) : hg_S := hg_sl S 2 (vp_updL (vp_updL (hg_l S 2) k (hg_l S 2 k + m)) (k + 1) (vp_updL (hg_l S 2) k (hg_l S 2 k + m) (k + 1) + h))
def f_part (S : hg_S) (b : Nat) (want : Int64) : Int64 := if hg_l S 0 b < want then hg_l S 0 b else want
def f_wm (S : hg_S) (b : Nat) (part : Int64) : Int64 := f_warm (hg_l S 0 b) (hg_l S 1 b) part
def s_take (S : hg_S) (b : Nat) (want : Int64) : hg_S := s_book (s_drain S b (f_part S b want) (f_wm S b (f_part S b want))) 0 (f_part S b want) (f_wm S b (f_part S b want))
def f_given (S : hg_S) (taken : Int64) : Int64 := taken * Int32.toInt64 (nI (hg_n S 2)) / 1000
def s_give (S : hg_S) (taken : Int64) : hg_S := s_book (s_pour S (hg_n S 3) (f_given S taken) (f_given S taken * 40)) 2 (f_given S taken) (f_given S taken * 40)
def f_leakP (S : hg_S) (i a b : Nat) : Int64 := (hg_l S 0 a - hg_l S 0 b) / Int32.toInt64 (hg_i S 9 i)
def s_move (S : hg_S) (a b : Nat) (m : Int64) : hg_S := s_pour (s_pour S a (-m) (-(f_wm S a m))) b m (f_wm S a m)
def s_leak (S : hg_S) (i : Nat) : hg_S := if hg_l S 0 i < hg_l S 0 (i + 1) then s_move S (i + 1) i (f_leakP S i (i + 1) i) else s_move S i (i + 1) (f_leakP S i i (i + 1))
def s_leaks (S : hg_S) : Nat → hg_S
  | 0 => S
  | i + 1 => s_leak (s_leaks S i) i
def f_feedM (S : hg_S) (b : Nat) : Int64 := Int32.toInt64 (hg_i S 10 b)
def s_feed (S : hg_S) (b : Nat) : hg_S := s_book (s_pour S b (f_feedM S b) (f_feedM S b * 10)) 4 (f_feedM S b) (f_feedM S b * 10)
def s_feeds (S : hg_S) : Nat → hg_S
  | 0 => S
  | i + 1 => s_feed (s_feeds S i) i
theorem s_leak_i (S : hg_S) (i k : Nat) : hg_i (s_leak S i) k = hg_i S k := by unfold s_leak; split <;> rfl
theorem s_leaks_i (S : hg_S) (i k : Nat) : hg_i (s_leaks S i) k = hg_i S k := by
  induction i with
  | zero => rfl
  | succ i ih => exact (s_leak_i _ _ _).trans ih
theorem s_feeds_i (S : hg_S) (i k : Nat) : hg_i (s_feeds S i) k = hg_i S k := by
  induction i with
  | zero => rfl
  | succ i ih => exact ih
