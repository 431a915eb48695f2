/-! THE CLAIM OUT OF ONE WALK OF THE LAW'S BODY. Your part is whole_start (and what it stands on); all else here is the same for every law, but numbers. -/
def R_law : String := "HotGroundLaw"
def lw_P (b : Addr) (xs : List Int32) (args : Array Value) (s : State) : Prop := args = #[.ref b] ∧ s.IntsAt b xs ∧ xs.length ≤ 4096 ∧ (Jvm.Cond.and given_1 narrow_1).before args s = true
def lw_Q (_ : Array Value) (s : State) (o : Outcome) (t : State) : Prop := o = .returned (some (.int 1)) ∧ Framed s o t [] 47 379
def lw_Z (below : List Frame) (a : Array Value) (s : State) : State → Prop := fun t => ∃ o, t.status = .running ∧ Ended t below o ∧ lw_Q a s o t
/-- the law's own end, with 1 on the stack, nothing written that was there before, its room as the claim has it -/
theorem lw_ret {p : Program} {l : Launch} {e : Env} {s : State} {m : MethodId} {below : List Frame} {meth : Method} {c : Code} {b : Nat} (hx : p.tables.exec = Jvm.exec) (hb : c.code = code) (hr : meth.sig.returnType = ret) (hlocks : meth.locks = false) {pc : Nat} {H : Heap} {ls : Array Slot} (hdg : decode code pc = .ok (.ireturn, 1)) : W p l e room_1 s m #[Value.ref b] below meth c H [] 47 379 (lw_Z below #[Value.ref b] s) (F0 m pc ls [.int 1]) := by
  intro T hT X
  obtain ⟨fs, hret, hrun, hended, hW, hframe⟩ := X.leave (v := some (.int 1)) (hlocks := hlocks) (fun h => by rw [hr] at h; cases h)
  have hmeth' : T.vm.method? m = some meth := X.method'
  refine ⟨T.setFrames fs, ?_, .returned (some (.int 1)), hrun, hended, rfl, ⟨_, rfl⟩, hW, hframe⟩
  jvm_step X.here [X.here.top, hx, hb, hdg, hmeth', hr, ret, narrow_b1]
  (try refine ⟨rfl, ?_⟩); (try refine ⟨rfl, ?_⟩)
  first | (intro acts; rw [hret _ acts rfl rfl rfl]) | rw [hret _ _ rfl rfl rfl]
  exact Steps.refl _
/-- what holds at the law's entry: the machine, the code, the tables' words (any of lw_tbl by 'hts w (by decide +kernel)'), the script of L ints xs at the cell b, what the Statement gives of the start (any of its parts by flat_of_before) -/
def lw_At (p : Program) (s : State) (m : MethodId) (meth : Method) (c : Code) (b L : Nat) (xs : Nat → Int32) : Prop :=
  p.tables.exec = Jvm.exec ∧ c.code = code ∧ meth.sig.returnType = ret ∧ c.maxLocals = 4 ∧ s.vm.findClass R_law = some m.cls ∧ (∀ w ∈ lw_tbl, w.before #[Value.ref b] s = true) ∧ va_X b L xs s s.heap ∧ b < s.heap.size ∧ meth.locks = false ∧ (Jvm.Cond.and given_1 narrow_1).before #[Value.ref b] s = true
section LWR
variable {p : Program} {l : Launch} {e : Env} {R : Room} {s : State} {m : MethodId} {args : Array Value} {below : List Frame} {meth : Method} {c : Code} {H : Heap} {locs : List Loc} {cells slots : Nat} {Q : State → Prop}
variable {cc : ByteArray} {pc : Nat} {ls : Array Slot} {rest st0 : List Value} {D : va_G} {cl : List vw_C} {A : Nat → Prop} {a : Nat} {H0 : Heap}
theorem h_sld (hexec : p.tables.exec = Jvm.exec) (hb : c.code = cc) {b L : Nat} {xs : Nat → Int32} (hX : va_X b L xs s H0) (hbl : b < H0.size) (hbA : ¬ A b) (hS : va_S A H0 H locs) {i : Int32} (k : Nat) (hi : i = nI k) (hk : k < L) (hL : L < 2 ^ 31) (hdg : decode cc pc = .ok (.iaload, 1))
    (kk : W p l e R s m args below meth c H locs cells slots Q (F0 m (pc + 1) ls (.int (xs k) :: rest))) : W p l e R s m args below meth c H locs cells slots Q (F0 m pc ls (.int i :: .ref b :: rest)) := by
  subst hi
  refine va_sld hexec hb hX hbl hbA hS (vp_in_nI hk hL) hdg ?_
  rw [nI_clamp (Nat.lt_trans hk hL)]; exact kk
/-- a call on one of two systems: the other stays -/
theorem h_lcalli {a : Array Value} {w0 w1 wr : va_W} {post : Int32 → Prop} (hr : va_Run p l e R s m args below meth c H locs cells slots 0 0 (F0 m pc ls st0) rest (va_Qi (fun (r : Int32) (_ : Unit) => post r) (fun _ t => hg_At D w1 (va_A w0 H.size) t) (va_A w0 H.size) a) (va_A w0 H.size)) (hS : va_S A H0 H locs) (hA : ∀ q, H0.size ≤ q → A q) (hD : va_D A w0) (hPr : va_P D vwCl wr H) (hdis : ∀ (i j : Nat) (p q : Nat × va_E), w0[i]? = some p → wr[j]? = some q → p.1 ≠ q.1)
    (kk : ∀ (r : Int32) (H1 : Heap) (locs1 : List Loc), post r → va_P D vwCl w1 H1 → va_P D vwCl wr H1 → va_D A w1 → va_S A H0 H1 locs1 → W p l e R s m args below meth c H1 locs1 cells slots Q (F0 m (pc + 3) ls (.int r :: rest))) : W p l e R s m args below meth c H locs cells slots Q (F0 m pc ls st0) := by
  have hF := h_all hD hS hA
  refine va_calli hr hS (fun q _ h => hF q h) hF (fun r u t H1 locs1 ht hvm hp hB hz hk hS1 => ?_)
  obtain ⟨hP1, hD1⟩ := hB
  rw [ht] at hP1
  refine kk r H1 locs1 hp hP1 (hPr.kept (fun k q hq => hk q.1 (hPr k q hq).lt ?_)) (hD1.weaken (fun _ _ _ h => hF _ h)) hS1
  rintro (⟨k2, e2, h2⟩ | h2)
  · exact hdis k2 k _ q h2 hq rfl
  · exact absurd (hPr k q hq).lt (Nat.not_lt.mpr h2)
end LWR
theorem xW_ad {o : Nat → Nat} {cI cJ cZ : ClassId} {S : hg_S} {i : Nat} {p : Nat × va_E} (h : (xW o cI cJ cZ S)[i]? = some p) : i < 26 ∧ p.1 = o i := by
  have hm : (xW o cI cJ cZ S).map Prod.fst = (List.range 26).map o := rfl
  have h2 : ((xW o cI cJ cZ S).map Prod.fst)[i]? = some p.1 := by rw [List.getElem?_map, h]; rfl
  rw [hm, List.getElem?_map] at h2
  cases hr : (List.range 26)[i]? with
  | none => rw [hr] at h2; cases h2
  | some j =>
    rw [hr] at h2
    obtain ⟨hi, e⟩ := List.getElem?_eq_some_iff.mp hr
    rw [List.getElem_range] at e
    subst e
    exact ⟨by rw [List.length_range] at hi; exact hi, (Option.some.inj h2).symm⟩
theorem mW_ad {o : Nat → Nat} {cI cJ cZ : ClassId} {S : hg_S} {i : Nat} {p : Nat × va_E} (h : (mW o cI cJ cZ S)[i]? = some p) : i < 21 ∧ p.1 = o i := by
  have hm : (mW o cI cJ cZ S).map Prod.fst = (List.range 21).map o := rfl
  have h2 : ((mW o cI cJ cZ S).map Prod.fst)[i]? = some p.1 := by rw [List.getElem?_map, h]; rfl
  rw [hm, List.getElem?_map] at h2
  cases hr : (List.range 21)[i]? with
  | none => rw [hr] at h2; cases h2
  | some j =>
    rw [hr] at h2
    obtain ⟨hi, e⟩ := List.getElem?_eq_some_iff.mp hr
    rw [List.getElem_range] at e
    subst e
    exact ⟨by rw [List.length_range] at hi; exact hi, (Option.some.inj h2).symm⟩
theorem dj_xm {ox om : Nat → Nat} (hdj : ∀ i j, i < 26 → j < 21 → ox i ≠ om j) {cI cJ cZ : ClassId} {S T : hg_S} : ∀ (i j : Nat) (p q : Nat × va_E), (xW ox cI cJ cZ S)[i]? = some p → (mW om cI cJ cZ T)[j]? = some q → p.1 ≠ q.1 := fun i j p q h1 h2 => by
  obtain ⟨a1, a2⟩ := xW_ad h1
  obtain ⟨b1, b2⟩ := mW_ad h2
  rw [a2, b2]
  exact hdj i j a1 b1
theorem dj_mx {ox om : Nat → Nat} (hdj : ∀ i j, i < 26 → j < 21 → ox i ≠ om j) {cI cJ cZ : ClassId} {S T : hg_S} : ∀ (i j : Nat) (p q : Nat × va_E), (mW om cI cJ cZ T)[i]? = some p → (xW ox cI cJ cZ S)[j]? = some q → p.1 ≠ q.1 := fun i j p q h1 h2 => Ne.symm (dj_xm hdj j i q p h2 h1)
