/-! Every call keeps what holds. -/
theorem hg_Inv.mono {S : hg_S} {k : Nat} (h : hg_Inv S k) : hg_Inv S (k + 1) := by
  obtain ⟨h1, h2, h3, h4⟩ := h
  exact ⟨h1, h2.mono (by omega), fun w hw => ⟨(h3 w hw).1, by have := (h3 w hw).2; omega⟩, h4⟩
theorem hg_Inv.eq {S T : hg_S} {k : Nat} (h : hg_Inv S k) (hn : ok_ns T) (n0 : hg_n T 0 = hg_n S 0) (e0 : hg_i T 0 = hg_i S 0) (e1 : hg_i T 1 = hg_i S 1) (e2 : hg_i T 2 = hg_i S 2) (e3 : hg_i T 3 = hg_i S 3) (e4 : hg_i T 4 = hg_i S 4) (e9 : hg_i T 9 = hg_i S 9) (e10 : hg_i T 10 = hg_i S 10) (el : hg_l T 0 = hg_l S 0) : hg_Inv T (k + 1) := by
  obtain ⟨⟨-, hkd, hbx, hlq, hfd, hcr⟩, hms, hag, hfr⟩ := h.mono
  refine ⟨⟨hn, ?_, ?_, ?_, ?_, ?_⟩, ?_, ?_, ?_⟩
  · unfold ok_kd; rw [e0]; exact hkd
  · unfold ok_bx; rw [e1]; exact hbx
  · unfold ok_lq; rw [e9]; exact hlq
  · unfold ok_fd; rw [e10]; exact hfd
  · unfold ok_cr; rw [e4]; exact hcr
  · unfold ok_ms; rw [el]; exact hms
  · unfold ok_ag; rw [e2]; exact hag
  · unfold ok_fr; rw [e2, e3, n0]; exact hfr
theorem upd_at (f : Nat → Int32) (k : Nat) (x : Int32) (j : Nat) : upd f k x j = if j = k then x else f j := rfl
theorem ok_in_i {v : Int32} {lo hi : Nat} (hl : lo < 2 ^ 31) (hh : hi < 2 ^ 31) (h : ok_in v lo hi) : (lo : Int) ≤ v.toInt ∧ v.toInt ≤ hi := by
  have h1 := hg_le.mp h.1
  have h2 := hg_le.mp h.2
  rw [nI_toInt hl] at h1
  rw [nI_toInt hh] at h2
  exact ⟨h1, h2⟩
theorem le_i {a b : Int32} (h : a ≤ b) : a.toInt ≤ b.toInt := hg_le.mp h
theorem z_i {a : Int32} (h : nI 0 ≤ a) : 0 ≤ a.toInt := by have := hg_le.mp h; rw [i_0] at this; exact this
theorem inv_well {S : hg_S} {c : Nat} (h : hg_Inv S c) (k b a1 b1 c1 d1 e1 : Int32) : hg_Inv (r_well S k b a1 b1 c1 d1 e1).2 (c + 1) := by
  unfold r_well
  split
  · next hok =>
    split
    · next hn =>
      obtain ⟨⟨⟨h0, h1, h2, hg3, h4, h5⟩, hkd, hbx, hlq, hfd, hcr⟩, hms, hag, hfr⟩ := h.mono
      obtain ⟨ok1, ok2, ok3, ok4, ok5, ok6, ok7⟩ := hok
      have r3 := ok_in_i (by decide) (by decide) ok3
      have r4 := And.intro (z_i ok4.1) (le_i ok4.2)
      have r5 := And.intro (z_i ok5.1) (le_i ok5.2)
      have r6 := And.intro (z_i ok6.1) (le_i ok6.2)
      have r7 := And.intro (z_i ok7.1) (le_i ok7.2)
      refine ⟨⟨⟨by show hg_n S 0 + 1 ≤ 8; omega, h1, h2, hg3, h4, h5⟩, ?_, ?_, hlq, hfd, ?_⟩, hms, hag, ?_⟩
      · intro w hw
        show upd (hg_i S 0) (hg_n S 0) k w = _ ∨ upd (hg_i S 0) (hg_n S 0) k w = _ ∨ upd (hg_i S 0) (hg_n S 0) k w = _
        rw [upd_at]
        split
        · obtain ⟨j, hj1, hj2, rfl⟩ := hg_rng (by decide) (by decide) ok1
          rcases (show j = 0 ∨ j = 1 ∨ j = 2 by omega) with rfl | rfl | rfl
          · exact Or.inl rfl
          · exact Or.inr (Or.inl rfl)
          · exact Or.inr (Or.inr rfl)
        · exact hkd w hw
      · intro w hw
        show ∃ b', b' < 4 ∧ upd (hg_i S 1) (hg_n S 0) b w = nI b'
        rw [upd_at]
        split
        · obtain ⟨j, hj1, hj2, rfl⟩ := hg_rng (by decide) (by decide) ok2
          exact ⟨j, by omega, rfl⟩
        · exact hbx w hw
      · intro j hj
        show 0 ≤ (upd (upd (upd (upd (upd (hg_i S 4) (hg_n S 0 * 5) a1) (hg_n S 0 * 5 + 1) b1) (hg_n S 0 * 5 + 2) c1) (hg_n S 0 * 5 + 3) d1) (hg_n S 0 * 5 + 4) e1 j).toInt ∧ (upd (upd (upd (upd (upd (hg_i S 4) (hg_n S 0 * 5) a1) (hg_n S 0 * 5 + 1) b1) (hg_n S 0 * 5 + 2) c1) (hg_n S 0 * 5 + 3) d1) (hg_n S 0 * 5 + 4) e1 j).toInt ≤ 200
        rw [upd_at, upd_at, upd_at, upd_at, upd_at]
        split
        · omega
        · split
          · omega
          · split
            · omega
            · split
              · omega
              · split
                · omega
                · exact hcr j hj
      · intro w hw1 hw2
        exact hfr w (by have q : hg_n S 0 + 1 ≤ w := hw1; omega) hw2
    · exact h.mono
  · exact h.mono
theorem inv_open {S : hg_S} {c : Nat} (h : hg_Inv S c) (w x : Int32) : hg_Inv (r_open S w x).2 (c + 1) := by
  unfold r_open
  split
  · next hok =>
    obtain ⟨⟨hns, hkd, hbx, hlq, hfd, hcr⟩, hms, hag, hfr⟩ := h.mono
    obtain ⟨k, hk, rfl⟩ := hg_wel (by have := hns.1; omega) hok
    refine ⟨⟨hns, hkd, hbx, hlq, hfd, hcr⟩, hms, hag, fun j hj1 hj2 => ⟨(hfr j hj1 hj2).1, ?_⟩⟩
    show upd (hg_i S 3) (nI k).toNatClampNeg x j = nI 0
    have q : hg_n S 0 ≤ j := hj1
    have := hns.1
    rw [nI_clamp (by omega), upd_at, if_neg (by omega)]
    exact (hfr j hj1 hj2).2
  · exact h.mono
theorem inv_clean {S : hg_S} {c : Nat} (h : hg_Inv S c) (w : Int32) : hg_Inv (r_clean S w).2 (c + 1) := by
  unfold r_clean
  split
  · obtain ⟨hst, hms, hag, hfr⟩ := h.mono
    refine ⟨hst, hms, fun j hj => ?_, fun j hj1 hj2 => ⟨?_, (hfr j hj1 hj2).2⟩⟩
    · show 0 ≤ (upd (hg_i S 2) w.toNatClampNeg (nI 0) j).toInt ∧ (upd (hg_i S 2) w.toNatClampNeg (nI 0) j).toInt ≤ _
      rw [upd_at]
      split
      · rw [i_0]; omega
      · exact hag j hj
    · show upd (hg_i S 2) w.toNatClampNeg (nI 0) j = nI 0
      rw [upd_at]
      split
      · rfl
      · exact (hfr j hj1 hj2).1
  · exact h.mono
theorem inv_flow {S : hg_S} {c : Nat} (h : hg_Inv S c) (w p : Int32) : hg_Inv (r_flow S w p).2 (c + 1) := by
  unfold r_flow
  split
  · exact h.eq h.1.1 rfl rfl rfl rfl rfl rfl rfl rfl rfl
  · exact h.mono
theorem inv_turb {S : hg_S} {c : Nat} (h : hg_Inv S c) (a b d : Int32) : hg_Inv (r_turb S a b d).2 (c + 1) := by
  unfold r_turb
  split
  · split
    · next hn =>
      obtain ⟨h0, h1, h2, hg3, h4, h5⟩ := h.1.1
      exact h.eq ⟨h0, by show hg_n S 1 + 1 ≤ 4; omega, h2, hg3, h4, h5⟩ rfl rfl rfl rfl rfl rfl rfl rfl rfl
    · exact h.mono
  · exact h.mono
theorem inv_on {S : hg_S} {c : Nat} (h : hg_Inv S c) (w x : Int32) : hg_Inv (r_on S w x).2 (c + 1) := by
  unfold r_on
  split
  · exact h.eq h.1.1 rfl rfl rfl rfl rfl rfl rfl rfl rfl
  · exact h.mono
theorem inv_fill {S : hg_S} {c : Nat} (h : hg_Inv S c) (b a d : Int32) : hg_Inv (r_fill S b a d).2 (c + 1) := by
  unfold r_fill
  split
  · next hok =>
    obtain ⟨hst, hms, hag, hfr⟩ := h.mono
    refine ⟨hst, fun j hj => ?_, hag, hfr⟩
    have r := ok_in_i (by decide) (by decide) hok.2.1
    show 0 ≤ (vp_updL (hg_l S 0) b.toNatClampNeg (Int32.toInt64 a) j).toInt ∧ (vp_updL (hg_l S 0) b.toNatClampNeg (Int32.toInt64 a) j).toInt ≤ _
    rw [updL_at]
    split
    · rw [Int32.toInt_toInt64]; omega
    · exact hms j hj
  · exact h.mono
theorem inv_leak {S : hg_S} {c : Nat} (h : hg_Inv S c) (w v : Int32) : hg_Inv (r_leak S w v).2 (c + 1) := by
  unfold r_leak
  split
  · next hok =>
    obtain ⟨⟨hns, hkd, hbx, hlq, hfd, hcr⟩, hms, hag, hfr⟩ := h.mono
    refine ⟨⟨hns, hkd, hbx, fun j hj => ?_, hfd, hcr⟩, hms, hag, hfr⟩
    have r := ok_in_i (by decide) (by decide) hok.2
    show 2 ≤ (upd (hg_i S 9) w.toNatClampNeg v j).toInt ∧ (upd (hg_i S 9) w.toNatClampNeg v j).toInt ≤ 1000
    rw [upd_at]
    split
    · omega
    · exact hlq j hj
  · exact h.mono
theorem inv_feed {S : hg_S} {c : Nat} (h : hg_Inv S c) (w v : Int32) : hg_Inv (r_feed S w v).2 (c + 1) := by
  unfold r_feed
  split
  · next hok =>
    obtain ⟨⟨hns, hkd, hbx, hlq, hfd, hcr⟩, hms, hag, hfr⟩ := h.mono
    refine ⟨⟨hns, hkd, hbx, hlq, fun j hj => ?_, hcr⟩, hms, hag, hfr⟩
    have r := ok_in_i (by decide) (by decide) hok.2
    show 0 ≤ (upd (hg_i S 10) w.toNatClampNeg v j).toInt ∧ (upd (hg_i S 10) w.toNatClampNeg v j).toInt ≤ 1000
    rw [upd_at]
    split
    · omega
    · exact hfd j hj
  · exact h.mono
theorem inv_gsh {S : hg_S} {c : Nat} (h : hg_Inv S c) (v : Int32) : hg_Inv (r_gsh S v).2 (c + 1) := by
  unfold r_gsh
  split
  · next hok =>
    obtain ⟨h0, h1, h2, hg3, h4, h5⟩ := h.1.1
    obtain ⟨k, hk1, hk2, rfl⟩ := hg_rng (by decide) (by decide) hok
    exact h.eq ⟨h0, h1, by show (nI k).toNatClampNeg ≤ 1000; rw [nI_clamp (by omega)]; exact hk2, hg3, h4, h5⟩ rfl rfl rfl rfl rfl rfl rfl rfl rfl
  · exact h.mono
theorem inv_gbx {S : hg_S} {c : Nat} (h : hg_Inv S c) (v : Int32) : hg_Inv (r_gbx S v).2 (c + 1) := by
  unfold r_gbx
  split
  · next hok =>
    obtain ⟨h0, h1, h2, hg3, h4, h5⟩ := h.1.1
    obtain ⟨k, hk1, hk2, rfl⟩ := hg_rng (by decide) (by decide) hok
    exact h.eq ⟨h0, h1, h2, by show (nI k).toNatClampNeg < 4; rw [nI_clamp (by omega)]; omega, h4, h5⟩ rfl rfl rfl rfl rfl rfl rfl rfl rfl
  · exact h.mono
theorem inv_set {S : hg_S} {c : Nat} (h : hg_Inv S c) (q w v : Int32) : hg_Inv (r_set S q w v).2 (c + 1) := by
  unfold r_set
  split
  · exact inv_leak h w v
  · split
    · exact inv_feed h w v
    · split
      · split
        · exact inv_gsh h v
        · split
          · exact inv_gbx h v
          · exact h.mono
      · exact h.mono
theorem inv_share {S : hg_S} {c : Nat} (h : hg_Inv S c) (k v : Int32) : hg_Inv (r_share S k v).2 (c + 1) := by
  unfold r_share
  split
  · exact h.eq h.1.1 rfl rfl rfl rfl rfl rfl rfl rfl rfl
  · exact h.mono
theorem inv_put {S : hg_S} {c : Nat} (h : hg_Inv S c) (v : Int32) : hg_Inv (r_put S v).2 (c + 1) := by
  unfold r_put
  split
  · split
    · next hn =>
      obtain ⟨h0, h1, h2, hg3, h4, h5⟩ := h.1.1
      exact h.eq ⟨h0, h1, h2, hg3, by show hg_n S 4 + 1 ≤ 12; omega, h5⟩ rfl rfl rfl rfl rfl rfl rfl rfl rfl
    · exact h.mono
  · exact h.mono
theorem inv_cut {S : hg_S} {c : Nat} (h : hg_Inv S c) : hg_Inv (r_cut S).2 (c + 1) := by
  unfold r_cut
  split
  · exact h.mono
  · obtain ⟨h0, h1, h2, hg3, h4, h5⟩ := h.1.1
    exact h.eq ⟨h0, h1, h2, hg3, by show hg_n S 4 - 1 ≤ 12; omega, h5⟩ rfl rfl rfl rfl rfl rfl rfl rfl rfl
theorem inv_cand {S : hg_S} {c : Nat} (h : hg_Inv S c) (a b d : Int32) : hg_Inv (r_cand S a b d).2 (c + 1) := by
  unfold r_cand
  split
  · split
    · next hn =>
      obtain ⟨h0, h1, h2, hg3, h4, h5⟩ := h.1.1
      exact h.eq ⟨h0, h1, h2, hg3, h4, by show hg_n S 5 + 1 ≤ 8; omega⟩ rfl rfl rfl rfl rfl rfl rfl rfl rfl
    · exact h.mono
  · exact h.mono
theorem inv_prom {S : hg_S} {c : Nat} (h : hg_Inv S c) (y v : Int32) : hg_Inv (r_prom S y v).2 (c + 1) := by
  unfold r_prom
  split
  · exact h.eq h.1.1 rfl rfl rfl rfl rfl rfl rfl rfl rfl
  · exact h.mono
/-! years -/
theorem ok_st.year {S : hg_S} (h : ok_st S) : ok_st (s_year S) := by
  obtain ⟨⟨h0, h1, h2, hg3, h4, h5⟩, hkd, hbx, hlq, hfd, hcr⟩ := h
  refine ⟨⟨?_, ?_, ?_, ?_, ?_, ?_⟩, ?_, ?_, ?_, ?_, ?_⟩
  · rw [s_year_n]; exact h0
  · rw [s_year_n]; exact h1
  · rw [s_year_n]; exact h2
  · rw [s_year_n]; exact hg3
  · rw [s_year_n]; exact h4
  · rw [s_year_n]; exact h5
  · unfold ok_kd; rw [s_year_i _ (by decide)]; exact hkd
  · unfold ok_bx; rw [s_year_i _ (by decide)]; exact hbx
  · unfold ok_lq; rw [s_year_i _ (by decide)]; exact hlq
  · unfold ok_fd; rw [s_year_i _ (by decide)]; exact hfd
  · unfold ok_cr; rw [s_year_i _ (by decide)]; exact hcr
theorem s_add_l0 (S : hg_S) (j : Nat) (v : Int64) : hg_l (s_add S j v) 0 = hg_l S 0 := s_add_l S j v (by decide)
theorem s_grow_l (S : hg_S) (k : Nat) : hg_l (s_grow S) k = hg_l S k := rfl
theorem ok_sold {S : hg_S} {B A : Int} (hB : B < 2 ^ 61) (hst : ok_st S) (hm : ok_ms S B) (ha : ok_ag S A) {p : Nat} (hp : p ≤ 20) : ok_ms (s_prod S p) (B + 8000) := by
  obtain ⟨⟨h0, h1, h2, hg3, h4, h5⟩, hkd, hbx, hlq, hfd, hcr⟩ := hst
  have e : s_prod S p = s_give (s_tk (s_sold S p) p (hg_n S 0)) (f_tk (s_sold S p) p (hg_n S 0)) := rfl
  have hm2 : ok_ms (s_sold S p) B := by unfold ok_ms s_sold; rw [s_add_l0]; exact hm
  have ht := ok_tk (S := s_sold S p) (p := p) (by omega) hm2 hcr ha hbx hp (hg_n S 0) h0
  rw [e]
  refine ht.1.give hB (by rw [s_tk_n]; exact h2) ⟨ht.2.1, ?_⟩
  have := ht.2.2
  omega
theorem ok_first {S : hg_S} {B A : Int} (hB : B < 2 ^ 61) (hst : ok_st S) (hm : ok_ms S B) (ha : ok_ag S A) : ok_ms (s_first S) (B + 8000) := by
  unfold s_first
  split
  · unfold ok_ms; rw [s_add_l0]; exact hm.mono (by omega)
  · next hne =>
    obtain ⟨k, hk, ek⟩ := f_point_nat hne
    rw [ek, nI_clamp (by omega)]
    exact ok_sold hB hst hm ha hk
theorem ok_year {S : hg_S} {B A : Int} (hB : B < 2 ^ 60) (hA : A < 2 ^ 30) (hA0 : 0 ≤ A) (hst : ok_st S) (hm : ok_ms S B) (ha : ok_ag S A) (hfr : ok_fr S) : ok_ms (s_year S) (B + 9000) ∧ ok_ag (s_year S) (A + 1) ∧ ok_fr (s_year S) := by
  have h1 := ok_first (by omega) hst hm ha
  obtain ⟨⟨h0, -, -, -, -, -⟩, -, -, hlq, hfd, -⟩ := hst
  have hlq1 : ok_lq (s_first S) := fun i hi => by rw [s_first_i]; exact hlq i hi
  have h2 := h1.leaks (by omega) hlq1 3 (Nat.le_refl 3)
  have hfd2 : ok_fd (s_leaks (s_first S) 3) := fun i hi => by rw [s_leaks_i, s_first_i]; exact hfd i hi
  have h3 := h2.feeds (by omega) hfd2 4 (Nat.le_refl 4)
  have e2 : ∀ U : hg_S, hg_i (s_add (s_grow U) 7 1) 2 = f_ages U (hg_n U 0) := fun U => rfl
  have eU2 : hg_i (s_feeds (s_leaks (s_first S) 3) 4) 2 = hg_i S 2 := by rw [s_feeds_i, s_leaks_i, s_first_i]
  have eU3 : hg_i (s_feeds (s_leaks (s_first S) 3) 4) 3 = hg_i S 3 := by rw [s_feeds_i, s_leaks_i, s_first_i]
  have eUn : hg_n (s_feeds (s_leaks (s_first S) 3) 4) 0 = hg_n S 0 := by rw [s_feeds_n, s_leaks_n, s_first_n]
  refine ⟨fun b hb => ?_, fun w hw => ?_, fun w hw1 hw2 => ?_⟩
  · unfold s_year
    rw [s_add_l0, s_grow_l]
    have := h3 b hb
    rw [if_pos hb] at this
    omega
  · unfold s_year
    rw [e2]
    unfold f_ages
    rw [eU2, eU3, eUn]
    have q := ha w hw
    have i1 : (nI 1).toInt = 1 := i_1
    split
    · rw [t_add (by omega) (by omega)]; omega
    · omega
  · rw [s_year_n] at hw1
    have q := hfr w hw1 hw2
    rw [s_year_i _ (show (3 : Nat) ≠ 2 by decide)]
    refine ⟨?_, q.2⟩
    unfold s_year
    rw [e2]
    unfold f_ages
    rw [eU2, eU3, eUn, if_neg (fun z => by have := z.1; omega)]
    exact q.1
theorem ok_years {S : hg_S} {B A : Int} (hB : B < 2 ^ 59) (hB0 : 0 ≤ B) (hA : A < 2 ^ 29) (hA0 : 0 ≤ A) (hst : ok_st S) (hm : ok_ms S B) (ha : ok_ag S A) (hfr : ok_fr S) : ∀ i, i ≤ 20 → ok_st (s_years S i) ∧ ok_ms (s_years S i) (B + 9000 * i) ∧ ok_ag (s_years S i) (A + i) ∧ ok_fr (s_years S i)
  | 0, _ => ⟨hst, hm.mono (by omega), fun w hw => ⟨(ha w hw).1, Int.le_trans (ha w hw).2 (by omega)⟩, hfr⟩
  | i + 1, hi => by
    obtain ⟨q1, q2, q3, q4⟩ := ok_years hB hB0 hA hA0 hst hm ha hfr i (by omega)
    have r := ok_year (S := s_years S i) (by omega) (by omega) (by omega) q1 q2 q3 q4
    exact ⟨q1.year, r.1.mono (by omega), fun w hw => ⟨(r.2.1 w hw).1, Int.le_trans (r.2.1 w hw).2 (by omega)⟩, r.2.2⟩
theorem inv_year {S : hg_S} {c : Nat} (hc : c ≤ 512) (h : hg_Inv S c) (n : Int32) : hg_Inv (r_year S n).2 (c + 1) := by
  unfold r_year
  split
  · next hok =>
    obtain ⟨k, hk1, hk2, rfl⟩ := hg_rng (by decide) (by decide) hok
    rw [nI_clamp (by omega)]
    obtain ⟨q1, q2, q3, q4⟩ := ok_years (by omega) (by omega) (by omega) (by omega) h.1 h.2.1 h.2.2.1 h.2.2.2 k hk2
    exact ⟨q1, q2.mono (by omega), fun w hw => ⟨(q3 w hw).1, Int.le_trans (q3 w hw).2 (by omega)⟩, q4⟩
  · exact h.mono
/-- what the reference's years need -/
theorem inv_hys {S : hg_S} {c : Nat} (hc : c ≤ 512) (h : hg_Inv S c) : ∀ i, i < 20 → (∀ p, p ≤ 20 → ∀ j b, j ≤ 8 → b < 4 → ¬ hg_l (s_tk (s_years S i) p j) 0 b < 0) ∧ (∀ j, j ≤ 3 → ok_ms (s_leaks (s_first (s_years S i)) j) 1000000000000) := by
  intro i hi
  obtain ⟨q1, q2, q3, q4⟩ := ok_years (by omega) (by omega) (by omega) (by omega) h.1 h.2.1 h.2.2.1 h.2.2.2 i (by omega)
  refine ⟨fun p hp j b hj hb => ?_, fun j hj => ?_⟩
  · exact (ok_tk (by omega) q2 q1.2.2.2.2.2 q3 q1.2.2.1 hp j hj).1.nn hb
  · have h1 := ok_first (by omega) q1 q2 q3
    have hlq1 : ok_lq (s_first (s_years S i)) := fun k hk => by rw [s_first_i]; exact q1.2.2.2.1 k hk
    exact (h1.leaks (by omega) hlq1 j hj).mono (by omega)
theorem inv_init : hg_Inv s_init 0 := by
  refine ⟨⟨⟨by decide, by decide, by decide, by decide, by decide, by decide⟩, fun w _ => Or.inl rfl, fun w _ => ⟨0, by decide, rfl⟩, ?_, ?_, ?_⟩, ?_, ?_, fun w _ _ => ⟨rfl, rfl⟩⟩
  · intro i hi
    rcases (show i = 0 ∨ i = 1 ∨ i = 2 by omega) with rfl | rfl | rfl <;> decide
  · intro b hb
    show 0 ≤ (nI 0).toInt ∧ (nI 0).toInt ≤ 1000
    rw [i_0]; omega
  · intro b hb
    show 0 ≤ (nI 0).toInt ∧ (nI 0).toInt ≤ 200
    rw [i_0]; omega
  · intro b hb
    show 0 ≤ (0 : Int64).toInt ∧ (0 : Int64).toInt ≤ _
    rw [z64]; omega
  · intro b hb
    show 0 ≤ (nI 0).toInt ∧ (nI 0).toInt ≤ _
    rw [i_0]; omega
