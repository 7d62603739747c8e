/-! calls, one after another: write, erase, room, flow, rule, want, slots, link -/
section
variable {E : am_E} {M : am_M} {c : Nat}
theorem m_in_n {x a b : Int32} {A B : Int64} (hA : A = a.toInt64) (hB : B = b.toInt64) (h : x < a ∨ b < x) : am_run (am_I2 E) mI_Mo_in [.inr (.inr x.toInt64), .inr (.inr A), .inr (.inr B)] M = some (some (.inl 0), M) := by
  subst hA; subst hB
  rw [m_in]
  by_cases h0 : x < a
  · rw [if_pos ((i64_lt _ _).mpr h0)]
  · rw [if_neg (fun w => h0 ((i64_lt _ _).mp w)), if_pos]
    rcases h with h | h
    · exact absurd h h0
    · exact (i64_lt _ _).mpr h
theorem m_in_s {x a b : Int32} {A B : Int64} (hA : A = a.toInt64) (hB : B = b.toInt64) (h : ¬ x < a) (h' : x ≤ b) : am_run (am_I2 E) mI_Mo_in [.inr (.inr x.toInt64), .inr (.inr A), .inr (.inr B)] M = some (some (.inl 1), M) := by
  subst hA; subst hB
  rw [m_in, if_neg (fun w => h ((i64_lt _ _).mp w)), if_neg (fun w => absurd ((i64_lt _ _).mp w) (Int32.not_lt.mpr h'))]
theorem ob_gt {x b : Int32} {n : Nat} (h : ob x n) (hb : b < nI n) : x < 0 ∨ b < x := h.imp id (fun w => Int32.lt_of_lt_of_le hb w)
theorem op_erase (hI : Inv c M) : pr E c M mI_Mx_erase mI_Mo_erase [] := by
  obtain ⟨n, h1, h2, h3, h4, h5, h6, h7, ⟨l, hl, ha, hb⟩, h9, h10⟩ := Inv_mono hI
  refine ⟨nI l, am_up M 20 0 2 0, am_up (am_up M 20 0 2 0) 25 0 22 0, ?_, ?_, n, h1, h2, h3, h4, h5, h6, h7, ⟨0, by omega, rfl, rfl⟩, h9, h10⟩
  · rw [rq_Mx_erase, ha]
  · rw [rq_Mo_erase, show (am_up M 20 0 2 0) 25 0 22 = nI l from hb]
theorem op_write (hI : Inv c M) (x : Int32) : pr E c M mI_Mx_write mI_Mo_write [.inl x] := by
  obtain ⟨n, h1, h2, h3, h4, h5, h6, h7, ⟨l, hl, ha, hb⟩, h9, h10⟩ := Inv_mono hI
  rcases ob_or x (n := 256) (by omega) with hx | ⟨j, hj, rfl⟩
  · have hx2 : x < 0 ∨ 255 < x := ob_gt hx (by decide)
    refine ⟨-3, M, M, ?_, ?_, Inv_mono hI⟩
    · rw [rq_Mx_write]
      by_cases h0 : x < 0
      · rw [if_pos h0]
      · rw [if_neg h0, if_neg]
        rcases hx2 with hx | hx
        · exact absurd hx h0
        · exact Int32.not_le.mpr hx
    · rw [rq_Mo_write, m_in_n (a := 0) (b := 255) (A := Int64.ofNat 0) (B := 255) rfl rfl hx2, z_bI, if_pos rfl]
  · have hj5 : nI j ≤ 255 := nI_le (b := 255) (by omega) (by omega)
    by_cases hl2 : l = 200
    · refine ⟨-5, M, M, ?_, ?_, Inv_mono hI⟩
      · rw [rq_Mx_write, if_neg (nI_pos (by omega)), if_pos hj5, rq_Re_append, c_isPlace_n (y := 200) (n := 200) rfl (by rw [ha]; exact Or.inr (nI_le (by omega) (by omega))), z_bI, if_pos rfl, z_bI, if_pos rfl]
      · have e : M 25 0 22 = 200 := by rw [hb, hl2]; rfl
        rw [rq_Mo_write, m_in_s (a := 0) (b := 255) (A := Int64.ofNat 0) (B := 255) rfl rfl (nI_pos (by omega)) hj5, z_bI, if_neg z_ne10, if_pos e]
    · refine ⟨nI (l + 1), am_up (am_up M 21 0 l (nI j)) 20 0 2 (nI (l + 1)), am_up (am_up (am_up (am_up M 21 0 l (nI j)) 20 0 2 (nI (l + 1))) 39 0 l (nI j)) 25 0 22 (nI (l + 1)), ?_, ?_, n, h1, h2, h3, h4, h5, h6, h7, ⟨l + 1, by omega, rfl, rfl⟩, fun i hi => ?_, h10⟩
      · rw [rq_Mx_write, if_neg (nI_pos (by omega)), if_pos hj5, rq_Re_append, ha, c_isPlace_s (y := 200) (n := 200) rfl (by omega) (by omega), z_bI, if_neg z_ne10, ha, z_in (by omega) (by omega), z_if, z_ix (by omega), z_bI, if_neg z_ne10, am_up_self, nI_1]
      · have hb2 : (am_up (am_up M 21 0 l (nI j)) 20 0 2 (nI (l + 1))) 25 0 22 = nI l := hb
        have h200 : ¬ nI l = 200 := fun w => hl2 ((nI_eq (b := 200) (by omega) (by omega)).mp w)
        rw [rq_Mo_write, m_in_s (a := 0) (b := 255) (A := Int64.ofNat 0) (B := 255) rfl rfl (nI_pos (by omega)) hj5, z_bI, if_neg z_ne10, hb2, if_neg h200, z_in (by omega) (by omega), z_if, z_ix (by omega), nI_1]
      · by_cases e : i = l
        · subst e
          exact ⟨j, hj, am_up_self M 21 0 i (nI j), am_up_self _ 39 0 i (nI j)⟩
        · obtain ⟨b, hb1, hb2, hb3⟩ := h9 i hi
          exact ⟨b, hb1, (am_up_ne (M := M) (a := 21) (b := 0) (c := l) (x := nI j) (Or.inr (Or.inr e))).trans hb2, (am_up_ne (M := M) (a := 39) (b := 0) (c := l) (x := nI j) (Or.inr (Or.inr e))).trans hb3⟩
theorem op_want (hI : Inv c M) (x : Int32) : pr E c M mI_Mx_want mI_Mo_want [.inl x] := by
  obtain ⟨n, h1, ⟨⟨w, hw, ha, hb⟩, h2⟩, h3⟩ := Inv_mono hI
  rcases ob_or x (n := 16) (by omega) with hx | ⟨j, hj, rfl⟩
  · have hx2 : x < 0 ∨ 15 < x := ob_gt hx (by decide)
    refine ⟨-3, M, M, ?_, ?_, Inv_mono hI⟩
    · rw [rq_Mx_want]
      by_cases h0 : x < 0
      · rw [if_pos h0]
      · rw [if_neg h0, if_neg]
        rcases hx2 with hx | hx
        · exact absurd hx h0
        · exact Int32.not_le.mpr hx
    · rw [rq_Mo_want, m_in_n (a := 0) (b := 15) (A := Int64.ofNat 0) (B := 15) rfl rfl hx2, z_bI, if_pos rfl]
  · have hj5 : nI j ≤ 15 := nI_le (b := 15) (by omega) (by omega)
    refine ⟨nI w, am_up M 1 0 1 (nI j), am_up (am_up M 1 0 1 (nI j)) 25 0 8 (nI j), ?_, ?_, n, h1, ⟨⟨j, hj, rfl, rfl⟩, h2⟩, h3⟩
    · rw [rq_Mx_want, if_neg (nI_pos (by omega)), if_pos hj5, ha]
    · have hb2 : (am_up M 1 0 1 (nI j)) 25 0 8 = nI w := hb
      rw [rq_Mo_want, m_in_s (a := 0) (b := 15) (A := Int64.ofNat 0) (B := 15) rfl rfl (nI_pos (by omega)) hj5, z_bI, if_neg z_ne10, hb2]
theorem op_slots (hI : Inv c M) (x : Int32) : pr E c M mI_Mx_slots mI_Mo_slots [.inl x] := by
  obtain ⟨n, h1, ⟨h2, s, hs1, hs2, ha, hb⟩, h3⟩ := Inv_mono hI
  have hx3 : (x < 1 ∨ 6 < x) ∨ ∃ j, 1 ≤ j ∧ j ≤ 6 ∧ x = nI j := by
    rcases ob_or x (n := 7) (by omega) with hx | ⟨j, hj, rfl⟩
    · rcases ob_gt hx (b := 6) (by decide) with hx | hx
      · exact Or.inl (Or.inl (Int32.lt_of_lt_of_le hx (by decide)))
      · exact Or.inl (Or.inr hx)
    · by_cases h0 : j = 0
      · subst h0; exact Or.inl (Or.inl (by decide))
      · exact Or.inr ⟨j, by omega, by omega, rfl⟩
  rcases hx3 with hx2 | ⟨j, hj1, hj, rfl⟩
  · refine ⟨-3, M, M, ?_, ?_, Inv_mono hI⟩
    · rw [rq_Mx_slots]
      by_cases h0 : x < 1
      · rw [if_pos h0]
      · rw [if_neg h0, if_neg]
        rcases hx2 with hx | hx
        · exact absurd hx h0
        · exact Int32.not_le.mpr hx
    · rw [rq_Mo_slots, m_in_n (a := 1) (b := 6) (A := Int64.ofNat 1) (B := 6) rfl rfl hx2, z_bI, if_pos rfl]
  · have hj5 : nI j ≤ 6 := nI_le (b := 6) (by omega) (by omega)
    have hj6 : ¬ nI j < 1 := nI_nlt (b := 1) (by omega) (by omega)
    refine ⟨nI s, am_up M 1 0 2 (nI j), am_up (am_up M 1 0 2 (nI j)) 25 0 9 (nI j), ?_, ?_, n, h1, ⟨h2, j, hj1, hj, rfl, rfl⟩, h3⟩
    · rw [rq_Mx_slots, if_neg hj6, if_pos hj5, ha]
    · have hb2 : (am_up M 1 0 2 (nI j)) 25 0 9 = nI s := hb
      rw [rq_Mo_slots, m_in_s (a := 1) (b := 6) (A := Int64.ofNat 1) (B := 6) rfl rfl hj6 hj5, z_bI, if_neg z_ne10, hb2]
theorem op_room (hI : Inv c M) (x y : Int32) : pr E c M mI_Mx_room mI_Mo_room [.inl x, .inl y] := by
  obtain ⟨n, ⟨hn, hN, hN2⟩, h2, h3, h4⟩ := Inv_mono hI
  rcases ob_or x (n := n) (by omega) with hx | ⟨u, hu, rfl⟩
  · refine ⟨-2, M, M, ?_, ?_, Inv_mono hI⟩
    · rw [rq_Mx_room, c_isNode_n hN hx, z_bI, if_pos rfl]
    · rw [rq_Mo_room, m_isNode_n hN2 hn hx, z_bI, if_pos rfl]
  · rcases ob_or y (n := n) (by omega) with hy | ⟨v, hv, rfl⟩
    · refine ⟨-2, M, M, ?_, ?_, Inv_mono hI⟩
      · rw [rq_Mx_room, c_isNode_s hN hn.2 hu, z_bI, if_neg z_ne10, c_isNode_n hN hy, z_bI, if_pos rfl]
      · rw [rq_Mo_room, m_isNode_s hN2 hn hu, z_bI, if_neg z_ne10, m_isNode_n hN2 hn hy, z_bI, if_pos rfl]
    · obtain ⟨r, hr, e1, e2⟩ := h3 (8 * u + v) (by omega)
      refine ⟨nI r, M, M, ?_, ?_, Inv_mono hI⟩
      · rw [rq_Mx_room, c_isNode_s hN hn.2 hu, z_bI, if_neg z_ne10, c_isNode_s hN hn.2 hv, z_bI, if_neg z_ne10, c_roomAt_s hN hn.2 hu hv, z_bI, e1]
      · rw [rq_Mo_room, m_isNode_s hN2 hn hu, z_bI, if_neg z_ne10, m_isNode_s hN2 hn hv, z_bI, if_neg z_ne10, z_8mul, z_in (by omega) (by omega), z_if, z_ix (by omega), e2]
theorem op_link (hI : Inv c M) (x y z : Int32) : pr E c M mI_Mx_link mI_Mo_link [.inl x, .inl y, .inl z] := by
  obtain ⟨n, ⟨hn, hN, hN2⟩, h2, h3, h4⟩ := Inv_mono hI
  rcases ob_or x (n := n) (by omega) with hx | ⟨u, hu, rfl⟩
  · refine ⟨-2, M, M, ?_, ?_, Inv_mono hI⟩
    · rw [rq_Mx_link, c_isNode_n hN hx, z_bI, if_pos rfl]
    · rw [rq_Mo_link, m_isNode_n hN2 hn hx, z_bI, if_pos rfl]
  · rcases ob_or y (n := n) (by omega) with hy | ⟨v, hv, rfl⟩
    · refine ⟨-2, M, M, ?_, ?_, Inv_mono hI⟩
      · rw [rq_Mx_link, c_isNode_s hN hn.2 hu, z_bI, if_neg z_ne10, c_isNode_n hN hy, z_bI, if_pos rfl]
      · rw [rq_Mo_link, m_isNode_s hN2 hn hu, z_bI, if_neg z_ne10, m_isNode_n hN2 hn hy, z_bI, if_pos rfl]
    · by_cases huv : nI u = nI v
      · refine ⟨-2, M, M, ?_, ?_, Inv_mono hI⟩
        · rw [rq_Mx_link, c_isNode_s hN hn.2 hu, z_bI, if_neg z_ne10, c_isNode_s hN hn.2 hv, z_bI, if_neg z_ne10, if_pos huv]
        · rw [rq_Mo_link, m_isNode_s hN2 hn hu, z_bI, if_neg z_ne10, m_isNode_s hN2 hn hv, z_bI, if_neg z_ne10, if_pos huv]
      · rcases ob_or z (n := 10) (by omega) with hz | ⟨j, hj, rfl⟩
        · have hz2 : z < 0 ∨ 9 < z := ob_gt hz (by decide)
          refine ⟨-3, M, M, ?_, ?_, Inv_mono hI⟩
          · rw [rq_Mx_link, c_isNode_s hN hn.2 hu, z_bI, if_neg z_ne10, c_isNode_s hN hn.2 hv, z_bI, if_neg z_ne10, if_neg huv]
            by_cases h0 : z < 0
            · rw [if_pos h0]
            · rw [if_neg h0, if_neg]
              rcases hz2 with hx | hx
              · exact absurd hx h0
              · exact Int32.not_le.mpr hx
          · rw [rq_Mo_link, m_isNode_s hN2 hn hu, z_bI, if_neg z_ne10, m_isNode_s hN2 hn hv, z_bI, if_neg z_ne10, if_neg huv, m_in_n (a := 0) (b := 9) (A := Int64.ofNat 0) (B := 9) rfl rfl hz2, z_bI, if_pos rfl]
        · have hj5 : nI j ≤ 9 := nI_le (b := 9) (by omega) (by omega)
          obtain ⟨r, hr, e1, e2⟩ := h3 (8 * u + v) (by omega)
          refine ⟨nI r, am_up M 2 0 (8 * u + v) (nI j), am_up (am_up M 2 0 (8 * u + v) (nI j)) 26 0 (8 * u + v) (nI j), ?_, ?_, n, ⟨hn, hN, hN2⟩, h2, fun i hi => ?_, h4⟩
          · rw [rq_Mx_link, c_isNode_s hN hn.2 hu, z_bI, if_neg z_ne10, c_isNode_s hN hn.2 hv, z_bI, if_neg z_ne10, if_neg huv, if_neg (nI_pos (by omega)), if_pos hj5, c_roomAt_s hN hn.2 hu hv, z_bI, c_setRoom hN hn.2 hu hv, z_bV, e1]
          · have e3 : (am_up M 2 0 (8 * u + v) (nI j)) 26 0 (8 * u + v) = nI r := e2
            have hN3 : (am_up M 2 0 (8 * u + v) (nI j)) 25 0 0 = nI n := hN2
            rw [rq_Mo_link, m_isNode_s hN3 hn hu, z_bI, if_neg z_ne10, m_isNode_s hN3 hn hv, z_bI, if_neg z_ne10, if_neg huv, m_in_s (a := 0) (b := 9) (A := Int64.ofNat 0) (B := 9) rfl rfl (nI_pos (by omega)) hj5, z_bI, if_neg z_ne10, z_8mul, z_in (by omega) (by omega), z_if, z_if, z_ix (by omega), e3]
          · by_cases e : i = 8 * u + v
            · subst e
              exact ⟨j, by omega, am_up_self M 2 0 _ _, am_up_self M 26 0 _ _⟩
            · obtain ⟨r, hr, e1, e2⟩ := h3 i hi
              exact ⟨r, hr, (am_up_ne (M := M) (a := 2) (b := 0) (c := 8 * u + v) (x := nI j) (Or.inr (Or.inr e))).trans e1, (am_up_ne (M := M) (a := 26) (b := 0) (c := 8 * u + v) (x := nI j) (Or.inr (Or.inr e))).trans e2⟩
theorem mv_congr {o w o' w' : Nat → Int32} (h : ∀ u, u < 8 → o u = o' u ∧ w u = w' u) : mv o w = mv o' w' := by
  have : ∀ u, u ≤ 8 → mvN o w u = mvN o' w' u := by
    intro u
    induction u with
    | zero => intro _; rfl
    | succ u ih =>
      intro hu
      unfold mvN
      rw [ih (by omega), (h u (by omega)).1, (h u (by omega)).2]
  exact this 8 (by omega)
theorem rl_congr {o w o' w' : Nat → Int32} (s : Int32) {u : Nat} (h : o u = o' u ∧ w u = w' u) : rl o w s u = rl o' w' s u := by
  unfold rl
  rw [h.1, h.2]
theorem op_flow (hI : Inv c M) (x y : Int32) : pr E c M mI_Mx_flow mI_Mo_flow [.inl x, .inl y] := by
  obtain ⟨n, h1, h2, h3, h4, h5, h6⟩ := Inv_mono hI
  rcases ob_or x (n := 3) (by omega) with hx | ⟨k, hk, rfl⟩
  · refine ⟨-2, M, M, ?_, ?_, Inv_mono hI⟩
    · rw [rq_Mx_flow, c_flowAt_n hx, z_bR, eq_Mx_flow_8v0]
    · rw [rq_Mo_flow, m_isFlow_n hx, z_bI, if_pos rfl]
  · obtain ⟨s, g, z, ⟨-, g1, g2, g3, g4, g5⟩⟩ := h4 k hk
    obtain ⟨t, m, p, d, ⟨-, f1, f2, f3, f4, f5⟩⟩ := h5 k hk
    have key : ∃ v, am_run (am_I2 E) mI_Mx_flow [.inr (.inl (some (0, 0))), .inl (nI k), .inl y] M = some (some (.inl v), M) ∧ am_run (am_I2 E) mI_Mo_flow [.inr (.inl (some (25, 0))), .inl (nI k), .inl y] M = some (some (.inl v), M) := by
      rw [rq_Mx_flow, c_flowAt_s hk, z_bR, eq_Mx_flow_8v1, rq_Mo_flow, m_isFlow_s hk, z_bI, if_neg z_ne10, z_in hk (by omega), z_ix (by omega)]
      simp only [z_if]
      rw [g1.1, g1.2, g2.1, g2.2, g3.1, g3.2, g4.1, f1.1, f1.2, f2.1, f2.2, f3.1, f3.2, c_movers, m_movers hk, z_bI, z_bI, mv_congr (fun u hu => (g5 u hu).1)]
      repeat' split
      all_goals exact ⟨_, rfl, rfl⟩
    obtain ⟨v, e1, e2⟩ := key
    exact ⟨v, M, M, e1, e2, Inv_mono hI⟩
theorem op_rule (hI : Inv c M) (x y z : Int32) : pr E c M mI_Mx_rule mI_Mo_rule [.inl x, .inl y, .inl z] := by
  obtain ⟨n, ⟨hn, hN, hN2⟩, h2, h3, h4, h5, h6⟩ := Inv_mono hI
  rcases ob_or x (n := 3) (by omega) with hx | ⟨k, hk, rfl⟩
  · refine ⟨-2, M, M, ?_, ?_, Inv_mono hI⟩
    · rw [rq_Mx_rule, c_flowAt_n hx, z_bR, eq_Mx_rule_8v0]
    · rw [rq_Mo_rule, m_isFlow_n hx, z_bI, if_pos rfl]
  · rcases ob_or y (n := n) (by omega) with hy | ⟨u, hu, rfl⟩
    · refine ⟨-2, M, M, ?_, ?_, Inv_mono hI⟩
      · rw [rq_Mx_rule, c_flowAt_s hk, z_bR, eq_Mx_rule_8v1, c_isNode_n hN hy, z_bI, if_pos rfl]
      · rw [rq_Mo_rule, m_isFlow_s hk, z_bI, if_neg z_ne10, m_isNode_n hN2 hn hy, z_bI, if_pos rfl]
    · obtain ⟨s, g, w, ⟨-, -, -, -, -, g5⟩⟩ := h4 k hk
      obtain ⟨t, m, p, d, ⟨-, f1, -⟩⟩ := h5 k hk
      have key : ∃ v, am_run (am_I2 E) mI_Mx_rule [.inr (.inl (some (0, 0))), .inl (nI k), .inl (nI u), .inl z] M = some (some (.inl v), M) ∧ am_run (am_I2 E) mI_Mo_rule [.inr (.inl (some (25, 0))), .inl (nI k), .inl (nI u), .inl z] M = some (some (.inl v), M) := by
        rw [rq_Mx_rule, c_flowAt_s hk, z_bR, eq_Mx_rule_8v1, c_isNode_s hN hn.2 hu, z_bI, if_neg z_ne10, rq_Mo_rule, m_isFlow_s hk, z_bI, if_neg z_ne10, m_isNode_s hN2 hn hu, z_bI, if_neg z_ne10, z_in hk (by omega), z_ix (by omega), z_8mul, z_in (by omega) (by omega), z_ix (by omega)]
        simp only [z_if]
        rw [f1.1, f1.2, c_oldAt (by omega), c_newAt (by omega), c_ruleAt (by omega), m_ruleBy hk (by omega), z_bI, z_bI, z_bI, z_bI, (g5 u (by omega)).1.1, (g5 u (by omega)).1.2, rl_congr (o := M 5 k) (w := M 6 k) (o' := fun u => M 31 0 (8 * k + u)) (w' := fun u => M 32 0 (8 * k + u)) (nI t) (g5 u (by omega)).1]
        repeat' split
        all_goals exact ⟨_, rfl, rfl⟩
      obtain ⟨v, e1, e2⟩ := key
      exact ⟨v, M, M, e1, e2, Inv_mono hI⟩
end
