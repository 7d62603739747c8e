/-! calls: flip, finish, cancel, letter, send -/
theorem Inv_ph {c k t m p d q : Nat} {M : am_M} (hc : c < 2 ^ 30) (hI : Inv c M) (hH : iH c t m p d k M) (hq : q < 3) : Inv (c + 1) (am_up (am_up M 4 k 7 (nI q)) 34 0 k (nI q)) := by
  obtain ⟨⟨h1, h2, h3, h4, h5⟩, f1, f2, f3, f4, f5⟩ := hH
  refine Inv_turn hI (frk_up (frk_up frk_rfl (tk_b k)) (tk_b k)) ⟨t, m, q, d, ⟨h1, h2, h3, hq, by omega⟩, f1, ⟨am_up_self M 4 k 7 (nI q), am_up_self M 34 0 k (nI q)⟩, f3, f4, f5⟩ (Nat.le_refl _)
theorem iL_fs {n m : Nat} {M : am_M} (h : iL n m M) : ∀ i, i < m → M 19 (am_lx (M 18 0 i)) 0 = M 38 0 (8 * i) ∧ M 19 (am_lx (M 18 0 i)) 5 = M 38 0 (8 * i + 3) := by
  intro i hi
  obtain ⟨f, u, h, a, d, o, w, q, e, -, -, y1, -, -, y2, -⟩ := h.2.2.2 i hi
  exact ⟨y1.1.trans y1.2.symm, y2.1.trans y2.2.symm⟩
section
variable {E : am_E} {M : am_M} {c : Nat}
theorem p_ne1 {p : Nat} (hp : p < 3) (h : p ≠ 1) : ¬ nI p = 1 := fun w => h ((nI_eq (b := 1) (by omega) (by omega)).mp w)
theorem p_ne2 {p : Nat} (hp : p < 3) (h : p ≠ 2) : ¬ nI p = 2 := fun w => h ((nI_eq (b := 2) (by omega) (by omega)).mp w)
theorem op_flip (hc : c < 2 ^ 30) (hI : Inv c M) (x : Int32) : pr E c M mI_Mx_flip mI_Mo_flip [.inl x] := by
  obtain ⟨n, h1, h2, h3, h4, h5, ⟨m', hL⟩, h6⟩ := id hI
  rcases ob_or x (n := 3) (by omega) with hx | ⟨k, hk, rfl⟩
  · refine ⟨-2, M, M, ?_, ?_, Inv_mono hI⟩
    · rw [rq_Mx_flip, c_flowAt_n hx, z_bR, eq_Mx_flip_8v0]
    · rw [rq_Mo_flip, m_isFlow_n hx, z_bI, if_pos rfl]
  · obtain ⟨t, m, p, d, hH⟩ := h5 k hk
    obtain ⟨f0, f1, f2, f3, f4, f5⟩ := id hH
    by_cases hp : p = 1
    · subst hp
      have e7 : M 4 k 7 = 1 := f2.1
      have e34 : (am_up M 4 k 7 2) 34 0 k = 1 := f2.2
      refine ⟨nI (cN (M 38 0) (nI k) 1 m') + nI (cN (M 38 0) (nI k) 0 m'), am_up M 4 k 7 2, am_up (am_up M 4 k 7 2) 34 0 k 2, ?_, ?_, Inv_ph (q := 2) hc hI hH (by omega)⟩
      · rw [rq_Mx_flip, c_flowAt_s hk, z_bR, eq_Mx_flip_8v1, if_pos e7, c_countOf (M := am_up M 4 k 7 2) hL.1 hL.2.1.1 (iL_fs hL), z_bI, c_countOf (M := am_up M 4 k 7 2) hL.1 hL.2.1.1 (iL_fs hL), z_bI]
        rfl
      · rw [rq_Mo_flip, m_isFlow_s hk, z_bI, if_neg z_ne10, z_in hk (by decide), z_if, z_ix (by omega), if_pos e34, z_if, m_lettersOf (M := am_up (am_up M 4 k 7 2) 34 0 k 2) hL.1 hL.2.1.2, z_bI, m_lettersOf (M := am_up (am_up M 4 k 7 2) 34 0 k 2) hL.1 hL.2.1.2, z_bI, Int32.add_comm]
        rfl
    · refine ⟨-4, M, M, ?_, ?_, Inv_mono hI⟩
      · rw [rq_Mx_flip, c_flowAt_s hk, z_bR, eq_Mx_flip_8v1, f2.1, if_neg (p_ne1 f0.2.2.2.1 hp)]
      · rw [rq_Mo_flip, m_isFlow_s hk, z_bI, if_neg z_ne10, z_in hk (by decide), z_if, z_ix (by omega), f2.2, if_neg (p_ne1 f0.2.2.2.1 hp)]
theorem op_cancel (hc : c < 2 ^ 30) (hI : Inv c M) (x : Int32) : pr E c M mI_Mx_cancel mI_Mo_cancel [.inl x] := by
  obtain ⟨n, h1, h2, h3, h4, h5, ⟨m', hL⟩, h6⟩ := id hI
  rcases ob_or x (n := 3) (by omega) with hx | ⟨k, hk, rfl⟩
  · refine ⟨-2, M, M, ?_, ?_, Inv_mono hI⟩
    · rw [rq_Mx_cancel, c_flowAt_n hx, z_bR, eq_Mx_cancel_8v0]
    · rw [rq_Mo_cancel, m_isFlow_n hx, z_bI, if_pos rfl]
  · obtain ⟨t, m, p, d, hH⟩ := h5 k hk
    obtain ⟨f0, f1, f2, f3, f4, f5⟩ := id hH
    by_cases hp : p = 0
    · subst hp
      have e7 : M 4 k 7 = 0 := f2.1
      have e34 : M 34 0 k = 0 := f2.2
      refine ⟨-4, M, M, ?_, ?_, Inv_mono hI⟩
      · rw [rq_Mx_cancel, c_flowAt_s hk, z_bR, eq_Mx_cancel_8v1, if_pos e7]
      · rw [rq_Mo_cancel, m_isFlow_s hk, z_bI, if_neg z_ne10, z_in hk (by decide), z_if, z_ix (by omega), if_pos e34]
    · have hp0 := p_ne0 f0.2.2.2.1 hp
      by_cases h0 : nI (cN (M 38 0) (nI k) 1 m') ≤ 0
      · have e34 : (am_up M 4 k 7 0) 34 0 k = nI p := f2.2
        refine ⟨nI p, am_up M 4 k 7 0, am_up (am_up M 4 k 7 0) 34 0 k 0, ?_, ?_, Inv_ph (q := 0) hc hI hH (by omega)⟩
        · rw [rq_Mx_cancel, c_flowAt_s hk, z_bR, eq_Mx_cancel_8v1, f2.1, if_neg hp0, c_countOf hL.1 hL.2.1.1 (iL_fs hL), z_bI, if_pos h0, f2.1]
        · rw [rq_Mo_cancel, m_isFlow_s hk, z_bI, if_neg z_ne10, z_in hk (by decide), z_if, z_ix (by omega), e34, if_neg hp0, m_lettersOf (M := am_up M 4 k 7 0) hL.1 hL.2.1.2, z_bI, if_pos (show nI (cN (am_up M 4 k 7 0 38 0) (nI k) 1 m') ≤ 0 from h0), z_if, z_if, e34]
      · refine ⟨-4, M, M, ?_, ?_, Inv_mono hI⟩
        · rw [rq_Mx_cancel, c_flowAt_s hk, z_bR, eq_Mx_cancel_8v1, f2.1, if_neg hp0, c_countOf hL.1 hL.2.1.1 (iL_fs hL), z_bI, if_neg h0]
        · rw [rq_Mo_cancel, m_isFlow_s hk, z_bI, if_neg z_ne10, z_in hk (by decide), z_if, z_ix (by omega), f2.2, if_neg hp0, m_lettersOf hL.1 hL.2.1.2, z_bI, if_neg h0]
theorem op_finish (hc : c < 2 ^ 30) (hI : Inv c M) (x : Int32) : pr E c M mI_Mx_finish mI_Mo_finish [.inl x] := by
  obtain ⟨n, h1, h2, h3, h4, h5, ⟨m', hL⟩, h6⟩ := id hI
  rcases ob_or x (n := 3) (by omega) with hx | ⟨k, hk, rfl⟩
  · refine ⟨-2, M, M, ?_, ?_, Inv_mono hI⟩
    · rw [rq_Mx_finish, c_flowAt_n hx, z_bR, eq_Mx_finish_8v0]
    · rw [rq_Mo_finish, m_isFlow_n hx, z_bI, if_pos rfl]
  · obtain ⟨s, g, z, ⟨-, g1, g2, g3, g4, g5⟩⟩ := h4 k hk
    obtain ⟨t, m, p, d, hH⟩ := h5 k hk
    obtain ⟨f0, f1, f2, f3, f4, f5⟩ := id hH
    have hmv : mv (fun u => M 31 0 (8 * k + u)) (fun u => M 32 0 (8 * k + u)) = mv (M 5 k) (M 6 k) := (mv_congr (fun u hu => (g5 u hu).1)).symm
    by_cases hp : p = 2
    · subst hp
      have e7 : M 4 k 7 = 2 := f2.1
      by_cases h0 : nI (cN (M 38 0) (nI k) 0 m') ≤ 0
      · refine ⟨nI (mv (M 5 k) (M 6 k)), am_up (am_up (am_up M 4 k 6 (nI (mv (M 5 k) (M 6 k)))) 4 k 7 0) 4 k 9 0, am_up (am_up (am_up (am_up (am_up (am_up M 4 k 6 (nI (mv (M 5 k) (M 6 k)))) 4 k 7 0) 4 k 9 0) 33 0 k (nI (mv (M 5 k) (M 6 k)))) 34 0 k 0) 36 0 k 0, ?_, ?_, ?_⟩
        · rw [rq_Mx_finish, c_flowAt_s hk, z_bR, eq_Mx_finish_8v1, if_pos e7, c_countOf hL.1 hL.2.1.1 (iL_fs hL), z_bI, if_pos h0, c_movers, z_bI, am_up_self]
        · have e34 : (am_up (am_up (am_up M 4 k 6 (nI (mv (M 5 k) (M 6 k)))) 4 k 7 0) 4 k 9 0) 34 0 k = 2 := f2.2
          rw [rq_Mo_finish, m_isFlow_s hk, z_bI, if_neg z_ne10, z_in hk (by decide), z_if, z_ix (by omega), if_pos e34, m_lettersOf (M := am_up (am_up (am_up M 4 k 6 (nI (mv (M 5 k) (M 6 k)))) 4 k 7 0) 4 k 9 0) hL.1 hL.2.1.2, z_bI, if_pos (show nI (cN ((am_up (am_up (am_up M 4 k 6 (nI (mv (M 5 k) (M 6 k)))) 4 k 7 0) 4 k 9 0) 38 0) (nI k) 0 m') ≤ 0 from h0), m_movers hk, z_bI, z_if, z_if, z_if, z_if, am_up_self]
          rw [show mv (fun u => (am_up (am_up (am_up M 4 k 6 (nI (mv (M 5 k) (M 6 k)))) 4 k 7 0) 4 k 9 0) 31 0 (8 * k + u)) (fun u => (am_up (am_up (am_up M 4 k 6 (nI (mv (M 5 k) (M 6 k)))) 4 k 7 0) 4 k 9 0) 32 0 (8 * k + u)) = mv (M 5 k) (M 6 k) from hmv]
        · refine Inv_turn hI (frk_up (frk_up (frk_up (frk_up (frk_up (frk_up frk_rfl (tk_b k)) (tk_b k)) (tk_b k)) (tk_b k)) (tk_b k)) (tk_b k)) ⟨mv (M 5 k) (M 6 k), 0, 0, d, ⟨mv_lt _ _, ?_, by omega, by omega, by omega⟩, ⟨?_, ?_⟩, ⟨?_, ?_⟩, ⟨?_, ?_⟩, trivial, f5⟩ (Nat.le_refl _)
          · exact sd0_iff.mpr (fun i hi => hi)
          · exact am_up_self M 4 k 6 _
          · exact am_up_self M 33 0 k _
          · exact am_up_self M 4 k 7 _
          · exact am_up_self M 34 0 k _
          · exact am_up_self M 4 k 9 _
          · exact am_up_self M 36 0 k _
      · have e34 : M 34 0 k = 2 := f2.2
        refine ⟨-4, M, M, ?_, ?_, Inv_mono hI⟩
        · rw [rq_Mx_finish, c_flowAt_s hk, z_bR, eq_Mx_finish_8v1, if_pos e7, c_countOf hL.1 hL.2.1.1 (iL_fs hL), z_bI, if_neg h0]
        · rw [rq_Mo_finish, m_isFlow_s hk, z_bI, if_neg z_ne10, z_in hk (by decide), z_if, z_ix (by omega), if_pos e34, m_lettersOf hL.1 hL.2.1.2, z_bI, if_neg h0]
    · have hp2 := p_ne2 f0.2.2.2.1 hp
      refine ⟨-4, M, M, ?_, ?_, Inv_mono hI⟩
      · rw [rq_Mx_finish, c_flowAt_s hk, z_bR, eq_Mx_finish_8v1, f2.1, if_neg hp2]
      · rw [rq_Mo_finish, m_isFlow_s hk, z_bI, if_neg z_ne10, z_in hk (by decide), z_if, z_ix (by omega), f2.2, if_neg hp2]
theorem c_letterAt_n {m : Nat} {x : Int32} (hm : m ≤ 12) (h2 : M 17 0 2 = nI m) (hx : ob x m) : am_run (am_I2 E) mI_Ma_letterAt [.inr (.inl (some (17, 0))), .inl x] M = some (some (.inr (.inl none)), M) := by
  rw [rq_Ma_letterAt, h2]
  by_cases h0 : x < nI m
  · rw [if_pos h0]
    rcases hx with hx | hx
    · rw [c_isPlace_n (y := 12) (n := 12) rfl (Or.inl hx), z_bI, if_pos rfl]
    · exact absurd h0 (Int32.not_lt.mpr hx)
  · rw [if_neg h0]
theorem c_letterAt_s {m i : Nat} (hm : m ≤ 12) (h2 : M 17 0 2 = nI m) (hi : i < m) : am_run (am_I2 E) mI_Ma_letterAt [.inr (.inl (some (17, 0))), .inl (nI i)] M = some (some (.inr (.inl (some (19, am_lx (M 18 0 i))))), M) := by
  rw [rq_Ma_letterAt, h2, if_pos (nI_lt hi (by omega)), c_isPlace_s (y := 12) (n := 12) rfl (by omega) (by omega), z_bI, if_neg z_ne10, z_in (by omega) (by omega), z_if, z_ix (by omega)]
theorem ob_pred {x : Int32} {m : Nat} (hm : m ≤ 1000) (hx : ob x m) : x < 0 ∨ nI m - 1 < x := by
  rcases hx with hx | hx
  · exact Or.inl hx
  · right
    cases m with
    | zero =>
      have : (nI 0 - 1 : Int32) < nI 0 := by decide
      exact Int32.lt_of_lt_of_le this hx
    | succ m =>
      rw [nI_pred]
      exact Int32.lt_of_lt_of_le (nI_lt (by omega) (by omega)) hx
theorem c_staleness {j f D d : Nat} (hf : f < 3) (h0 : M 19 j 0 = nI f) (h4 : M 19 j 4 = nI d) (hD : M 4 f 10 = nI D) : am_run (am_I2 E) mI_Ma_staleness [.inr (.inl (some (17, 0))), .inr (.inl (some (19, j)))] M = some (some (.inl (nI D - nI d)), M) := by
  rw [rq_Ma_staleness, h0, c_flowAt_s hf, z_bR, eq_Ma_staleness_11v1, hD, h4]
theorem b01 {a : Nat} (h : a < 2) : a = 0 ∨ a = 1 := by omega
theorem op_letter (hI : Inv c M) (x y : Int32) : pr E c M mI_Mx_letter mI_Mo_letter [.inl x, .inl y] := by
  obtain ⟨n, h1, h2, h3, h4, h5, ⟨m, hL⟩, h6⟩ := id hI
  rcases ob_or x (n := m) (by have := hL.1; omega) with hx | ⟨i, hi, rfl⟩
  · refine ⟨-2, M, M, ?_, ?_, Inv_mono hI⟩
    · rw [rq_Mx_letter, c_letterAt_n hL.1 hL.2.1.1 hx, z_bR, eq_Mx_letter_8v0]
    · rw [rq_Mo_letter, hL.2.1.2, m_in_n (a := 0) (b := nI m - 1) (A := Int64.ofNat 0) rfl rfl (ob_pred (by have := hL.1; omega) hx), z_bI, if_pos rfl]
  · have hm := hL.1
    obtain ⟨f, u, h, a, d, o, w, q, e, y0, y1, z0, z1, z2, z3, z4, z5, z6, -⟩ := hL.2.2.2 i hi
    obtain ⟨t, m', p, D, -, -, -, -, -, f5⟩ := h5 f y0.1
    have hpr : nI m - 1 = nI (m - 1) := by
      have := nI_pred (m - 1)
      rw [show m - 1 + 1 = m by omega] at this
      exact this
    have key : ∃ v, am_run (am_I2 E) mI_Mx_letter [.inr (.inl (some (0, 0))), .inl (nI i), .inl y] M = some (some (.inl v), M) ∧ am_run (am_I2 E) mI_Mo_letter [.inr (.inl (some (25, 0))), .inl (nI i), .inl y] M = some (some (.inl v), M) := by
      rw [rq_Mx_letter, c_letterAt_s hL.1 hL.2.1.1 hi, z_bR, eq_Mx_letter_8v1, rq_Mo_letter, hL.2.1.2, hpr, m_in_s (a := 0) (b := nI (m - 1)) (A := Int64.ofNat 0) rfl rfl (nI_pos (by omega)) (nI_le (by omega) (by omega)), z_bI, if_neg z_ne10]
      by_cases c0 : y = 0
      · rw [if_pos c0, if_pos c0, c0, z_8a 0 (y := 0) rfl, z_in (by omega) (by omega), z_if, z_ix (by omega), z0.1, show M 38 0 (8 * i + 0) = nI f from z0.2]
        exact ⟨_, rfl, rfl⟩
      rw [if_neg c0, if_neg c0]
      by_cases c1 : y = 1
      · rw [if_pos c1, if_pos c1, c1, z_8a 1 (y := 1) rfl, z_in (by omega) (by omega), z_if, z_ix (by omega), z1.1, z1.2]
        exact ⟨_, rfl, rfl⟩
      rw [if_neg c1, if_neg c1]
      by_cases c2 : y = 2
      · rw [if_pos c2, if_pos c2, c2, z_8a 2 (y := 2) rfl, z_in (by omega) (by omega), z_if, z_ix (by omega), z2.1, z2.2]
        exact ⟨_, rfl, rfl⟩
      rw [if_neg c2, if_neg c2]
      by_cases c3 : y = 3
      · rw [if_pos c3, if_pos c3, c3, z_8a 3 (y := 3) rfl, z_in (by omega) (by omega), z_if, z_ix (by omega), z3.1, z3.2]
        rcases b01 y0.2.2.2.1 with rfl | rfl
        · exact ⟨0, rfl, rfl⟩
        · exact ⟨1, rfl, rfl⟩
      rw [if_neg c3, if_neg c3]
      by_cases c4 : y = 4
      · rw [if_pos c4, if_pos c4, z_8a 4 (y := 4) rfl, z_8m, z_in (by omega) (by omega), z_if, z_ix (by omega), z0.2, z_in y0.1 (by omega), z_if, z_ix (by omega), z_in (by omega) (by omega), z_if, z_ix (by omega), z4.2, c_staleness y0.1 z0.1 z4.1 f5.1, z_bI, f5.2]
        exact ⟨_, rfl, rfl⟩
      rw [if_neg c4, if_neg c4]
      by_cases c5 : y = 5
      · rw [if_pos c5, if_pos c5, z_8a 5 (y := 5) rfl, z_8a 6 (y := 6) rfl, z_in (by omega) (by omega), z_if, z_in (by omega) (by omega), z_if, z_ix (by omega), z_ix (by omega), rq_Le_isMixed, z5.1, z5.2, z6.1, z6.2]
        rcases b01 y0.2.2.2.2.1 with rfl | rfl <;> rcases b01 y0.2.2.2.2.2.1 with rfl | rfl
        · exact ⟨0, rfl, rfl⟩
        · exact ⟨0, rfl, rfl⟩
        · exact ⟨0, rfl, rfl⟩
        · exact ⟨1, rfl, rfl⟩
      rw [if_neg c5, if_neg c5]
      exact ⟨_, rfl, rfl⟩
    obtain ⟨v, e1, e2⟩ := key
    exact ⟨v, M, M, e1, e2, Inv_mono hI⟩
end
