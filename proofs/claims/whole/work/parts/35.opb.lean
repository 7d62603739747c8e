/-! calls: force, reverse, flip, finish, cancel -/
def tC (k m r t d : Nat) (M : am_M) : am_M := am_up (am_up (am_up (am_up M 7 k m (nI r)) 4 k 9 (nI (m + 1))) 4 k 10 (nI (d + 1))) 4 k 6 (nI (t ||| r))
def tM (k m r t d : Nat) (M : am_M) : am_M := am_up (am_up (am_up (am_up M 33 0 k (nI (t ||| r))) 35 0 (8 * k + m) (nI r)) 36 0 k (nI (m + 1))) 37 0 k (nI (d + 1))
theorem tk_b (k : Nat) : Nat.beq k k = true := Nat.beq_refl k
theorem tk_35 {k m : Nat} (hm : m < 8) : tk k 35 0 (8 * k + m) = true := by
  show Nat.beq ((8 * k + m) / 8) k = true
  rw [show (8 * k + m) / 8 = k by omega]
  exact tk_b k
theorem Inv_tC {c k t m p d r : Nat} {M : am_M} (hc : c < 2 ^ 30) (hI : Inv c M) (hH : iH c t m p d k M) (hr : 0 < r) (hr2 : r < 256) (hs : sd r (mv (M 5 k) (M 6 k)) = 0) (ht : r &&& t = 0) : Inv (c + 1) (tM k m r t d (tC k m r t d M)) := by
  obtain ⟨⟨h1, h2, h3, h4, h5⟩, f1, f2, f3, f4, f5⟩ := hH
  have hm : m < 8 := rdk_lt8 h1 hr hr2 ht f4
  have hf : frk k M (tM k m r t d (tC k m r t d M)) := by
    unfold tM tC
    exact frk_up (frk_up (frk_up (frk_up (frk_up (frk_up (frk_up (frk_up frk_rfl (tk_b k)) (tk_b k)) (tk_b k)) (tk_b k)) (tk_b k)) (tk_35 hm)) (tk_b k)) (tk_b k)
  have e37 : (tM k m r t d (tC k m r t d M)) 37 0 k = nI (d + 1) := am_up_self _ 37 0 k _
  refine Inv_turn hI hf ⟨t ||| r, m + 1, p, d + 1, ⟨or_lt h1 hr2, ?_, by omega, h4, by omega⟩, ⟨?_, ?_⟩, ⟨?_, ?_⟩, ⟨?_, ?_⟩, ?_, ?_, ?_⟩ ?_
  · show sd (t ||| r) (mv (M 5 k) (M 6 k)) = 0
    rw [sd0_iff] at h2 hs ⊢
    intro i hi
    rw [Nat.testBit_or, Bool.or_eq_true] at hi
    exact hi.elim (h2 i) (hs i)
  · exact am_up_self (am_up (am_up (am_up M 7 k m (nI r)) 4 k 9 (nI (m + 1))) 4 k 10 (nI (d + 1))) 4 k 6 (nI (t ||| r))
  · exact am_up_self M 33 0 k (nI (t ||| r))
  · exact f2.1
  · exact f2.2
  · exact am_up_self M 4 k 9 (nI (m + 1))
  · exact am_up_self M 36 0 k (nI (m + 1))
  · refine rdk_new hr ?_ ?_ ht (rdk_congr (fun i hi => ⟨?_, ?_⟩) f4)
    · exact am_up_self M 7 k m (nI r)
    · exact am_up_self M 35 0 (8 * k + m) (nI r)
    · exact (am_up_ne (M := M) (a := 7) (b := k) (c := m) (x := nI r) (Or.inr (Or.inr (show i ≠ m by omega)))).symm
    · exact (am_up_ne (M := M) (a := 35) (b := 0) (c := 8 * k + m) (x := nI r) (Or.inr (Or.inr (show 8 * k + i ≠ 8 * k + m by omega)))).symm
  · exact am_up_self M 4 k 10 (nI (d + 1))
  · exact e37
  · rw [e37, f5.2, nI_clamp (by omega), nI_clamp (by omega)]; omega
section
variable {E : am_E} {M : am_M} {c : Nat}
theorem c_turnRound {k m r t d : Nat} (h9 : M 4 k 9 = nI m) (hm : m < 8) (h6 : M 4 k 6 = nI t) (h10 : M 4 k 10 = nI d) : am_run (am_I2 E) mI_Fl_turnRound [.inr (.inl (some (4, k))), .inl (nI r)] M = some (none, tC k m r t d M) := by
  rw [rq_Fl_turnRound, h9, c_isPlace_s (y := 8) (n := 8) rfl hm (by decide), z_bI, if_neg z_ne10, h9, z_in hm (by decide), z_if, z_ix (by omega), h6, h10, nI_1, nI_1, nI_or]
  rfl
theorem m_turns {k m r t d : Nat} (hk : k < 3) (h9 : M 36 0 k = nI m) (hm : m < 8) (h6 : M 33 0 k = nI t) (h10 : M 37 0 k = nI d) : am_run (am_I2 E) mI_Mo_turns [.inr (.inl (some (25, 0))), .inl (nI k), .inl (nI r)] M = some (none, tM k m r t d M) := by
  rw [rq_Mo_turns, z_in hk (by decide), z_ix (by omega), h9, z_8mul, z_in (by omega) (by decide), z_ix (by omega), h6, h10, nI_1, nI_1, nI_or]
  rfl
theorem p_ne0 {p : Nat} (hp : p < 3) (h : p ≠ 0) : ¬ nI p = 0 := nI_ne0 (by omega) (by omega)
theorem op_force (hc : c < 2 ^ 30) (hI : Inv c M) (x y : Int32) : pr E c M mI_Mx_force mI_Mo_force [.inl x, .inl y] := by
  obtain ⟨n, h1, h2, h3, h4, h5, h6⟩ := id hI
  rcases ob_or x (n := 3) (by omega) with hx | ⟨k, hk, rfl⟩
  · refine ⟨-2, M, M, ?_, ?_, Inv_mono hI⟩
    · rw [rq_Mx_force, c_flowAt_n hx, z_bR, eq_Mx_force_8v0]
    · rw [rq_Mo_force, m_isFlow_n hx, z_bI, if_pos rfl]
  · obtain ⟨s, g, z, ⟨-, g1, g2, g3, g4, g5⟩⟩ := h4 k hk
    obtain ⟨t, m, p, d, hH⟩ := h5 k hk
    obtain ⟨f0, f1, f2, f3, f4, f5⟩ := id hH
    have hmv : mv (fun u => M 31 0 (8 * k + u)) (fun u => M 32 0 (8 * k + u)) = mv (M 5 k) (M 6 k) := (mv_congr (fun u hu => (g5 u hu).1)).symm
    by_cases hR : ∃ r, isR y (mv (M 5 k) (M 6 k)) t r
    · obtain ⟨r, hR⟩ := hR
      by_cases hp : p = 0
      · subst hp
        obtain ⟨r0, r1, rfl, r3, r4⟩ := id hR
        have hm : m < 8 := rdk_lt8 f0.1 r0 r1 r4 f4
        refine ⟨nI (t ||| r), tC k m r t d M, tM k m r t d (tC k m r t d M), ?_, ?_, Inv_tC hc hI hH r0 r1 r3 r4⟩
        · rw [rq_Mx_force, c_flowAt_s hk, z_bR, eq_Mx_force_8v1, c_isRound_s f1.1 hR, z_bI, if_neg z_ne10, if_pos (show M 4 k 7 = 0 from f2.1), c_turnRound f3.1 hm f1.1 f5.1, z_bV]
          unfold tC
          rw [am_up_self]
        · have e34 : tC k m r t d M 34 0 k = 0 := f2.2
          rw [rq_Mo_force, m_isFlow_s hk, z_bI, if_neg z_ne10, m_isRound_s (M := tC k m r t d M) hk hmv f1.2 hR, z_bI, if_neg z_ne10, z_in hk (by decide), z_if, z_ix (by omega), if_pos e34, m_turns (M := tC k m r t d M) hk f3.2 hm f1.2 f5.2, z_bV, z_if]
          rw [show tM k m r t d (tC k m r t d M) 33 0 k = nI (t ||| r) from am_up_self M 33 0 k (nI (t ||| r))]
      · refine ⟨-4, M, M, ?_, ?_, Inv_mono hI⟩
        · rw [rq_Mx_force, c_flowAt_s hk, z_bR, eq_Mx_force_8v1, c_isRound_s f1.1 hR, z_bI, if_neg z_ne10, f2.1, if_neg (p_ne0 f0.2.2.2.1 hp)]
        · rw [rq_Mo_force, m_isFlow_s hk, z_bI, if_neg z_ne10, m_isRound_s hk hmv f1.2 hR, z_bI, if_neg z_ne10, z_in hk (by decide), z_if, z_ix (by omega), f2.2, if_neg (p_ne0 f0.2.2.2.1 hp)]
    · refine ⟨-3, M, M, ?_, ?_, Inv_mono hI⟩
      · rw [rq_Mx_force, c_flowAt_s hk, z_bR, eq_Mx_force_8v1, c_isRound_n f1.1 hR, z_bI, if_pos rfl]
      · rw [rq_Mo_force, m_isFlow_s hk, z_bI, if_neg z_ne10, m_isRound_n hk hmv f1.2 hR, z_bI, if_pos rfl]
def bC (k m r t d : Nat) (M : am_M) : am_M := am_up (am_up (am_up M 4 k 6 (nI (sd t r))) 4 k 9 (nI m)) 4 k 10 (nI (d + 1))
def bM (k m r t d : Nat) (M : am_M) : am_M := am_up (am_up (am_up M 36 0 k (nI m)) 33 0 k (nI (sd t r))) 37 0 k (nI (d + 1))
theorem Inv_bC {c k t m p d r : Nat} {M : am_M} (hc : c < 2 ^ 30) (hI : Inv c M) (hH : iH c t (m + 1) p d k M) (hr : 0 < r) (e7 : M 7 k m = nI r) (e35 : M 35 0 (8 * k + m) = nI r) (hs : r &&& t = r) (hk : rdk (M 7 k) (fun i => M 35 0 (8 * k + i)) m (sd t r)) : Inv (c + 1) (bM k m r t d (bC k m r t d M)) := by
  obtain ⟨⟨h1, h2, h3, h4, h5⟩, f1, f2, f3, f4, f5⟩ := hH
  have hf : frk k M (bM k m r t d (bC k m r t d M)) := by
    unfold bM bC
    exact frk_up (frk_up (frk_up (frk_up (frk_up (frk_up frk_rfl (tk_b k)) (tk_b k)) (tk_b k)) (tk_b k)) (tk_b k)) (tk_b k)
  have e37 : (bM k m r t d (bC k m r t d M)) 37 0 k = nI (d + 1) := am_up_self _ 37 0 k _
  refine Inv_turn hI hf ⟨sd t r, m, p, d + 1, ⟨sd_lt h1, ?_, by omega, h4, by omega⟩, ⟨?_, ?_⟩, ⟨?_, ?_⟩, ⟨?_, ?_⟩, ?_, ?_, ?_⟩ ?_
  · show sd (sd t r) (mv (M 5 k) (M 6 k)) = 0
    rw [sd0_iff] at h2 ⊢
    intro i hi
    rw [sd_bit, Bool.and_eq_true] at hi
    exact h2 i hi.1
  · exact am_up_self M 4 k 6 (nI (sd t r))
  · exact am_up_self M 33 0 k (nI (sd t r))
  · exact f2.1
  · exact f2.2
  · exact am_up_self M 4 k 9 (nI m)
  · exact am_up_self M 36 0 k (nI m)
  · exact hk
  · exact am_up_self M 4 k 10 (nI (d + 1))
  · exact e37
  · rw [e37, f5.2, nI_clamp (by omega), nI_clamp (by omega)]; omega
theorem op_reverse (hc : c < 2 ^ 30) (hI : Inv c M) (x : Int32) : pr E c M mI_Mx_reverse mI_Mo_reverse [.inl x] := by
  obtain ⟨n, h1, h2, h3, h4, h5, h6⟩ := id hI
  rcases ob_or x (n := 3) (by omega) with hx | ⟨k, hk, rfl⟩
  · refine ⟨-2, M, M, ?_, ?_, Inv_mono hI⟩
    · rw [rq_Mx_reverse, c_flowAt_n hx, z_bR, eq_Mx_reverse_8v0]
    · rw [rq_Mo_reverse, m_isFlow_n hx, z_bI, if_pos rfl]
  · obtain ⟨t, m, p, d, hH⟩ := h5 k hk
    obtain ⟨f0, f1, f2, f3, f4, f5⟩ := id hH
    by_cases hp : p = 0
    · subst hp
      have e34 : M 34 0 k = 0 := f2.2
      cases m with
      | zero =>
        have e36 : M 36 0 k = 0 := f3.2
        have e9 : M 4 k 9 = 0 := f3.1
        refine ⟨-4, M, M, ?_, ?_, Inv_mono hI⟩
        · rw [rq_Mx_reverse, c_flowAt_s hk, z_bR, eq_Mx_reverse_8v1, if_pos (show M 4 k 7 = 0 from f2.1), if_pos e9]
        · rw [rq_Mo_reverse, m_isFlow_s hk, z_bI, if_neg z_ne10, z_in hk (by decide), z_if, z_ix (by omega), if_pos e34, z_if, if_pos e36]
      | succ m =>
        obtain ⟨r, hr, e7, e35, hs, hd⟩ := id f4
        have hm := f0.2.2.1
        have hm0 : ¬ nI (m + 1) = 0 := nI_ne0 (by omega) (by omega)
        refine ⟨nI (sd t r), bC k m r t d M, bM k m r t d (bC k m r t d M), ?_, ?_, Inv_bC hc hI hH hr e7 e35 hs hd⟩
        · rw [rq_Mx_reverse, c_flowAt_s hk, z_bR, eq_Mx_reverse_8v1, if_pos (show M 4 k 7 = 0 from f2.1), f3.1, if_neg hm0, rq_Fl_takeBack, f3.1, nI_pred, c_isPlace_s (y := 8) (n := 8) rfl (by omega) (by decide), z_bI, if_neg z_ne10, z_in (by omega) (by decide), z_if, z_ix (by omega), z_bV, f1.1, e7, nI_sd, f5.1, nI_1]
          rw [show (am_up (am_up (am_up M 4 k 6 (nI (sd t r))) 4 k 9 (nI m)) 4 k 10 (nI (d + 1))) 4 k 6 = nI (sd t r) from am_up_self M 4 k 6 (nI (sd t r))]
          rfl
        · have e34' : bC k m r t d M 34 0 k = 0 := f2.2
          have e36' : bC k m r t d M 36 0 k = nI (m + 1) := f3.2
          have e33' : bC k m r t d M 33 0 k = nI t := f1.2
          have e37' : bC k m r t d M 37 0 k = nI d := f5.2
          have e35' : bC k m r t d M 35 0 (8 * k + m) = nI r := e35
          rw [rq_Mo_reverse, m_isFlow_s hk, z_bI, if_neg z_ne10, z_in hk (by decide), z_if, z_ix (by omega), if_pos e34', z_if, e36', if_neg hm0, z_if, z_if, z_if, z_if, am_up_self, nI_pred, z_8mul, z_in (by omega) (by decide), z_if, z_if, z_if, z_if, z_if, z_ix (by omega), e33', e35', e37', nI_sd, nI_1, am_up_self]
          rfl
    · refine ⟨-4, M, M, ?_, ?_, Inv_mono hI⟩
      · rw [rq_Mx_reverse, c_flowAt_s hk, z_bR, eq_Mx_reverse_8v1, f2.1, if_neg (p_ne0 f0.2.2.2.1 hp)]
      · rw [rq_Mo_reverse, m_isFlow_s hk, z_bI, if_neg z_ne10, z_in hk (by decide), z_if, z_ix (by omega), f2.2, if_neg (p_ne0 f0.2.2.2.1 hp)]
/-- letters of a flow that are stamped so -/
def cN (a : Nat → Int32) (x y : Int32) : Nat → Nat
  | 0 => 0
  | i + 1 => cN a x y i + (if a (8 * i) = x then (if a (8 * i + 3) = y then 1 else 0) else 0)
theorem cN_succ (a : Nat → Int32) (x y : Int32) (i : Nat) : cN a x y (i + 1) = cN a x y i + (if a (8 * i) = x then (if a (8 * i + 3) = y then 1 else 0) else 0) := rfl
theorem cN_le (a : Nat → Int32) (x y : Int32) : ∀ i, cN a x y i ≤ i := by
  intro i
  induction i with
  | zero => exact Nat.le_refl 0
  | succ i ih =>
    unfold cN
    repeat' split
    all_goals omega
theorem c_countOf {m : Nat} {x y : Int32} (hm : m ≤ 12) (h2 : M 17 0 2 = nI m) (hl : ∀ i, i < m → M 19 (am_lx (M 18 0 i)) 0 = M 38 0 (8 * i) ∧ M 19 (am_lx (M 18 0 i)) 5 = M 38 0 (8 * i + 3)) : am_run (am_I2 E) mI_Ma_countOf [.inr (.inl (some (17, 0))), .inl x, .inl y] M = some (some (.inl (nI (cN (M 38 0) x y m))), M) := by
  rw [rq_Ma_countOf]
  have key : ∀ j i, i + j = m → am_ex (am_I2 E) mI_Ma_countOf 5 [some (.inr (.inl (some (17, 0)))), some (.inl x), some (.inl y), some (.inl (nI (cN (M 38 0) x y i))), some (.inl (nI i))] [] M = some (some (.inl (nI (cN (M 38 0) x y m))), M) := by
    intro j
    induction j with
    | zero =>
      intro i hi
      rw [eq_Ma_countOf_5, h2, if_neg (nI_nlt (by omega) (by omega)), show i = m by omega]
    | succ j ih =>
      intro i hi
      have h12 : nI i < 12 := nI_lt (b := 12) (by omega) (by omega)
      have h1 := ih (i + 1) (by omega)
      rw [cN_succ] at h1
      rw [eq_Ma_countOf_5, h2, if_pos (nI_lt (by omega) (by omega)), if_pos h12, z_in (by omega) (by omega), z_if, z_if, z_ix (by omega), (hl i (by omega)).1, (hl i (by omega)).2, nI_1, nI_1]
      split
      · rename_i e
        rw [if_pos e] at h1
        split
        · rename_i e; rw [if_pos e] at h1; exact h1
        · rename_i e; rw [if_neg e] at h1; exact h1
      · rename_i e
        rw [if_neg e] at h1
        exact h1
  exact key m 0 (by omega)
theorem nI_a0 (a : Nat) : nI a + 0 = nI a := nI_add a 0
theorem z_8m (i : Nat) : 8 * nI i = nI (8 * i) := pk_mul 8 i
theorem z_8a {i : Nat} (j : Nat) {y : Int32} (hy : y = nI j) : 8 * nI i + y = nI (8 * i + j) := by
  rw [z_8m, hy, nI_add]
theorem m_lettersOf {m : Nat} {x y : Int32} (hm : m ≤ 12) (h2 : M 25 0 16 = nI m) : am_run (am_I2 E) mI_Mo_lettersOf [.inr (.inl (some (25, 0))), .inl x, .inl y] M = some (some (.inl (nI (cN (M 38 0) x y m))), M) := by
  rw [rq_Mo_lettersOf]
  have key : ∀ j i, i + j = m → am_ex (am_I2 E) mI_Mo_lettersOf 5 [some (.inr (.inl (some (25, 0)))), some (.inl x), some (.inl y), some (.inl (nI (cN (M 38 0) x y i))), some (.inl (nI i))] [] M = some (some (.inl (nI (cN (M 38 0) x y m))), M) := by
    intro j
    induction j with
    | zero =>
      intro i hi
      rw [eq_Mo_lettersOf_5, h2, if_neg (nI_nlt (by omega) (by omega)), show i = m by omega]
    | succ j ih =>
      intro i hi
      have h1 := ih (i + 1) (by omega)
      rw [cN_succ] at h1
      rw [eq_Mo_lettersOf_5, h2, if_pos (nI_lt (by omega) (by omega)), z_8a 3 (y := 3) rfl, z_8m, z_in (by omega) (by omega), z_if, z_in (by omega) (by omega), z_if, z_ix (by omega), z_ix (by omega), nI_1, nI_1, nI_a0]
      split
      · rename_i e
        rw [if_pos e] at h1
        split
        · rename_i e; rw [if_pos e] at h1; exact h1
        · rename_i e; rw [if_neg e] at h1; exact h1
      · rename_i e
        rw [if_neg e] at h1
        exact h1
  exact key m 0 (by omega)
end
