/-! calls: table, ready, count; stale letters -/
/-- lines of a flow in a table -/
def tb (r w : Int32) (b : Bool) : Nat := (if r = -1 then 0 else 1) + (if b = true then (if w = -1 then 0 else 1) else 0)
theorem tb_le (r w : Int32) (b : Bool) : tb r w b ≤ 2 := by
  unfold tb
  repeat' split
  all_goals omega
/-- lines of a table, by the class's cells -/
def tb1 (M : am_M) (u k : Nat) : Nat := tb (rl (M 5 k) (M 6 k) (M 4 k 6) u) (M 6 k u) (!(decide (M 4 k 7 = 0)))
def tb2 (M : am_M) (r : Int32) (u k : Nat) : Nat := tb (rl (fun u => M 31 0 (8 * k + u)) (fun u => M 32 0 (8 * k + u)) (M 33 0 k) u) (M 32 0 (8 * k + u)) (!(decide (M 34 0 k = 0)) || decide (nI k = r))
def gt (a : Nat → Nat) : Nat → Nat
  | 0 => 0
  | u + 1 => if gt a u < a u then a u else gt a u
theorem gt_succ (a : Nat → Nat) (u : Nat) : gt a (u + 1) = if gt a u < a u then a u else gt a u := rfl
theorem gt_le {a : Nat → Nat} {b : Nat} (h : ∀ u, a u ≤ b) : ∀ u, gt a u ≤ b := by
  intro u
  induction u with
  | zero => exact Nat.zero_le _
  | succ u ih =>
    rw [gt_succ]
    split
    · exact h u
    · exact ih
theorem gt_congr {a b : Nat → Nat} : ∀ {n : Nat}, (∀ u, u < n → a u = b u) → gt a n = gt b n := by
  intro n
  induction n with
  | zero => intro _; rfl
  | succ n ih =>
    intro h
    rw [gt_succ, gt_succ, ih (fun u hu => h u (by omega)), h n (by omega)]
section
variable {E : am_E} {M : am_M} {c : Nat}
theorem c_tableAt {u : Nat} (hu : u < 8) : am_run (am_I2 E) mI_Ne_tableAt [.inr (.inl (some (1, 0))), .inl (nI u)] M = some (some (.inl (nI (tb1 M u 0 + tb1 M u 1 + tb1 M u 2))), M) := by
  rw [rq_Ne_tableAt]
  have step : ∀ k x u4, k < 3 → am_ex (am_I2 E) mI_Ne_tableAt 4 [some (.inr (.inl (some (1, 0)))), some (.inl (nI u)), some (.inl (nI x)), some (.inl (nI k)), u4] [] M = am_ex (am_I2 E) mI_Ne_tableAt 4 [some (.inr (.inl (some (1, 0)))), some (.inl (nI u)), some (.inl (nI (x + tb1 M u k))), some (.inl (nI (k + 1))), some (.inr (.inl (some (4, k))))] [] M := by
    intro k x u4 hk
    have h3 : nI k < 3 := nI_lt (b := 3) hk (by omega)
    rw [eq_Ne_tableAt_4, if_pos h3, z_in hk (by omega), z_if, z_ix (by omega), c_ruleAt hu, z_bI, c_newAt hu, z_bI, nI_1, nI_1, nI_1]
    unfold tb1 tb
    by_cases e1 : rl (M 5 k) (M 6 k) (M 4 k 6) u = -1 <;> by_cases e2 : M 4 k 7 = 0 <;> by_cases e3 : M 6 k u = -1 <;> simp [e1, e2, e3, z_bI]
  have h0 := step 0 0 none (by omega)
  have h1 := step 1 (0 + tb1 M u 0) (some (.inr (.inl (some (4, 0))))) (by omega)
  have h2 := step 2 (0 + tb1 M u 0 + tb1 M u 1) (some (.inr (.inl (some (4, 1))))) (by omega)
  refine h0.trans (h1.trans (h2.trans ?_))
  rw [eq_Ne_tableAt_4, if_neg (by decide), Nat.zero_add]
theorem nI_m1 {k : Nat} (hk : k < 2 ^ 31) : ¬ nI k = -1 := fun w => by
  have h1 : ¬ nI k < 0 := nI_pos hk
  rw [w] at h1
  exact h1 (by decide)
theorem m_tableWith {u : Nat} {r : Int32} (hu : u < 8) : am_run (am_I2 E) mI_Mo_tableWith [.inr (.inl (some (25, 0))), .inl (nI u), .inl r] M = some (some (.inl (nI (tb2 M r u 0 + tb2 M r u 1 + tb2 M r u 2))), M) := by
  rw [rq_Mo_tableWith]
  have step : ∀ k x, k < 3 → am_ex (am_I2 E) mI_Mo_tableWith 5 [some (.inr (.inl (some (25, 0)))), some (.inl (nI u)), some (.inl r), some (.inl (nI x)), some (.inl (nI k))] [] M = am_ex (am_I2 E) mI_Mo_tableWith 5 [some (.inr (.inl (some (25, 0)))), some (.inl (nI u)), some (.inl r), some (.inl (nI (x + tb2 M r u k))), some (.inl (nI (k + 1)))] [] M := by
    intro k x hk
    have h3 : nI k < 3 := nI_lt (b := 3) hk (by omega)
    rw [eq_Mo_tableWith_5, if_pos h3, z_in hk (by omega), z_if, z_ix (by omega), m_ruleBy hk hu, z_bI, z_8mul, z_in (by omega) (by omega), z_ix (by omega)]
    simp only [nI_1, nI_a0]
    unfold tb2 tb
    by_cases e1 : rl (fun u => M 31 0 (8 * k + u)) (fun u => M 32 0 (8 * k + u)) (M 33 0 k) u = -1 <;> by_cases e2 : M 34 0 k = 0 <;> by_cases e3 : M 32 0 (8 * k + u) = -1 <;> by_cases e4 : nI k = r <;> simp [e1, e2, e3, e4, z_if]
  refine (step 0 0 (by omega)).trans ((step 1 _ (by omega)).trans ((step 2 _ (by omega)).trans ?_))
  rw [eq_Mo_tableWith_5, if_neg (by decide), Nat.zero_add]
theorem tbs_le1 (u : Nat) : tb1 M u 0 + tb1 M u 1 + tb1 M u 2 ≤ 6 := by
  have h0 := tb_le (rl (M 5 0) (M 6 0) (M 4 0 6) u) (M 6 0 u) (!(decide (M 4 0 7 = 0)))
  have h1 := tb_le (rl (M 5 1) (M 6 1) (M 4 1 6) u) (M 6 1 u) (!(decide (M 4 1 7 = 0)))
  have h2 := tb_le (rl (M 5 2) (M 6 2) (M 4 2 6) u) (M 6 2 u) (!(decide (M 4 2 7 = 0)))
  unfold tb1
  omega
theorem tbs_le2 (r : Int32) (u : Nat) : tb2 M r u 0 + tb2 M r u 1 + tb2 M r u 2 ≤ 6 := by
  have h : ∀ k, tb2 M r u k ≤ 2 := fun k => tb_le _ _ _
  have h0 := h 0
  have h1 := h 1
  have h2 := h 2
  omega
theorem c_greatest {n : Nat} (hn : n ≤ 8) (hN : M 1 0 0 = nI n) : am_run (am_I2 E) mI_Ne_greatestTable [.inr (.inl (some (1, 0)))] M = some (some (.inl (nI (gt (fun u => tb1 M u 0 + tb1 M u 1 + tb1 M u 2) n))), M) := by
  rw [rq_Ne_greatestTable]
  have key : ∀ j u, u + j = n → am_ex (am_I2 E) mI_Ne_greatestTable 4 [some (.inr (.inl (some (1, 0)))), some (.inl (nI (gt (fun u => tb1 M u 0 + tb1 M u 1 + tb1 M u 2) u))), some (.inl (nI u))] [] M = some (some (.inl (nI (gt (fun u => tb1 M u 0 + tb1 M u 1 + tb1 M u 2) n))), M) := by
    intro j
    induction j with
    | zero =>
      intro u hu
      rw [eq_Ne_greatestTable_4, hN, if_neg (nI_nlt (by omega) (by omega)), show u = n by omega]
    | succ j ih =>
      intro u hu
      have h1 := ih (u + 1) (by omega)
      rw [gt_succ] at h1
      have hg := gt_le (a := fun u => tb1 M u 0 + tb1 M u 1 + tb1 M u 2) (b := 6) (fun u => tbs_le1 u) u
      have ht := tbs_le1 (M := M) u
      rw [eq_Ne_greatestTable_4, hN, if_pos (nI_lt (by omega) (by omega)), c_tableAt (by omega), z_bI, rq_Jmath_max, nI_1]
      by_cases e : gt (fun u => tb1 M u 0 + tb1 M u 1 + tb1 M u 2) u < tb1 M u 0 + tb1 M u 1 + tb1 M u 2
      · rw [if_pos e] at h1
        rw [if_pos (nI_lt e (by omega)), z_bI]
        exact h1
      · rw [if_neg e] at h1
        rw [if_neg (nI_nlt (by omega) (by omega)), z_bI]
        exact h1
  exact key n 0 (by omega)
theorem m_greatest {n : Nat} {r : Int32} (hn : n ≤ 8) (hN : M 25 0 0 = nI n) : am_run (am_I2 E) mI_Mo_greatestTable [.inr (.inl (some (25, 0))), .inl r] M = some (some (.inl (nI (gt (fun u => tb2 M r u 0 + tb2 M r u 1 + tb2 M r u 2) n))), M) := by
  rw [rq_Mo_greatestTable]
  have key : ∀ j u u4, u + j = n → am_ex (am_I2 E) mI_Mo_greatestTable 4 [some (.inr (.inl (some (25, 0)))), some (.inl r), some (.inl (nI (gt (fun u => tb2 M r u 0 + tb2 M r u 1 + tb2 M r u 2) u))), some (.inl (nI u)), u4] [] M = some (some (.inl (nI (gt (fun u => tb2 M r u 0 + tb2 M r u 1 + tb2 M r u 2) n))), M) := by
    intro j
    induction j with
    | zero =>
      intro u u4 hu
      rw [eq_Mo_greatestTable_4, hN, if_neg (nI_nlt (by omega) (by omega)), show u = n by omega]
    | succ j ih =>
      intro u u4 hu
      have h1 := fun u4 => ih (u + 1) u4 (by omega)
      have hg := gt_le (a := fun u => tb2 M r u 0 + tb2 M r u 1 + tb2 M r u 2) (b := 6) (fun u => tbs_le2 r u) u
      have ht := tbs_le2 (M := M) r u
      rw [eq_Mo_greatestTable_4, hN, if_pos (nI_lt (by omega) (by omega)), m_tableWith (by omega), z_bI, nI_1]
      by_cases e : gt (fun u => tb2 M r u 0 + tb2 M r u 1 + tb2 M r u 2) u < tb2 M r u 0 + tb2 M r u 1 + tb2 M r u 2
      · rw [gt_succ, if_pos e] at h1
        rw [if_neg (nI_ge e (by omega))]
        exact h1 _
      · rw [gt_succ, if_neg e] at h1
        rw [if_pos (nI_le (by omega) (by omega))]
        exact h1 _
  exact key n 0 none (by omega)
/-- both tables -/
theorem tb_eq {c n u : Nat} (hu : u < 8) (h4 : ∀ k, k < 3 → ∃ s g z, iG n s g z k M) (h5 : ∀ k, k < 3 → ∃ t m p d, iH c t m p d k M) {k : Nat} (hk : k < 3) : tb1 M u k = tb2 M (-1) u k := by
  obtain ⟨s, g, z, ⟨-, g1, g2, g3, g4, g5⟩⟩ := h4 k hk
  obtain ⟨t, m, p, d, f0, f1, f2, f3, f4, f5⟩ := h5 k hk
  unfold tb1 tb2
  rw [f1.1, f1.2, f2.1, f2.2, rl_congr (o := M 5 k) (w := M 6 k) (o' := fun u => M 31 0 (8 * k + u)) (w' := fun u => M 32 0 (8 * k + u)) (nI t) (g5 u hu).1, (g5 u hu).1.2, decide_eq_false (nI_m1 (by omega)), Bool.or_false]
theorem op_table (hI : Inv c M) (x : Int32) : pr E c M mI_Mx_table mI_Mo_table [.inl x] := by
  obtain ⟨n, ⟨hn, hN, hN2⟩, h2, h3, h4, h5, h6⟩ := id hI
  rcases ob_or x (n := n) (by omega) with hx | ⟨u, hu, rfl⟩
  · refine ⟨-2, M, M, ?_, ?_, Inv_mono hI⟩
    · rw [rq_Mx_table, c_isNode_n hN hx, z_bI, if_pos rfl]
    · rw [rq_Mo_table, m_isNode_n hN2 hn hx, z_bI, if_pos rfl]
  · refine ⟨nI (tb1 M u 0 + tb1 M u 1 + tb1 M u 2), M, M, ?_, ?_, Inv_mono hI⟩
    · rw [rq_Mx_table, c_isNode_s hN hn.2 hu, z_bI, if_neg z_ne10, c_tableAt (by omega), z_bI]
    · rw [rq_Mo_table, m_isNode_s hN2 hn hu, z_bI, if_neg z_ne10, m_tableWith (by omega), z_bI, tb_eq (by omega) h4 h5 (show 0 < 3 by omega), tb_eq (by omega) h4 h5 (show 1 < 3 by omega), tb_eq (by omega) h4 h5 (show 2 < 3 by omega)]
theorem up_id {a b d : Nat} {x : Int32} (h : M a b d = x) : am_up M a b d x = M := by
  funext a' b' d'
  by_cases h1 : a' = a ∧ b' = b ∧ d' = d
  · obtain ⟨rfl, rfl, rfl⟩ := h1
    rw [am_up_self, h]
  · rw [am_up_ne]
    by_cases e1 : a' = a
    · by_cases e2 : b' = b
      · exact Or.inr (Or.inr (fun e3 => h1 ⟨e1, e2, e3⟩))
      · exact Or.inr (Or.inl e2)
    · exact Or.inl e1
theorem up_up {a b d : Nat} {x y : Int32} : am_up (am_up M a b d x) a b d y = am_up M a b d y := by
  funext a' b' d'
  by_cases h1 : a' = a ∧ b' = b ∧ d' = d
  · obtain ⟨rfl, rfl, rfl⟩ := h1
    rw [am_up_self, am_up_self]
  · have h2 : a' ≠ a ∨ b' ≠ b ∨ d' ≠ d := by
      by_cases e1 : a' = a
      · by_cases e2 : b' = b
        · exact Or.inr (Or.inr (fun e3 => h1 ⟨e1, e2, e3⟩))
        · exact Or.inr (Or.inl e2)
      · exact Or.inl e1
    rw [am_up_ne h2, am_up_ne h2, am_up_ne h2]
theorem op_ready (hc : c < 2 ^ 30) (hI : Inv c M) (x : Int32) : pr E c M mI_Mx_ready mI_Mo_ready [.inl x] := by
  obtain ⟨n, ⟨hn, hN, hN2⟩, ⟨h2, sl, hs1, hs2, hsa, hsb⟩, h3, h4, h5, h6⟩ := id hI
  rcases ob_or x (n := 3) (by omega) with hx | ⟨k, hk, rfl⟩
  · refine ⟨-2, M, M, ?_, ?_, Inv_mono hI⟩
    · rw [rq_Mx_ready, c_flowAt_n hx, z_bR, eq_Mx_ready_8v0]
    · rw [rq_Mo_ready, m_isFlow_n hx, z_bI, if_pos rfl]
  · obtain ⟨t, m, p, d, hH⟩ := h5 k hk
    obtain ⟨f0, f1, f2, f3, f4, f5⟩ := id hH
    by_cases hp : p = 0
    · subst hp
      have e34 : M 34 0 k = 0 := f2.2
      have e7 : M 4 k 7 = 0 := f2.1
      by_cases ht : t = 0
      · subst ht
        have e33 : M 33 0 k = 0 := f1.2
        have e6 : M 4 k 6 = 0 := f1.1
        have hN' : (am_up M 4 k 7 1) 1 0 0 = nI n := hN
        have hs' : (am_up M 4 k 7 1) 1 0 2 = nI sl := hsa
        have A : ∀ u j, u < 8 → j < 3 → tb1 (am_up M 4 k 7 1) u j = tb2 M (nI k) u j := by
          intro u j hu hj
          obtain ⟨s, g, z, ⟨-, g1, g2, g3, g4, g5⟩⟩ := h4 j hj
          obtain ⟨t, m, p, d, f0, f1, f2, f3, f4, f5⟩ := h5 j hj
          have e : (!(decide ((am_up M 4 k 7 1) 4 j 7 = 0))) = (!(decide (M 34 0 j = 0)) || decide (nI j = nI k)) := by
            by_cases hjk : j = k
            · subst hjk
              rw [am_up_self]
              simp
            · rw [am_up_ne (Or.inr (Or.inl hjk)), f2.1, f2.2, decide_eq_false (p := nI j = nI k) (fun w => hjk ((nI_eq (by omega) (by omega)).mp w)), Bool.or_false]
          unfold tb1 tb2
          rw [e]
          show tb (rl (M 5 j) (M 6 j) (M 4 j 6) u) (M 6 j u) _ = _
          rw [f1.1, f1.2, rl_congr (o := M 5 j) (w := M 6 j) (o' := fun u => M 31 0 (8 * j + u)) (w' := fun u => M 32 0 (8 * j + u)) (nI t) (g5 u hu).1, (g5 u hu).1.2]
        have G : gt (fun u => tb1 (am_up M 4 k 7 1) u 0 + tb1 (am_up M 4 k 7 1) u 1 + tb1 (am_up M 4 k 7 1) u 2) n = gt (fun u => tb2 M (nI k) u 0 + tb2 M (nI k) u 1 + tb2 M (nI k) u 2) n := gt_congr (fun u hu => by rw [A u 0 (by omega) (by omega), A u 1 (by omega) (by omega), A u 2 (by omega) (by omega)])
        by_cases hg : nI (gt (fun u => tb2 M (nI k) u 0 + tb2 M (nI k) u 1 + tb2 M (nI k) u 2) n) ≤ nI sl
        · refine ⟨nI (gt (fun u => tb2 M (nI k) u 0 + tb2 M (nI k) u 1 + tb2 M (nI k) u 2) n), am_up M 4 k 7 1, am_up (am_up M 4 k 7 1) 34 0 k 1, ?_, ?_, Inv_ph (q := 1) hc hI hH (by omega)⟩
          · rw [rq_Mx_ready, c_flowAt_s hk, z_bR, eq_Mx_ready_8v1, if_pos e7, if_pos e6, c_greatest hn.2 hN', z_bI, hs', G, if_pos hg]
          · have e34' : (am_up M 4 k 7 1) 34 0 k = 0 := e34
            have e33' : (am_up M 4 k 7 1) 33 0 k = 0 := e33
            have hsb' : (am_up M 4 k 7 1) 25 0 9 = nI sl := hsb
            have hN2' : (am_up M 4 k 7 1) 25 0 0 = nI n := hN2
            have hN2'' : (am_up (am_up M 4 k 7 1) 34 0 k 1) 25 0 0 = nI n := hN2
            have G2 : gt (fun u => tb2 (am_up (am_up M 4 k 7 1) 34 0 k 1) (-1) u 0 + tb2 (am_up (am_up M 4 k 7 1) 34 0 k 1) (-1) u 1 + tb2 (am_up (am_up M 4 k 7 1) 34 0 k 1) (-1) u 2) n = gt (fun u => tb2 M (nI k) u 0 + tb2 M (nI k) u 1 + tb2 M (nI k) u 2) n := by
              have B : ∀ u j, j < 3 → tb2 (am_up (am_up M 4 k 7 1) 34 0 k 1) (-1) u j = tb2 M (nI k) u j := by
                intro u j hj
                have e : (!(decide ((am_up (am_up M 4 k 7 1) 34 0 k 1) 34 0 j = 0)) || decide (nI j = -1)) = (!(decide (M 34 0 j = 0)) || decide (nI j = nI k)) := by
                  rw [decide_eq_false (nI_m1 (k := j) (by omega)), Bool.or_false]
                  by_cases hjk : j = k
                  · subst hjk
                    rw [am_up_self]
                    simp
                  · rw [am_up_ne (Or.inr (Or.inr hjk)), decide_eq_false (p := nI j = nI k) (fun w => hjk ((nI_eq (by omega) (by omega)).mp w)), Bool.or_false]
                    rfl
                unfold tb2
                rw [e]
                rfl
              exact gt_congr (fun u hu => by rw [B u 0 (by omega), B u 1 (by omega), B u 2 (by omega)])
            rw [rq_Mo_ready, m_isFlow_s hk, z_bI, if_neg z_ne10, z_in hk (by decide), z_if, z_ix (by omega), if_pos e34', z_if, if_pos e33', m_greatest hn.2 hN2', z_bI, hsb', if_pos (show nI (gt (fun u => tb2 (am_up M 4 k 7 1) (nI k) u 0 + tb2 (am_up M 4 k 7 1) (nI k) u 1 + tb2 (am_up M 4 k 7 1) (nI k) u 2) n) ≤ nI sl from hg), z_if, m_greatest hn.2 hN2'', z_bI, G2]
        · refine ⟨-5, M, M, ?_, ?_, Inv_mono hI⟩
          · rw [rq_Mx_ready, c_flowAt_s hk, z_bR, eq_Mx_ready_8v1, if_pos e7, if_pos e6, c_greatest hn.2 hN', z_bI, hs', G, if_neg hg, up_up, up_id e7]
          · rw [rq_Mo_ready, m_isFlow_s hk, z_bI, if_neg z_ne10, z_in hk (by decide), z_if, z_ix (by omega), if_pos e34, z_if, if_pos e33, m_greatest hn.2 hN2, z_bI, hsb, if_neg hg]
      · have ht0 : ¬ nI t = 0 := nI_ne0 (by omega) (by have := f0.1; omega)
        refine ⟨-4, M, M, ?_, ?_, Inv_mono hI⟩
        · rw [rq_Mx_ready, c_flowAt_s hk, z_bR, eq_Mx_ready_8v1, if_pos e7, f1.1, if_neg ht0]
        · rw [rq_Mo_ready, m_isFlow_s hk, z_bI, if_neg z_ne10, z_in hk (by decide), z_if, z_ix (by omega), if_pos e34, z_if, f1.2, if_neg ht0]
    · refine ⟨-4, M, M, ?_, ?_, Inv_mono hI⟩
      · rw [rq_Mx_ready, c_flowAt_s hk, z_bR, eq_Mx_ready_8v1, f2.1, if_neg (p_ne0 f0.2.2.2.1 hp)]
      · rw [rq_Mo_ready, m_isFlow_s hk, z_bI, if_neg z_ne10, z_in hk (by decide), z_if, z_ix (by omega), f2.2, if_neg (p_ne0 f0.2.2.2.1 hp)]
theorem ite_ex {P : Prop} [Decidable P] {A B : Option (Option am_V × am_M)} {N : am_M} (hA : ∃ v : Int32, A = some (some (.inl v), N)) (hB : ∃ v : Int32, B = some (some (.inl v), N)) : ∃ v : Int32, (if P then A else B) = some (some (.inl v), N) := by
  by_cases h : P
  · rw [if_pos h]; exact hA
  · rw [if_neg h]; exact hB
def lk (a : Nat → Int32) : Nat → Nat
  | 0 => 0
  | i + 1 => lk a i + (if a i ≤ 0 then 0 else 1)
theorem lk_succ (a : Nat → Int32) (i : Nat) : lk a (i + 1) = lk a i + (if a i ≤ 0 then 0 else 1) := rfl
theorem lk_congr {a b : Nat → Int32} : ∀ {n : Nat}, (∀ u, u < n → a u = b u) → lk a n = lk b n := by
  intro n
  induction n with
  | zero => intro _; rfl
  | succ n ih =>
    intro h
    rw [lk_succ, lk_succ, ih (fun u hu => h u (by omega)), h n (by omega)]
theorem c_links : am_run (am_I2 E) mI_Ne_linkCount [.inr (.inl (some (1, 0)))] M = some (some (.inl (nI (lk (M 2 0) 64))), M) := by
  rw [rq_Ne_linkCount]
  have key : ∀ j i, i + j = 64 → am_ex (am_I2 E) mI_Ne_linkCount 4 [some (.inr (.inl (some (1, 0)))), some (.inl (nI (lk (M 2 0) i))), some (.inl (nI i))] [] M = some (some (.inl (nI (lk (M 2 0) 64))), M) := by
    intro j
    induction j with
    | zero =>
      intro i hi
      have h8 : ¬ nI i < 64 := nI_nlt (b := 64) (by omega) (by omega)
      rw [eq_Ne_linkCount_4, if_neg h8, show i = 64 by omega]
    | succ j ih =>
      intro i hi
      have h8 : nI i < 64 := nI_lt (b := 64) (by omega) (by omega)
      have h1 := ih (i + 1) (by omega)
      rw [lk_succ] at h1
      rw [eq_Ne_linkCount_4, if_pos h8, z_in (by omega) (by omega), z_if, z_ix (by omega), nI_1, nI_1]
      split
      · rename_i e; rw [if_pos e] at h1; exact h1
      · rename_i e; rw [if_neg e] at h1; exact h1
  exact key 64 0 (by omega)
theorem m_links : am_run (am_I2 E) mI_Mo_links [.inr (.inl (some (25, 0)))] M = some (some (.inl (nI (lk (M 26 0) 64))), M) := by
  rw [rq_Mo_links]
  have key : ∀ j i, i + j = 64 → am_ex (am_I2 E) mI_Mo_links 4 [some (.inr (.inl (some (25, 0)))), some (.inl (nI (lk (M 26 0) i))), some (.inl (nI i))] [] M = some (some (.inl (nI (lk (M 26 0) 64))), M) := by
    intro j
    induction j with
    | zero =>
      intro i hi
      have h8 : ¬ nI i < 64 := nI_nlt (b := 64) (by omega) (by omega)
      rw [eq_Mo_links_4, if_neg h8, show i = 64 by omega]
    | succ j ih =>
      intro i hi
      have h8 : nI i < 64 := nI_lt (b := 64) (by omega) (by omega)
      have h1 := ih (i + 1) (by omega)
      rw [lk_succ] at h1
      rw [eq_Mo_links_4, if_pos h8, z_in (by omega) (by omega), z_if, z_ix (by omega), nI_1, nI_1, nI_a0]
      split
      · rename_i e; rw [if_pos e] at h1; exact h1
      · rename_i e; rw [if_neg e] at h1; exact h1
  exact key 64 0 (by omega)
theorem op_count (hI : Inv c M) (x : Int32) : pr E c M mI_Mx_count mI_Mo_count [.inl x] := by
  obtain ⟨n, ⟨hn, hN, hN2⟩, ⟨⟨w, hw, hwa, hwb⟩, sl, hs1, hs2, hsa, hsb⟩, h3, h4, h5, ⟨m, hL⟩, ⟨c1, c2, c3, c4⟩, ⟨l, hl, hla, hlb⟩, hX⟩ := id hI
  have hlk : lk (M 2 0) 64 = lk (M 26 0) 64 := lk_congr (fun u hu => by
    obtain ⟨r, -, e1, e2⟩ := h3 u hu
    rw [e1, e2])
  have hgt : gt (fun u => tb1 M u 0 + tb1 M u 1 + tb1 M u 2) n = gt (fun u => tb2 M (-1) u 0 + tb2 M (-1) u 1 + tb2 M (-1) u 2) n := gt_congr (fun u hu => by
    rw [tb_eq (by omega) h4 h5 (show 0 < 3 by omega), tb_eq (by omega) h4 h5 (show 1 < 3 by omega), tb_eq (by omega) h4 h5 (show 2 < 3 by omega)])
  have key : ∃ v, am_run (am_I2 E) mI_Mx_count [.inr (.inl (some (0, 0))), .inl x] M = some (some (.inl v), M) ∧ am_run (am_I2 E) mI_Mo_count [.inr (.inl (some (25, 0))), .inl x] M = some (some (.inl v), M) := by
    rw [rq_Mx_count, rq_Mo_count, c_links, m_links, c_greatest hn.2 hN, m_greatest hn.2 hN2, z_bI, z_bI, z_bI, z_bI, hlk, hgt, hN, hN2, hwa, hwb, hsa, hsb, hL.2.1.1, hL.2.1.2, c1, c2, c3, c4, hla, hlb]
    have dup : ∀ A : Option (Option am_V × am_M), (∃ v : Int32, A = some (some (.inl v), M)) → ∃ v : Int32, A = some (some (.inl v), M) ∧ A = some (some (.inl v), M) := fun A h => by obtain ⟨v, h⟩ := h; exact ⟨v, h, h⟩
    apply dup
    repeat (first | exact ⟨_, rfl⟩ | refine ite_ex ⟨_, rfl⟩ ?_)
  obtain ⟨v, e1, e2⟩ := key
  exact ⟨v, M, M, e1, e2, Inv_mono hI⟩
/-- stale letters of a flow -/
def sN (a : Nat → Int32) (k D : Int32) : Nat → Bool
  | 0 => false
  | i + 1 => sN a k D i || (decide (a (8 * i) = k) && decide (a (8 * i + 4) < D))
theorem sN_succ (a : Nat → Int32) (k D : Int32) (i : Nat) : sN a k D (i + 1) = (sN a k D i || (decide (a (8 * i) = k) && decide (a (8 * i + 4) < D))) := rfl
theorem sN_le {a : Nat → Int32} {k D : Int32} {i : Nat} (h : sN a k D i = true) : ∀ j, i ≤ j → sN a k D j = true := by
  intro j
  induction j with
  | zero => intro hj; rw [show i = 0 by omega] at h; exact h
  | succ j ih =>
    intro hj
    by_cases e : i = j + 1
    · rw [← e]; exact h
    · rw [sN_succ, ih (by omega)]; rfl
end
