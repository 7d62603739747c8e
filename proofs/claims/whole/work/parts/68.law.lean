/-! the law's loop: every call answers alike -/
theorem law_le {L c : Nat} (hL : L ≤ 2048) (hc : c < 2 ^ 20) : nI (4 * c) ≤ (Int32.ofNat L) - 4 ↔ 4 * c + 4 ≤ L := by
  show nI (4 * c) ≤ nI L - 4 ↔ _
  rcases Nat.lt_or_ge L 4 with h | h
  · have hneg : ∀ L, L < 4 → nI L - 4 < 0 := by decide
    constructor
    · intro w
      exact absurd (Int32.lt_of_le_of_lt w (hneg L h)) (nI_pos (by omega))
    · intro w
      omega
  · have e : nI L - 4 = nI (L - 4) := pk_sub (a := L) (b := 4) h
    rw [e, nI_leI (by omega) (by omega)]
    omega
set_option maxHeartbeats 4000000 in
set_option maxRecDepth 20000 in
theorem law_loop {E : am_E} (hE : E.1 ≤ 2048) : ∀ j c M, E.1 ≤ 4 * c + 4 * j → c + j ≤ 1000 → Inv c M → ∃ M', am_ex (am_I2 E) mI_Law_law 18 [some (.inr (.inl (some (97, 0)))), some (.inr (.inl (some (0, 0)))), some (.inr (.inl (some (25, 0)))), some (.inl (nI (4 * c)))] [] M = some (some (.inl 1), M') := by
  intro j
  induction j with
  | zero =>
    intro c M hj hc hI
    refine ⟨M, ?_⟩
    rw [eq_Law_law_18, if_neg (fun w => by have := (law_le hE (by omega)).mp w; omega)]
  | succ j ih =>
    intro c M hj hc hI
    by_cases hle : 4 * c + 4 ≤ E.1
    · have hc30 : c < 2 ^ 30 := by omega
      have x1 : nI (4 * c) + 1 = nI (4 * c + 1) := nI_add (4 * c) 1
      have x2 : nI (4 * c) + 2 = nI (4 * c + 2) := nI_add (4 * c) 2
      have x3 : nI (4 * c) + 3 = nI (4 * c + 3) := nI_add (4 * c) 3
      have x4 : nI (4 * c) + 4 = nI (4 * (c + 1)) := nI_add (4 * c) 4
      have i0 : am_in (nI (4 * c)) E.1 = true := z_in (by omega) (by omega)
      have i1 : am_in (nI (4 * c + 1)) E.1 = true := z_in (by omega) (by omega)
      have i2 : am_in (nI (4 * c + 2)) E.1 = true := z_in (by omega) (by omega)
      have i3 : am_in (nI (4 * c + 3)) E.1 = true := z_in (by omega) (by omega)
      have fin : ∀ a b k, pr E c M a b k → ∃ M', am_bI (am_run (am_I2 E) a (.inr (.inl (some (0, 0))) :: k) M) (fun v1 M1 => am_bI (am_run (am_I2 E) b (.inr (.inl (some (25, 0))) :: k) M1) (fun v2 M2 => if v1 = v2 then (am_ex (am_I2 E) mI_Law_law 18 [some (.inr (.inl (some (97, 0)))), some (.inr (.inl (some (0, 0)))), some (.inr (.inl (some (25, 0)))), some (.inl (nI (4 * (c + 1))))] [] M2) else (some (some (.inl 0), M2)))) = some (some (.inl 1), M') := by
        intro a b k h
        obtain ⟨v, M1, M2, e1, e2, hI2⟩ := h
        obtain ⟨M', h⟩ := ih (c + 1) M2 (by omega) (by omega) hI2
        refine ⟨M', ?_⟩
        rw [e1, z_bI, e2, z_bI, if_pos rfl]
        exact h
      rw [eq_Law_law_18, if_pos ((law_le hE (by omega)).mpr hle), x1, x2, x3, x4, i0, z_if]
      simp only [i1, i2, i3, z_if]
      by_cases h0 : E.2 (am_ix (nI (4 * c))) &&& 31 = 0
      · rw [if_pos h0]
        exact fin _ _ _ (op_write hI _)
      rw [if_neg h0]
      by_cases h1 : E.2 (am_ix (nI (4 * c))) &&& 31 = 1
      · rw [if_pos h1]
        exact fin _ _ _ (op_erase hI )
      rw [if_neg h1]
      by_cases h2 : E.2 (am_ix (nI (4 * c))) &&& 31 = 2
      · rw [if_pos h2]
        exact fin _ _ _ (op_fault hI )
      rw [if_neg h2]
      by_cases h3 : E.2 (am_ix (nI (4 * c))) &&& 31 = 3
      · rw [if_pos h3]
        exact fin _ _ _ (op_rules hI )
      rw [if_neg h3]
      by_cases h4 : E.2 (am_ix (nI (4 * c))) &&& 31 = 4
      · rw [if_pos h4]
        exact fin _ _ _ (op_room hI _ _)
      rw [if_neg h4]
      by_cases h5 : E.2 (am_ix (nI (4 * c))) &&& 31 = 5
      · rw [if_pos h5]
        exact fin _ _ _ (op_load hI _ _)
      rw [if_neg h5]
      by_cases h6 : E.2 (am_ix (nI (4 * c))) &&& 31 = 6
      · rw [if_pos h6]
        exact fin _ _ _ (op_flow hI _ _)
      rw [if_neg h6]
      by_cases h7 : E.2 (am_ix (nI (4 * c))) &&& 31 = 7
      · rw [if_pos h7]
        exact fin _ _ _ (op_rule hI _ _ _)
      rw [if_neg h7]
      by_cases h8 : E.2 (am_ix (nI (4 * c))) &&& 31 = 8
      · rw [if_pos h8]
        exact fin _ _ _ (op_table hI _)
      rw [if_neg h8]
      by_cases h9 : E.2 (am_ix (nI (4 * c))) &&& 31 = 9
      · rw [if_pos h9]
        exact fin _ _ _ (op_link hI _ _ _)
      rw [if_neg h9]
      by_cases h10 : E.2 (am_ix (nI (4 * c))) &&& 31 = 10
      · rw [if_pos h10]
        exact fin _ _ _ (op_want hI _)
      rw [if_neg h10]
      by_cases h11 : E.2 (am_ix (nI (4 * c))) &&& 31 = 11
      · rw [if_pos h11]
        exact fin _ _ _ (op_slots hI _)
      rw [if_neg h11]
      by_cases h12 : E.2 (am_ix (nI (4 * c))) &&& 31 = 12
      · rw [if_pos h12]
        exact fin _ _ _ (op_turn hc30 hI _ _)
      rw [if_neg h12]
      by_cases h13 : E.2 (am_ix (nI (4 * c))) &&& 31 = 13
      · rw [if_pos h13]
        exact fin _ _ _ (op_force hc30 hI _ _)
      rw [if_neg h13]
      by_cases h14 : E.2 (am_ix (nI (4 * c))) &&& 31 = 14
      · rw [if_pos h14]
        exact fin _ _ _ (op_advance hc30 hI _)
      rw [if_neg h14]
      by_cases h15 : E.2 (am_ix (nI (4 * c))) &&& 31 = 15
      · rw [if_pos h15]
        exact fin _ _ _ (op_reverse hc30 hI _)
      rw [if_neg h15]
      by_cases h16 : E.2 (am_ix (nI (4 * c))) &&& 31 = 16
      · rw [if_pos h16]
        exact fin _ _ _ (op_ready hc30 hI _)
      rw [if_neg h16]
      by_cases h17 : E.2 (am_ix (nI (4 * c))) &&& 31 = 17
      · rw [if_pos h17]
        exact fin _ _ _ (op_flip hc30 hI _)
      rw [if_neg h17]
      by_cases h18 : E.2 (am_ix (nI (4 * c))) &&& 31 = 18
      · rw [if_pos h18]
        exact fin _ _ _ (op_finish hc30 hI _)
      rw [if_neg h18]
      by_cases h19 : E.2 (am_ix (nI (4 * c))) &&& 31 = 19
      · rw [if_pos h19]
        exact fin _ _ _ (op_cancel hc30 hI _)
      rw [if_neg h19]
      by_cases h20 : E.2 (am_ix (nI (4 * c))) &&& 31 = 20
      · rw [if_pos h20]
        exact fin _ _ _ (op_send hc30 hI _)
      rw [if_neg h20]
      by_cases h21 : E.2 (am_ix (nI (4 * c))) &&& 31 = 21
      · rw [if_pos h21]
        exact fin _ _ _ (op_tick hI )
      rw [if_neg h21]
      by_cases h22 : E.2 (am_ix (nI (4 * c))) &&& 31 = 22
      · rw [if_pos h22]
        exact fin _ _ _ (op_sound hI _ _)
      rw [if_neg h22]
      by_cases h23 : E.2 (am_ix (nI (4 * c))) &&& 31 = 23
      · rw [if_pos h23]
        exact fin _ _ _ (op_walk hI _ _ _)
      rw [if_neg h23]
      by_cases h24 : E.2 (am_ix (nI (4 * c))) &&& 31 = 24
      · rw [if_pos h24]
        exact fin _ _ _ (op_safe hI _ _ _)
      rw [if_neg h24]
      by_cases h25 : E.2 (am_ix (nI (4 * c))) &&& 31 = 25
      · rw [if_pos h25]
        exact fin _ _ _ (op_plan hI _ _)
      rw [if_neg h25]
      by_cases h26 : E.2 (am_ix (nI (4 * c))) &&& 31 = 26
      · rw [if_pos h26]
        exact fin _ _ _ (op_rounds hI _)
      rw [if_neg h26]
      by_cases h27 : E.2 (am_ix (nI (4 * c))) &&& 31 = 27
      · rw [if_pos h27]
        exact fin _ _ _ (op_order hI _)
      rw [if_neg h27]
      by_cases h28 : E.2 (am_ix (nI (4 * c))) &&& 31 = 28
      · rw [if_pos h28]
        exact fin _ _ _ (op_waits hI _ _)
      rw [if_neg h28]
      by_cases h29 : E.2 (am_ix (nI (4 * c))) &&& 31 = 29
      · rw [if_pos h29]
        exact fin _ _ _ (op_letter hI _ _)
      rw [if_neg h29]
      by_cases h30 : E.2 (am_ix (nI (4 * c))) &&& 31 = 30
      · rw [if_pos h30]
        exact fin _ _ _ (op_count hI _)
      rw [if_neg h30]
      exact ih (c + 1) M (by omega) (by omega) (Inv_mono hI)
    · refine ⟨M, ?_⟩
      rw [eq_Law_law_18, if_neg (fun w => by have := (law_le hE (by omega)).mp w; omega)]
theorem law_all : ∀ E : am_E, E.1 ≤ 2048 → ∃ M' : am_M, am_ex (am_I2 E) mI_Law_law 18 [some (.inr (.inl (some (97, 0)))), some (.inr (.inl (some (0, 0)))), some (.inr (.inl (some (25, 0)))), some (.inl 0)] [] am_M0 = some (some (.inl 1), M') := fun E hE => law_loop hE 512 0 am_M0 (by omega) (by omega) Inv_0
