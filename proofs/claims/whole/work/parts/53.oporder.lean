/-! call: order -/
section
variable {E : am_E} {M B : am_M} {c : Nat}
/-- whether a flow has a plan, others being moved -/
noncomputable def can (B : am_M) (n w f ah : Nat) : Bool := (LL (mv (B 5 f) (B 6 f)) (sB B n f w (WT B (2 ^ f) ah)) 8 (B 4 f 6).toNatClampNeg).isSome
theorem c_can {n w f ah : Nat} {y : Int32} (hf3 : f < 3) (hN : iN n B) (hR : iR B) (hG : ∀ k, k < 3 → iG n (sr B k) (gl B k) (sz B k) k B) (hH : ∀ k, k < 3 → ∃ t m p d, iH c t m p d k B) (hf : fr B M) (hw1 : B 1 0 1 = nI w) (hw16 : w < 16) (hy : y = nI ah) : ∃ N, am_run (am_I2 E) mI_Pl_findPlan [.inr (.inl (some (12, 0))), .inl (nI f), .inl y] M = some (some (.inl (aI (can B n w f ah))), N) ∧ fr B N := by
  have hTT : ∀ j, j < 3 → B 4 j 6 = B 33 0 j := fun j hj => by
    obtain ⟨t, m, p, d, -, f1, -⟩ := hH j hj
    rw [f1.1, f1.2]
  obtain ⟨t, m, p, d, f0, f1, -⟩ := hH f hf3
  obtain ⟨N1, k1, k2, -⟩ := c_findPlan (E := E) (B := B) (M := M) (mo := ah) (y := y) hf3 hN hR hG hf hTT f1.1 f0.2.1 hw1 hw16 hy rfl rfl
  refine ⟨N1, ?_, fr_P hf k2⟩
  rw [k1]
  unfold can
  rw [f1.1, nI_clamp (by omega)]
theorem m_can {n w f ah : Nat} {y : Int32} (hf3 : f < 3) (hN : iN n B) (hR : iR B) (hG : ∀ k, k < 3 → iG n (sr B k) (gl B k) (sz B k) k B) (hH : ∀ k, k < 3 → ∃ t m p d, iH c t m p d k B) (hf : fr B M) (hw1 : B 25 0 8 = nI w) (hw16 : w < 16) (hy : y = nI ah) : ∃ N, am_run (am_I2 E) mI_Mo_canGo [.inr (.inl (some (25, 0))), .inl (nI f), .inl y] M = some (some (.inl (aI (can B n w f ah))), N) ∧ fr B N := by
  subst hy
  rw [rq_Mo_canGo]
  have loop : ∀ j i N, i + j = 3 → fr B N → (∀ g, g < i → N 45 0 g = if ah.testBit g = true then nI (mv (B 5 g) (B 6 g)) else B 33 0 g) → ∃ N', am_ex (am_I2 E) mI_Mo_canGo 2 [some (.inr (.inl (some (25, 0)))), some (.inl (nI f)), some (.inl (nI ah)), some (.inl (nI i))] [] N = am_ex (am_I2 E) mI_Mo_canGo 2 [some (.inr (.inl (some (25, 0)))), some (.inl (nI f)), some (.inl (nI ah)), some (.inl (nI 3))] [] N' ∧ fr B N' ∧ ∀ g, g < 3 → N' 45 0 g = if ah.testBit g = true then nI (mv (B 5 g) (B 6 g)) else B 33 0 g := by
    intro j
    induction j with
    | zero =>
      intro i N hi hfN h
      rw [show i = 3 by omega] at h ⊢
      exact ⟨N, rfl, hfN, h⟩
    | succ j ih =>
      intro i N hi hfN h
      have h3 : nI i < 3 := nI_lt (b := 3) (by omega) (by omega)
      have hnext : ∀ v : Int32, v = (if ah.testBit i = true then nI (mv (B 5 i) (B 6 i)) else B 33 0 i) → ∀ g, g < i + 1 → (am_up N 45 0 i v) 45 0 g = if ah.testBit g = true then nI (mv (B 5 g) (B 6 g)) else B 33 0 g := by
        intro v hv g hg
        by_cases e : g = i
        · subst e; rw [am_up_self]; exact hv
        · rw [am_up_ne (Or.inr (Or.inr e))]; exact h g (by omega)
      rw [eq_Mo_canGo_2, if_pos h3, m_has (by omega), z_bI, bt_nI _ _ (by omega), nI_1]
      cases hb : ah.testBit i with
      | true =>
        rw [show (if true = true then (1 : Int32) else 0) = 1 from rfl, if_neg z_ne10, m_movers (by omega), mvr hfN (hG i (by omega)), z_bI, z_in (by omega) (by omega), z_if, z_ix (by omega)]
        exact ih (i + 1) _ (by omega) (fr_up hfN rfl) (hnext _ (by rw [hb]; rfl))
      | false =>
        rw [show (if false = true then (1 : Int32) else 0) = 0 from rfl, if_pos rfl, z_in (by omega) (by omega), z_if, z_if, z_ix (by omega)]
        exact ih (i + 1) _ (by omega) (fr_up hfN rfl) (hnext _ (by rw [hb]; exact hfN 33 0 i rfl))
  obtain ⟨N1, k1, k2, k3⟩ := loop 3 0 M rfl hf (fun g hg => absurd hg (by omega))
  obtain ⟨N4, m2, m5, m3⟩ := m_needsT (E := E) (B := B) (M := N1) (m := ah) hf3 hf3 hN hR (fun k hk => ⟨_, _, _, hG k hk⟩) k2 k3
  rw [Nat.or_self] at m3
  have hf4 : fr B N4 := fr_46 k2 m5
  obtain ⟨N5, q1, q2, q3, q4⟩ := m_plans (E := E) (B := B) (M := N4) (A := mv (B 5 f) (B 6 f)) (S := sB B n f w (WT B (2 ^ f) ah)) hf3 hN hR (hG f hf3) hf4 (WT_le hG) m3 hw1 hw16 rfl rfl
  have hf5 : fr B N5 := fS_tr hf4 (fS_mono SQ_scr q2)
  obtain ⟨t, m, p, d, f0, f1, -⟩ := hH f hf3
  have e33 : N5 33 0 f = nI t := (hf5 33 0 f rfl).trans f1.2
  refine ⟨N5, ?_, hf5⟩
  refine Eq.trans k1 ?_
  unfold can
  rw [eq_Mo_canGo_2, if_neg (by decide), m2, z_bV, q1, z_bV, z_in hf3 (by omega), z_if, z_ix (by omega), e33, z_in f0.1 (by omega), z_if, z_ix (by have := f0.1; omega), q3 t f0.2.1, f1.1, nI_clamp (by omega)]
  cases hl : LL (mv (B 5 f) (B 6 f)) (sB B n f w (WT B (2 ^ f) ah)) 8 t with
  | none => rw [oI_none, if_pos rfl]; rfl
  | some D => rw [oI_some, if_neg (nI_m1 (LL_31 (by omega) hl))]; rfl
/-- an order of three -/
noncomputable def goes (B : am_M) (n w a b d : Nat) : Bool := can B n w a 0 && (can B n w b (2 ^ a) && can B n w d (2 ^ a ||| 2 ^ b))
theorem c_row {n w j r a b d : Nat} {u3 u4 : Option am_V} (hj : j < 3) (hr : r < 6) (ha : a < 3) (hb : b < 3) (hd : d < 3) (oa : am_or.getD (3 * r) 0 = nI a) (ob' : am_or.getD (3 * r + 1) 0 = nI b) (od : am_or.getD (3 * r + 2) 0 = nI d) (hN : iN n B) (hR : iR B) (hG : ∀ k, k < 3 → iG n (sr B k) (gl B k) (sz B k) k B) (hH : ∀ k, k < 3 → ∃ t m p d, iH c t m p d k B) (hf : fr B M) (hw1 : B 1 0 1 = nI w) (hw16 : w < 16) : ∃ N v3 v4, fr B N ∧ am_ex (am_I2 E) mI_Mx_order 14 [some (.inr (.inl (some (0, 0)))), some (.inl (nI j)), some (.inl (nI (3 * r))), u3, u4] [] M = if goes B n w a b d = true then some (some (.inl (am_or.getD (3 * r + j) 0)), N) else am_ex (am_I2 E) mI_Mx_order 14 [some (.inr (.inl (some (0, 0)))), some (.inl (nI j)), some (.inl (nI (3 * (r + 1)))), v3, v4] [] N := by
  have e3 : nI (3 * r) + 3 = nI (3 * (r + 1)) := by
    have := nI_add (3 * r) 3
    rw [show 3 * r + 3 = 3 * (r + 1) by omega] at this
    exact this
  have hle : nI (3 * (r + 1)) ≤ 18 := nI_le (b := 18) (by omega) (by omega)
  have i0 : nI (3 * r) + 0 = nI (3 * r) := nI_a0 _
  have i1 : nI (3 * r) + 1 = nI (3 * r + 1) := nI_1 _
  have i2 : nI (3 * r) + 2 = nI (3 * r + 2) := nI_add (3 * r) 2
  have i1' : nI 0 + 1 = nI 1 := nI_1 _
  have s0 : (0 : Int32) ||| ((1 : Int32) <<< (nI a &&& 31)) = nI (2 ^ a) := by
    rw [nI_shl (by omega)]
    have : nI 0 ||| nI (2 ^ a) = nI (2 ^ a) := by rw [nI_or, Nat.zero_or]
    exact this
  have s1 : nI (2 ^ a) ||| ((1 : Int32) <<< (nI b &&& 31)) = nI (2 ^ a ||| 2 ^ b) := by rw [nI_shl (by omega), nI_or]
  obtain ⟨N1, k1, hf1⟩ := c_can (E := E) (M := M) (ah := 0) (y := 0) ha hN hR hG hH hf hw1 hw16 rfl
  obtain ⟨N2, k2, hf2⟩ := c_can (E := E) (M := N1) (ah := 2 ^ a) (y := nI (2 ^ a)) hb hN hR hG hH hf1 hw1 hw16 rfl
  obtain ⟨N3, k3, hf3⟩ := c_can (E := E) (M := N2) (ah := 2 ^ a ||| 2 ^ b) (y := nI (2 ^ a ||| 2 ^ b)) hd hN hR hG hH hf2 hw1 hw16 rfl
  have z0 : am_ex (am_I2 E) mI_Mx_order 14 [some (.inr (.inl (some (0, 0)))), some (.inl (nI j)), some (.inl (nI (3 * r))), u3, u4] [] M = am_ex (am_I2 E) mI_Mx_order 29 [some (.inr (.inl (some (0, 0)))), some (.inl (nI j)), some (.inl (nI (3 * r))), some (.inl 0), some (.inl 0)] [] M := by
    rw [eq_Mx_order_14, e3, if_pos hle]
  rw [z0, eq_Mx_order_29, if_pos (by decide), i0, z_in (by omega) (by omega), z_if, z_ix (by omega), oa, k1, z_bI, z_if, e3, s0]
  unfold goes
  cases h1 : can B n w a 0 with
  | false =>
    refine ⟨N1, some (.inl 0), some (.inl 0), hf1, ?_⟩
    rw [aI_f, if_pos rfl, if_neg (by decide), Bool.false_and, if_neg (by decide)]
  | true =>
    rw [aI_t, if_neg z_ne10, show (0 : Int32) + 1 = 1 from rfl, eq_Mx_order_29, if_pos (by decide), i1, z_in (by omega) (by omega), z_if, z_ix (by omega), ob', k2, z_bI, z_if, e3, s1]
    cases h2 : can B n w b (2 ^ a) with
    | false =>
      refine ⟨N2, some (.inl 1), some (.inl (nI (2 ^ a))), hf2, ?_⟩
      rw [aI_f, if_pos rfl, if_neg (by decide), Bool.false_and, Bool.and_false, if_neg (by decide)]
    | true =>
      rw [aI_t, if_neg z_ne10, show (1 : Int32) + 1 = 2 from rfl, eq_Mx_order_29, if_pos (by decide), i2, z_in (by omega) (by omega), z_if, z_ix (by omega), od, k3, z_bI, z_if, e3]
      cases h3 : can B n w d (2 ^ a ||| 2 ^ b) with
      | false =>
        refine ⟨N3, some (.inl 2), some (.inl (nI (2 ^ a ||| 2 ^ b))), hf3, ?_⟩
        rw [aI_f, if_pos rfl, if_neg (by decide), Bool.and_false, Bool.and_false, if_neg (by decide)]
      | true =>
        refine ⟨N3, none, none, hf3, ?_⟩
        rw [aI_t, if_neg z_ne10, show (2 : Int32) + 1 = 3 from rfl, eq_Mx_order_29, if_neg (by decide), if_pos rfl, nI_add, z_in (by omega) (by omega), z_if, z_ix (by omega), if_pos (by decide)]
theorem m_pair {n w j a b d : Nat} {u4 : Option am_V} (ha : a < 3) (hb : b < 3) (hd : d < 3) (hab : a ≠ b) (hd2 : (3 - nI a) - nI b = nI d) (hN : iN n B) (hR : iR B) (hG : ∀ k, k < 3 → iG n (sr B k) (gl B k) (sz B k) k B) (hH : ∀ k, k < 3 → ∃ t m p d, iH c t m p d k B) (hf : fr B M) (hw1 : B 25 0 8 = nI w) (hw16 : w < 16) : ∃ N v4, fr B N ∧ am_ex (am_I2 E) mI_Mo_order 24 [some (.inr (.inl (some (25, 0)))), some (.inl (nI j)), some (.inl (nI a)), some (.inl (nI b)), u4] [] M = if goes B n w a b d = true then (if nI j = 0 then some (some (.inl (nI a)), N) else if nI j = 1 then some (some (.inl (nI b)), N) else some (some (.inl (nI d)), N)) else am_ex (am_I2 E) mI_Mo_order 24 [some (.inr (.inl (some (25, 0)))), some (.inl (nI j)), some (.inl (nI a)), some (.inl (nI (b + 1))), v4] [] N := by
  have hb3 : nI b < 3 := nI_lt (b := 3) hb (by omega)
  have s0 : ((1 : Int32) <<< (nI a &&& 31)) = nI (2 ^ a) := nI_shl (by omega)
  have s1 : ((1 : Int32) <<< (nI a &&& 31)) ||| ((1 : Int32) <<< (nI b &&& 31)) = nI (2 ^ a ||| 2 ^ b) := by rw [nI_shl (by omega), nI_shl (by omega), nI_or]
  obtain ⟨N1, k1, hf1⟩ := m_can (E := E) (M := M) (ah := 0) (y := 0) ha hN hR hG hH hf hw1 hw16 rfl
  obtain ⟨N2, k2, hf2⟩ := m_can (E := E) (M := N1) (ah := 2 ^ a) (y := (1 : Int32) <<< (nI a &&& 31)) hb hN hR hG hH hf1 hw1 hw16 s0
  obtain ⟨N3, k3, hf3⟩ := m_can (E := E) (M := N2) (ah := 2 ^ a ||| 2 ^ b) (y := ((1 : Int32) <<< (nI a &&& 31)) ||| ((1 : Int32) <<< (nI b &&& 31))) hd hN hR hG hH hf2 hw1 hw16 s1
  rw [eq_Mo_order_24, if_pos hb3, if_neg (fun z => hab ((nI_eq (by omega) (by omega)).mp z)), k1, z_bI, hd2, nI_1]
  unfold goes
  cases h1 : can B n w a 0 with
  | false =>
    refine ⟨N1, some (.inl (nI d)), hf1, ?_⟩
    rw [aI_f, if_pos rfl, Bool.false_and, if_neg (by decide)]
  | true =>
    rw [aI_t, if_neg z_ne10, k2, z_bI]
    cases h2 : can B n w b (2 ^ a) with
    | false =>
      refine ⟨N2, some (.inl (nI d)), hf2, ?_⟩
      rw [aI_f, if_pos rfl, Bool.false_and, Bool.and_false, if_neg (by decide)]
    | true =>
      rw [aI_t, if_neg z_ne10, k3, z_bI]
      cases h3 : can B n w d (2 ^ a ||| 2 ^ b) with
      | false =>
        refine ⟨N3, some (.inl (nI d)), hf3, ?_⟩
        rw [aI_f, if_pos rfl, Bool.and_false, Bool.and_false, if_neg (by decide)]
      | true =>
        refine ⟨N3, none, hf3, ?_⟩
        rw [aI_t, if_neg z_ne10, if_pos (show (true && (true && true)) = true from rfl)]
theorem op_order (hI : Inv c M) (x : Int32) : pr E c M mI_Mx_order mI_Mo_order [.inl x] := by
  obtain ⟨n, hN, ⟨⟨w, hw16, hwa, hwb⟩, hs⟩, hR, h4, h5, h6⟩ := id hI
  have hn := hN.1
  have hG : ∀ k, k < 3 → iG n (sr M k) (gl M k) (sz M k) k M := fun k hk => by
    obtain ⟨s, g, z, h⟩ := h4 k hk
    exact iG_can hn.2 h
  rcases ob_or x (n := 3) (by omega) with hx | ⟨j, hj, rfl⟩
  · refine ⟨-3, M, M, ?_, ?_, Inv_mono hI⟩
    · rw [rq_Mx_order]
      by_cases h0 : x < 0
      · rw [if_pos h0]
      · rw [if_neg h0, if_neg]
        rcases hx with hx | hx
        · exact absurd hx h0
        · exact Int32.not_lt.mpr hx
    · rw [rq_Mo_order, m_in_n (a := 0) (b := 2) (A := Int64.ofNat 0) (B := 2) rfl rfl (ob_gt hx (by decide)), z_bI, if_pos rfl]
  · have hj2 : nI j ≤ 2 := nI_le (b := 2) (by omega) (by omega)
    have hj3 : nI j < 3 := nI_lt (b := 3) (by omega) (by omega)
    -- what both answer
    have key : ∃ v, (∃ N, fr M N ∧ am_run (am_I2 E) mI_Mx_order [.inr (.inl (some (0, 0))), .inl (nI j)] M = some (some (.inl v), N)) ∧ ∀ P, fr M P → ∃ N, fr M N ∧ am_run (am_I2 E) mI_Mo_order [.inr (.inl (some (25, 0))), .inl (nI j)] P = some (some (.inl v), N) := by
      have val : ∀ a b d r : Nat, am_or.getD (3 * r) 0 = nI a → am_or.getD (3 * r + 1) 0 = nI b → am_or.getD (3 * r + 2) 0 = nI d → ∀ N : am_M, (if nI j = 0 then (some (some (.inl (nI a)), N) : Option (Option am_V × am_M)) else if nI j = 1 then some (some (.inl (nI b)), N) else some (some (.inl (nI d)), N)) = some (some (.inl (am_or.getD (3 * r + j) 0)), N) := by
        intro a b d r oa ob' od N
        have hjj : j = 0 ∨ j = 1 ∨ j = 2 := by omega
        rcases hjj with rfl | rfl | rfl
        · rw [if_pos (by decide), Nat.add_zero, oa]
        · rw [if_neg (by decide), if_pos (by decide), ob']
        · rw [if_neg (by decide), if_neg (by decide), od]
      -- the class, row by row
      have A : am_run (am_I2 E) mI_Mx_order [.inr (.inl (some (0, 0))), .inl (nI j)] M = am_ex (am_I2 E) mI_Mx_order 14 [some (.inr (.inl (some (0, 0)))), some (.inl (nI j)), some (.inl (nI (3 * 0))), none, none] [] M := by
        rw [rq_Mx_order, if_neg (nI_pos (by omega)), if_pos hj3]
        rfl
      obtain ⟨N0, p0, q0, g0, A0⟩ := c_row (E := E) (M := M) (c := c) (n := n) (w := w) (j := j) (r := 0) (a := 0) (b := 1) (d := 2) (u3 := none) (u4 := none) hj (by omega) (by omega) (by omega) (by omega) (by decide) (by decide) (by decide) hN hR hG h5 fr_rfl hwa hw16
      obtain ⟨N1, p1, q1, g1, A1⟩ := c_row (E := E) (M := N0) (c := c) (n := n) (w := w) (j := j) (r := 1) (a := 0) (b := 2) (d := 1) (u3 := p0) (u4 := q0) hj (by omega) (by omega) (by omega) (by omega) (by decide) (by decide) (by decide) hN hR hG h5 g0 hwa hw16
      obtain ⟨N2, p2, q2, g2, A2⟩ := c_row (E := E) (M := N1) (c := c) (n := n) (w := w) (j := j) (r := 2) (a := 1) (b := 0) (d := 2) (u3 := p1) (u4 := q1) hj (by omega) (by omega) (by omega) (by omega) (by decide) (by decide) (by decide) hN hR hG h5 g1 hwa hw16
      obtain ⟨N3, p3, q3, g3, A3⟩ := c_row (E := E) (M := N2) (c := c) (n := n) (w := w) (j := j) (r := 3) (a := 1) (b := 2) (d := 0) (u3 := p2) (u4 := q2) hj (by omega) (by omega) (by omega) (by omega) (by decide) (by decide) (by decide) hN hR hG h5 g2 hwa hw16
      obtain ⟨N4, p4, q4, g4, A4⟩ := c_row (E := E) (M := N3) (c := c) (n := n) (w := w) (j := j) (r := 4) (a := 2) (b := 0) (d := 1) (u3 := p3) (u4 := q3) hj (by omega) (by omega) (by omega) (by omega) (by decide) (by decide) (by decide) hN hR hG h5 g3 hwa hw16
      obtain ⟨N5, p5, q5, g5, A5⟩ := c_row (E := E) (M := N4) (c := c) (n := n) (w := w) (j := j) (r := 5) (a := 2) (b := 1) (d := 0) (u3 := p4) (u4 := q4) hj (by omega) (by omega) (by omega) (by omega) (by decide) (by decide) (by decide) hN hR hG h5 g4 hwa hw16
      have A6 : am_ex (am_I2 E) mI_Mx_order 14 [some (.inr (.inl (some (0, 0)))), some (.inl (nI j)), some (.inl (nI (3 * (5 + 1)))), p5, q5] [] N5 = some (some (.inl (-1)), N5) := by
        rw [eq_Mx_order_14, if_neg (by decide)]
      -- the reference
      have R : ∀ P, fr M P → ∃ N, fr M N ∧ am_run (am_I2 E) mI_Mo_order [.inr (.inl (some (25, 0))), .inl (nI j)] P = some (some (.inl (if goes M n w 0 1 2 = true then am_or.getD (3 * 0 + j) 0 else if goes M n w 0 2 1 = true then am_or.getD (3 * 1 + j) 0 else if goes M n w 1 0 2 = true then am_or.getD (3 * 2 + j) 0 else if goes M n w 1 2 0 = true then am_or.getD (3 * 3 + j) 0 else if goes M n w 2 0 1 = true then am_or.getD (3 * 4 + j) 0 else if goes M n w 2 1 0 = true then am_or.getD (3 * 5 + j) 0 else -1)), N) := by
        intro P hP
        have e17 : ∀ (a : Nat) u3 u4 (N : am_M), a < 3 → am_ex (am_I2 E) mI_Mo_order 17 [some (.inr (.inl (some (25, 0)))), some (.inl (nI j)), some (.inl (nI a)), u3, u4] [] N = am_ex (am_I2 E) mI_Mo_order 24 [some (.inr (.inl (some (25, 0)))), some (.inl (nI j)), some (.inl (nI a)), some (.inl (nI 0)), u4] [] N := fun a u3 u4 N ha => by
          rw [eq_Mo_order_17, if_pos (show nI a < 3 from nI_lt (b := 3) ha (by omega))]
          rfl
        have e24 : ∀ (a : Nat) u4 (N : am_M), a < 3 → ∃ v4, am_ex (am_I2 E) mI_Mo_order 24 [some (.inr (.inl (some (25, 0)))), some (.inl (nI j)), some (.inl (nI a)), some (.inl (nI a)), u4] [] N = am_ex (am_I2 E) mI_Mo_order 24 [some (.inr (.inl (some (25, 0)))), some (.inl (nI j)), some (.inl (nI a)), some (.inl (nI (a + 1))), v4] [] N := fun a u4 N ha => by
          refine ⟨some (.inl ((3 - nI a) - nI a)), ?_⟩
          rw [eq_Mo_order_24, if_pos (show nI a < 3 from nI_lt (b := 3) ha (by omega)), if_pos rfl, nI_1]
        have eE : ∀ (a : Nat) u4 (N : am_M), am_ex (am_I2 E) mI_Mo_order 24 [some (.inr (.inl (some (25, 0)))), some (.inl (nI j)), some (.inl (nI a)), some (.inl (nI 3)), u4] [] N = am_ex (am_I2 E) mI_Mo_order 17 [some (.inr (.inl (some (25, 0)))), some (.inl (nI j)), some (.inl (nI (a + 1))), some (.inl (nI 3)), u4] [] N := fun a u4 N => by
          rw [eq_Mo_order_24, if_neg (by decide), nI_1]
        have s0 : am_run (am_I2 E) mI_Mo_order [.inr (.inl (some (25, 0))), .inl (nI j)] P = am_ex (am_I2 E) mI_Mo_order 17 [some (.inr (.inl (some (25, 0)))), some (.inl (nI j)), some (.inl (nI 0)), none, none] [] P := by
          rw [rq_Mo_order, m_in_s (a := 0) (b := 2) (A := Int64.ofNat 0) (B := 2) rfl rfl (nI_pos (by omega)) hj2, z_bI, if_neg z_ne10]
          rfl
        obtain ⟨w0, s1⟩ := e24 0 none P (by omega)
        obtain ⟨P1, w1, h1, s2⟩ := m_pair (E := E) (M := P) (c := c) (n := n) (w := w) (j := j) (a := 0) (b := 1) (d := 2) (u4 := w0) (by omega) (by omega) (by omega) (by omega) (by decide) hN hR hG h5 hP hwb hw16
        obtain ⟨P2, w2, h2, s3⟩ := m_pair (E := E) (M := P1) (c := c) (n := n) (w := w) (j := j) (a := 0) (b := 2) (d := 1) (u4 := w1) (by omega) (by omega) (by omega) (by omega) (by decide) hN hR hG h5 h1 hwb hw16
        obtain ⟨P3, w3, h3, s4⟩ := m_pair (E := E) (M := P2) (c := c) (n := n) (w := w) (j := j) (a := 1) (b := 0) (d := 2) (u4 := w2) (by omega) (by omega) (by omega) (by omega) (by decide) hN hR hG h5 h2 hwb hw16
        obtain ⟨w3', s5⟩ := e24 1 w3 P3 (by omega)
        obtain ⟨P4, w4, h4', s6⟩ := m_pair (E := E) (M := P3) (c := c) (n := n) (w := w) (j := j) (a := 1) (b := 2) (d := 0) (u4 := w3') (by omega) (by omega) (by omega) (by omega) (by decide) hN hR hG h5 h3 hwb hw16
        obtain ⟨P5, w5, h5', s7⟩ := m_pair (E := E) (M := P4) (c := c) (n := n) (w := w) (j := j) (a := 2) (b := 0) (d := 1) (u4 := w4) (by omega) (by omega) (by omega) (by omega) (by decide) hN hR hG h5 h4' hwb hw16
        obtain ⟨P6, w6, h6', s8⟩ := m_pair (E := E) (M := P5) (c := c) (n := n) (w := w) (j := j) (a := 2) (b := 1) (d := 0) (u4 := w5) (by omega) (by omega) (by omega) (by omega) (by decide) hN hR hG h5 h5' hwb hw16
        obtain ⟨w7, s9⟩ := e24 2 w6 P6 (by omega)
        have s10 : am_ex (am_I2 E) mI_Mo_order 17 [some (.inr (.inl (some (25, 0)))), some (.inl (nI j)), some (.inl (nI (2 + 1))), some (.inl (nI 3)), w7] [] P6 = some (some (.inl (-1)), P6) := by
          rw [eq_Mo_order_17, if_neg (by decide)]
        by_cases c0 : goes M n w 0 1 2 = true
        · refine ⟨P1, h1, ?_⟩
          rw [if_pos c0] at s2 ⊢
          exact s0.trans ((e17 0 _ _ P (by omega)).trans (s1.trans (s2.trans (val 0 1 2 0 (by decide) (by decide) (by decide) P1))))
        rw [if_neg c0] at s2
        have t2 := s0.trans ((e17 0 _ _ P (by omega)).trans (s1.trans s2))
        by_cases c1 : goes M n w 0 2 1 = true
        · refine ⟨P2, h2, ?_⟩
          rw [if_neg c0, if_pos c1]
          rw [if_pos c1] at s3
          exact t2.trans (s3.trans (val 0 2 1 1 (by decide) (by decide) (by decide) P2))
        rw [if_neg c1] at s3
        have t3 := t2.trans (s3.trans ((eE 0 w2 P2).trans (e17 1 _ _ P2 (by omega))))
        by_cases c2 : goes M n w 1 0 2 = true
        · refine ⟨P3, h3, ?_⟩
          rw [if_neg c0, if_neg c1, if_pos c2]
          rw [if_pos c2] at s4
          exact t3.trans (s4.trans (val 1 0 2 2 (by decide) (by decide) (by decide) P3))
        rw [if_neg c2] at s4
        have t4 := t3.trans (s4.trans s5)
        by_cases c3 : goes M n w 1 2 0 = true
        · refine ⟨P4, h4', ?_⟩
          rw [if_neg c0, if_neg c1, if_neg c2, if_pos c3]
          rw [if_pos c3] at s6
          exact t4.trans (s6.trans (val 1 2 0 3 (by decide) (by decide) (by decide) P4))
        rw [if_neg c3] at s6
        have t5 := t4.trans (s6.trans ((eE 1 w4 P4).trans (e17 2 _ _ P4 (by omega))))
        by_cases c4 : goes M n w 2 0 1 = true
        · refine ⟨P5, h5', ?_⟩
          rw [if_neg c0, if_neg c1, if_neg c2, if_neg c3, if_pos c4]
          rw [if_pos c4] at s7
          exact t5.trans (s7.trans (val 2 0 1 4 (by decide) (by decide) (by decide) P5))
        rw [if_neg c4] at s7
        have t6 := t5.trans s7
        by_cases c5 : goes M n w 2 1 0 = true
        · refine ⟨P6, h6', ?_⟩
          rw [if_neg c0, if_neg c1, if_neg c2, if_neg c3, if_neg c4, if_pos c5]
          rw [if_pos c5] at s8
          exact t6.trans (s8.trans (val 2 1 0 5 (by decide) (by decide) (by decide) P6))
        rw [if_neg c5] at s8
        refine ⟨P6, h6', ?_⟩
        rw [if_neg c0, if_neg c1, if_neg c2, if_neg c3, if_neg c4, if_neg c5]
        exact t6.trans (s8.trans (s9.trans ((eE 2 w7 P6).trans s10)))
      refine ⟨_, ?_, R⟩
      by_cases c0 : goes M n w 0 1 2 = true
      · refine ⟨N0, g0, ?_⟩
        rw [if_pos c0] at A0 ⊢
        exact A.trans A0
      rw [if_neg c0] at A0
      by_cases c1 : goes M n w 0 2 1 = true
      · refine ⟨N1, g1, ?_⟩
        rw [if_neg c0, if_pos c1]
        rw [if_pos c1] at A1
        exact A.trans (A0.trans A1)
      rw [if_neg c1] at A1
      by_cases c2 : goes M n w 1 0 2 = true
      · refine ⟨N2, g2, ?_⟩
        rw [if_neg c0, if_neg c1, if_pos c2]
        rw [if_pos c2] at A2
        exact A.trans (A0.trans (A1.trans A2))
      rw [if_neg c2] at A2
      by_cases c3 : goes M n w 1 2 0 = true
      · refine ⟨N3, g3, ?_⟩
        rw [if_neg c0, if_neg c1, if_neg c2, if_pos c3]
        rw [if_pos c3] at A3
        exact A.trans (A0.trans (A1.trans (A2.trans A3)))
      rw [if_neg c3] at A3
      by_cases c4 : goes M n w 2 0 1 = true
      · refine ⟨N4, g4, ?_⟩
        rw [if_neg c0, if_neg c1, if_neg c2, if_neg c3, if_pos c4]
        rw [if_pos c4] at A4
        exact A.trans (A0.trans (A1.trans (A2.trans (A3.trans A4))))
      rw [if_neg c4] at A4
      by_cases c5 : goes M n w 2 1 0 = true
      · refine ⟨N5, g5, ?_⟩
        rw [if_neg c0, if_neg c1, if_neg c2, if_neg c3, if_neg c4, if_pos c5]
        rw [if_pos c5] at A5
        exact A.trans (A0.trans (A1.trans (A2.trans (A3.trans (A4.trans A5)))))
      rw [if_neg c5] at A5
      refine ⟨N5, g5, ?_⟩
      rw [if_neg c0, if_neg c1, if_neg c2, if_neg c3, if_neg c4, if_neg c5]
      exact A.trans (A0.trans (A1.trans (A2.trans (A3.trans (A4.trans (A5.trans A6))))))
    obtain ⟨v, ⟨N, hfN, e1⟩, e2⟩ := key
    obtain ⟨N', hfN', e3⟩ := e2 N hfN
    exact ⟨v, N, N', e1, e3, Inv_fr hfN' (Inv_mono hI)⟩
end
