/-! what holds of a flow by a set; calls: sound, waits -/
set_option maxRecDepth 100000 in
set_option maxHeartbeats 4000000 in
theorem eq_Mx_waits_21w (E : am_E) (M : am_M) (x1 : Int32) (x2 : Int32) (k o : Nat) : am_ex (am_I2 E) mI_Mx_waits 21 [some (.inr (.inl (some (0, 0)))), some (.inl x1), some (.inl x2), some (.inr (.inl (some (4, k)))), none, none, none, none] [.inr (.inl (some (4, o)))] M = am_bI (am_run (am_I2 E) mI_Fl_movers [.inr (.inl (some (4, k)))] M) (fun v1 M1 => am_bV (am_run (am_I2 E) mI_Ju_weigh [.inr (.inl (some (8, 0))), .inl (1 <<< (x1 &&& 31)), .inl 0] M1) (fun M2 => am_bI (am_run (am_I2 E) mI_Ju_whatHolds [.inr (.inl (some (8, 0))), .inr (.inl (some (4, k))), .inl v1] M2) (fun v3 M3 => am_bV (am_run (am_I2 E) mI_Ju_weigh [.inr (.inl (some (8, 0))), .inl ((1 <<< (x1 &&& 31)) ||| (1 <<< (x2 &&& 31))), .inl 0] M3) (fun M4 => am_bI (am_run (am_I2 E) mI_Ju_whatHolds [.inr (.inl (some (8, 0))), .inr (.inl (some (4, k))), .inl v1] M4) (fun v5 M5 => if (v3 &&& 1) = 0 then (if 0 = 0 then (some (some (.inl 0), M5)) else (some (some (.inl 1), M5))) else (if (v3 &&& 8) = 0 then (if (v5 &&& 8) = 0 then (if 0 = 0 then (some (some (.inl 0), M5)) else (some (some (.inl 1), M5))) else (if 1 = 0 then (some (some (.inl 0), M5)) else (some (some (.inl 1), M5)))) else (if 0 = 0 then (some (some (.inl 0), M5)) else (some (some (.inl 1), M5))))))))) := (am_ex_k _ _ (fun p => Nat.beq p 8 || Nat.beq p 21) 55 _ _ _ _).trans rfl
theorem pb_not {P : Prop} : pb (¬ P) = !pb P := by
  by_cases h : P
  · rw [pb_t h, pb_f (fun w => w h)]; rfl
  · rw [pb_f h, pb_t h]; rfl
def h4 (a b c d : Bool) : Nat := (if a = true then 1 else 0) + (if b = true then 2 else 0) + (if c = true then 4 else 0) + (if d = true then 8 else 0)
theorem h4_lt (a b c d : Bool) : h4 a b c d < 16 := by cases a <;> cases b <;> cases c <;> cases d <;> decide
theorem h4_1 : ∀ a b c d : Bool, (nI (h4 a b c d) &&& 1 = 0) ↔ a = false := by decide
theorem h4_8 : ∀ a b c d : Bool, (nI (h4 a b c d) &&& 8 = 0) ↔ d = false := by decide
def hC (B : am_M) (k : Nat) (x : Int32) : Bool := decide (B 4 k 3 = -1) || (2 ^ sr B k ||| mt (WL B k x)).testBit (B 4 k 3).toNatClampNeg
noncomputable def hD (B : am_M) (k : Nat) (x : Int32) (W : Nat → Nat) : Bool := pb (pr2 (rmQ B (sz B k) W) (WL B k x))
noncomputable def hw (B : am_M) (n k : Nat) (x : Int32) (W : Nat → Nat) : Nat := h4 (decide (la (WL B k x) = gl B k)) (pb (¬ Rg (rr B k x) n)) (hC B k x) (hD B k x W)
theorem hw_lt (B : am_M) (n k : Nat) (x : Int32) (W : Nat → Nat) : hw B n k x W < 16 := h4_lt _ _ _ _
section
variable {E : am_E} {M B : am_M} {c : Nat}
theorem post_or {n s g z k : Nat} {x : Int32} (hn : n ≤ 8) (hG : iG n s g z k B) : (B 4 k 3 = -1 ∧ B 30 0 k = -1 ∧ hC B k x = true) ∨ ∃ p, p < 8 ∧ B 4 k 3 = nI p ∧ B 30 0 k = nI p ∧ hC B k x = (2 ^ sr B k ||| mt (WL B k x)).testBit p := by
  obtain ⟨g0, g1, g2, g3, g4, g5⟩ := hG
  rcases g4.2 with h | ⟨p, hp, -, -, h⟩
  · left
    refine ⟨g4.1.trans h, h, ?_⟩
    unfold hC
    rw [g4.1, h, decide_eq_true rfl, Bool.true_or]
  · right
    refine ⟨p, by omega, g4.1.trans h, h, ?_⟩
    unfold hC
    rw [g4.1, h, decide_eq_false (nI_m1 (by omega)), Bool.false_or, nI_clamp (by omega)]
theorem c_whatHolds {n k : Nat} {x : Int32} {W : Nat → Nat} (hN : iN n B) (hR : iR B) (hG : iG n (sr B k) (gl B k) (sz B k) k B) (hf : fr B M) (hW : ∀ y, W y ≤ 27) (h11 : ∀ y, y < 64 → M 11 0 y = nI (W y)) : ∃ N, am_run (am_I2 E) mI_Ju_whatHolds [.inr (.inl (some (8, 0))), .inr (.inl (some (4, k))), .inl x] M = some (some (.inl (nI (hw B n k x W))), N) ∧ fS S9 M N := by
  obtain ⟨N, k1, k2, k3, k4, k5, k6⟩ := c_follow (E := E) (B := B) (M := M) (x := x) hN hR hG hf
  have hfN : fr B N := fr_9 hf k2
  have hn := hN.1
  obtain ⟨g0, g1, g2, g3, g4, g5⟩ := id hG
  have r1 : am_run (am_I2 E) mI_Ju_isRingless [.inr (.inl (some (8, 0))), .inr (.inl (some (4, k))), .inl x] N = some (some (.inl (aI (pb (¬ Rg (rr B k x) n)))), N) := c_ringless hn.2 hG hfN
  have e42 : N 4 k 2 = nI (sz B k) := (hfN 4 k 2 rfl).trans g3.1
  have r2 : am_run (am_I2 E) mI_Ju_pathHasRoom [.inr (.inl (some (8, 0))), .inl (N 4 k 2)] N = some (some (.inl (aI (hD B k x W))), N) := by
    rw [e42]
    exact c_hasRoom hN hR hfN g0.2.2.2.2 hW wkC_nodup (wkC_lt hn.2 hG) k6 (fun y hy => (k2 11 0 y rfl).trans (h11 y hy))
  have k5' : N 9 0 2 = aI (decide (la (WL B k x) = gl B k)) := k5
  have k3' : N 9 0 0 = nI (2 ^ sr B k ||| mt (WL B k x)) := k3
  have e43 : N 4 k 3 = B 4 k 3 := hfN 4 k 3 rfl
  refine ⟨N, ?_, k2⟩
  rw [rq_Ju_whatHolds, k1, z_bV, k5']
  simp only [r1, r2, z_bI]
  unfold hw
  rw [e43, k3']
  generalize decide (la (WL B k x) = gl B k) = a
  generalize pb (¬ Rg (rr B k x) n) = b
  generalize hD B k x W = d
  rcases post_or (x := x) hn.2 hG with ⟨p1, -, p2⟩ | ⟨p, hp, p1, -, p2⟩
  · rw [p1, p2]
    cases a <;> cases b <;> cases d <;> rfl
  · have hm : ¬ nI p = -1 := nI_m1 (by omega)
    rw [p1, p2]
    cases hb : (2 ^ sr B k ||| mt (WL B k x)).testBit p with
    | true =>
      have hne : ¬ nI (2 ^ sr B k ||| mt (WL B k x)) &&& (1 : Int32) <<< (nI p &&& 31) = 0 := fun w => by
        have := (bt_ne0 (by omega)).mp w
        rw [bt_nI _ _ (by omega), hb] at this
        cases this
      simp only [if_neg hm, if_neg hne]
      cases a <;> cases b <;> cases d <;> rfl
    | false =>
      have hne : nI (2 ^ sr B k ||| mt (WL B k x)) &&& (1 : Int32) <<< (nI p &&& 31) = 0 := (bt_ne0 (by omega)).mpr (by rw [bt_nI _ _ (by omega)]; exact hb)
      simp only [if_neg hm, if_pos hne]
      cases a <;> cases b <;> cases d <;> rfl
theorem m_walkRoom {n k : Nat} {x : Int32} {W : Nat → Nat} (hk : k < 3) (hN : iN n B) (hR : iR B) (hG : iG n (sr B k) (gl B k) (sz B k) k B) (hf : fr B M) (hW : ∀ y, W y ≤ 27) (h46 : ∀ y, y < 64 → M 46 0 y = nI (W y)) : ∃ N, am_run (am_I2 E) mI_Mo_walks [.inr (.inl (some (25, 0))), .inl (nI k), .inl x] M = some (none, N) ∧ fS S44 M N ∧ N 25 0 35 = aI (decide (la (WL B k x) = gl B k)) ∧ N 25 0 34 = nI (2 ^ sr B k ||| mt (WL B k x)) ∧ am_run (am_I2 E) mI_Mo_isRoom [.inr (.inl (some (25, 0))), .inl (nI k)] N = some (some (.inl (aI (hD B k x W))), N) := by
  obtain ⟨N, l1, l2, l3, l4, l5, l6, l7⟩ := m_walks (E := E) (B := B) (M := M) (x := x) hk hN hR hG hf
  have hfN : fr B N := fr_44 hf l2
  have hn := hN.1
  obtain ⟨g0, g1, g2, g3, g4, g5⟩ := id hG
  obtain ⟨l, hl⟩ := wk_head (st (B 5 k) (B 6 k) (B 2 0) x) 8 (2 ^ sr B k) (sr B k)
  have hlen : 1 ≤ (wkC B k x (sr B k)).length := by
    rw [show wkC B k x (sr B k) = sr B k :: l from hl]; simp
  have hle8 := pcN_le1 (2 ^ sr B k ||| mt (wkC B k x (sr B k))) 8
  refine ⟨N, l1, l2, l6, l5, ?_⟩
  exact m_isRoom (n := n) (z := sz B k) (L := wkC B k x (sr B k)) hk hR hfN g0.2.2.2.2 ((hfN 29 0 k rfl).trans g3.2) hW hn.2 (wkC_lt hn.2 hG) ⟨hlen, by omega⟩ l4 l3 (fun y hy => (l2 46 0 y rfl).trans (h46 y hy))
theorem m_holds {n k : Nat} {x : Int32} {W : Nat → Nat} (hk : k < 3) (hN : iN n B) (hR : iR B) (hG : iG n (sr B k) (gl B k) (sz B k) k B) (hf : fr B M) (hW : ∀ y, W y ≤ 27) (h46 : ∀ y, y < 64 → M 46 0 y = nI (W y)) : ∃ N, am_run (am_I2 E) mI_Mo_holds [.inr (.inl (some (25, 0))), .inl (nI k), .inl x] M = some (some (.inl (nI (hw B n k x W))), N) ∧ fS S44 M N := by
  obtain ⟨N, l1, l2, l3, l4, r2⟩ := m_walkRoom (E := E) (x := x) hk hN hR hG hf hW h46
  have hfN : fr B N := fr_44 hf l2
  have hn := hN.1
  have r1 : am_run (am_I2 E) mI_Mo_isRing [.inr (.inl (some (25, 0))), .inl (nI k), .inl x] N = some (some (.inl (aI (pb (Rg (rr B k x) n)))), N) := m_ring hk hN hG hfN
  have e30 : N 30 0 k = B 30 0 k := hfN 30 0 k rfl
  have hin : am_in (nI k) 3 = true := z_in hk (by omega)
  have hix : am_ix (nI k) = k := z_ix (by omega)
  refine ⟨N, ?_, l2⟩
  rw [rq_Mo_holds, l1, z_bV, l3]
  simp only [r1, r2, z_bI, hin, hix, z_if]
  unfold hw
  rw [e30, l4, pb_not]
  generalize decide (la (WL B k x) = gl B k) = a
  generalize pb (Rg (rr B k x) n) = b
  rcases post_or (x := x) hn.2 hG with ⟨-, p1, p2⟩ | ⟨p, hp, -, p1, p2⟩
  · rw [p1, p2]
    generalize hD B k x W = d
    cases a <;> cases b <;> cases d <;> rfl
  · have hm : ¬ nI p = -1 := nI_m1 (by omega)
    have r3 : am_run (am_I2 E) mI_Mo_has [.inl (nI (2 ^ sr B k ||| mt (WL B k x))), .inl (nI p)] N = some (some (.inl (if (2 ^ sr B k ||| mt (WL B k x)).testBit p = true then 1 else 0)), N) := by
      rw [m_has hp, bt_nI _ _ (by omega)]
    rw [p1, p2]
    simp only [r3, r2, z_bI, if_neg hm]
    generalize hD B k x W = d
    cases hb : (2 ^ sr B k ||| mt (WL B k x)).testBit p with
    | true => cases a <;> cases b <;> cases d <;> rfl
    | false => cases a <;> cases b <;> cases d <;> rfl
/-- weights by the flows left out, and those moved -/
def WT (B : am_M) (a m : Nat) (x : Nat) : Nat := wtN B (fun j => a.testBit j) (fun j => if m.testBit j = true then nI (mv (B 5 j) (B 6 j)) else B 33 0 j) 3 x
theorem WT_le {n a m : Nat} (hG : ∀ k, k < 3 → iG n (sr B k) (gl B k) (sz B k) k B) (x : Nat) : WT B a m x ≤ 27 := by
  have h : ∀ k, k < 3 → wf B (fun j => a.testBit j) (fun j => if m.testBit j = true then nI (mv (B 5 j) (B 6 j)) else B 33 0 j) k x ≤ 9 := by
    intro k hk
    have := (hG k hk).1.2.2.2.2
    unfold wf
    split
    · omega
    · split <;> omega
  have h0 := h 0 (by omega)
  have h1 := h 1 (by omega)
  have h2 := h 2 (by omega)
  unfold WT
  rw [wtN_succ, wtN_succ, wtN_succ]
  show 0 + _ + _ + _ ≤ 27
  omega
theorem c_weighT {n a m : Nat} {x y : Int32} (hx : x = nI a) (hy : y = nI m) (hN : iN n B) (hR : iR B) (hG : ∀ k, k < 3 → ∃ s g z, iG n s g z k B) (hf : fr B M) (hTT : ∀ j, j < 3 → B 4 j 6 = B 33 0 j) : ∃ N, am_run (am_I2 E) mI_Ju_weigh [.inr (.inl (some (8, 0))), .inl x, .inl y] M = some (none, N) ∧ fS S11 M N ∧ ∀ q, q < 64 → N 11 0 q = nI (WT B a m q) := by
  obtain ⟨N, k1, k2, k3⟩ := c_weigh (E := E) (B := B) (M := M) (a := x) (mo := y) hN hR hG hf
  refine ⟨N, k1, k2, fun q hq => ?_⟩
  rw [k3 q hq]
  unfold WT
  rw [wtN_congr (sk' := fun j => a.testBit j) (se' := fun j => if m.testBit j = true then nI (mv (B 5 j) (B 6 j)) else B 33 0 j) (fun k hk => ⟨by
    show bt x k = _
    rw [hx, bt_nI _ _ (by omega)], by
    show (if bt y k = true then _ else B 4 k 6) = _
    rw [hy, bt_nI _ _ (by omega), hTT k hk]⟩)]
theorem m_needsT {n f o m : Nat} (hf3 : f < 3) (ho3 : o < 3) (hN : iN n B) (hR : iR B) (hG : ∀ k, k < 3 → ∃ s g z, iG n s g z k B) (hf : fr B M) (h45 : ∀ j, j < 3 → M 45 0 j = if m.testBit j = true then nI (mv (B 5 j) (B 6 j)) else B 33 0 j) : ∃ N, am_run (am_I2 E) mI_Mo_needsOf [.inr (.inl (some (25, 0))), .inl (nI f), .inl (nI o)] M = some (none, N) ∧ fS S46 M N ∧ ∀ q, q < 64 → N 46 0 q = nI (WT B (2 ^ f ||| 2 ^ o) m q) := by
  obtain ⟨N, k1, k2, k3⟩ := m_needs (E := E) (B := B) (M := M) (x1 := nI f) (x2 := nI o) (se := fun j => if m.testBit j = true then nI (mv (B 5 j) (B 6 j)) else B 33 0 j) hN hR hG hf h45
  refine ⟨N, k1, k2, fun q hq => ?_⟩
  rw [k3 q hq]
  unfold WT
  rw [wtN_congr (sk' := fun j => (2 ^ f ||| 2 ^ o).testBit j) (se' := fun j => if m.testBit j = true then nI (mv (B 5 j) (B 6 j)) else B 33 0 j) (fun k hk => ⟨by
    show (decide (nI k = nI f) || decide (nI k = nI o)) = (2 ^ f ||| 2 ^ o).testBit k
    rw [Nat.testBit_or, Nat.testBit_two_pow, Nat.testBit_two_pow]
    have e1 : decide (nI k = nI f) = decide (f = k) := decide_eq_decide.mpr ⟨fun w => ((nI_eq (by omega) (by omega)).mp w).symm, fun w => by rw [w]⟩
    have e2 : decide (nI k = nI o) = decide (o = k) := decide_eq_decide.mpr ⟨fun w => ((nI_eq (by omega) (by omega)).mp w).symm, fun w => by rw [w]⟩
    rw [e1, e2], rfl⟩)]
/-- needs as all is turned now -/
theorem m_turnedNeeds {n f o : Nat} (hf3 : f < 3) (ho3 : o < 3) (hN : iN n B) (hR : iR B) (hG : ∀ k, k < 3 → ∃ s g z, iG n s g z k B) (hf : fr B M) : ∃ N1, am_run (am_I2 E) mI_Mo_asTurned [.inr (.inl (some (25, 0)))] M = some (none, N1) ∧ fr B N1 ∧ (∀ j, j < 3 → N1 45 0 j = if Nat.testBit 0 j = true then nI (mv (B 5 j) (B 6 j)) else B 33 0 j) ∧ ∃ N2, am_run (am_I2 E) mI_Mo_needsOf [.inr (.inl (some (25, 0))), .inl (nI f), .inl (nI o)] N1 = some (none, N2) ∧ fr B N2 ∧ fS S46 N1 N2 ∧ ∀ q, q < 64 → N2 46 0 q = nI (WT B (2 ^ f ||| 2 ^ o) 0 q) := by
  obtain ⟨N1, l1, l2, l3⟩ := m_asTurned (E := E) (M := M)
  have hf2 : fr B N1 := fS_tr hf (fS_mono S45_scr l2)
  have h45 : ∀ j, j < 3 → N1 45 0 j = if Nat.testBit 0 j = true then nI (mv (B 5 j) (B 6 j)) else B 33 0 j := by
    intro j hj
    rw [Nat.zero_testBit, if_neg (by decide), l3 j hj, hf 33 0 j rfl]
  obtain ⟨N2, m1, m2, m3⟩ := m_needsT (E := E) (m := 0) hf3 ho3 hN hR hG hf2 h45
  exact ⟨N1, l1, hf2, h45, N2, m1, fS_tr hf2 (fS_mono S46_scr m2), m2, m3⟩
theorem mvr {n s g z k : Nat} {N : am_M} (hf : fr B N) (hG : iG n s g z k B) : mv (fun u => N 31 0 (8 * k + u)) (fun u => N 32 0 (8 * k + u)) = mv (B 5 k) (B 6 k) := by
  rw [show (fun u => N 31 0 (8 * k + u)) = (fun u => B 31 0 (8 * k + u)) from funext (fun u => hf 31 0 _ rfl), show (fun u => N 32 0 (8 * k + u)) = (fun u => B 32 0 (8 * k + u)) from funext (fun u => hf 32 0 _ rfl)]
  exact (mv_congr (fun u hu => (hG.2.2.2.2.2 u hu).1)).symm
theorem fr_11 {N : am_M} (h : fr B M) (h2 : fS S11 M N) : fr B N := fS_tr h (fS_mono S11_scr h2)
theorem fr_46 {N : am_M} (h : fr B M) (h2 : fS S46 M N) : fr B N := fS_tr h (fS_mono S46_scr h2)
theorem op_sound (hI : Inv c M) (x y : Int32) : pr E c M mI_Mx_sound mI_Mo_sound [.inl x, .inl y] := by
  obtain ⟨n, hN, h2, hR, h4, h5, h6⟩ := id hI
  have hn := hN.1
  have hGc : ∀ k, k < 3 → iG n (sr M k) (gl M k) (sz M k) k M := fun k hk => by
    obtain ⟨s, g, z, h⟩ := h4 k hk
    exact iG_can hn.2 h
  have hTT : ∀ j, j < 3 → M 4 j 6 = M 33 0 j := fun j hj => by
    obtain ⟨t, m, p, d, -, f1, -⟩ := h5 j hj
    rw [f1.1, f1.2]
  rcases ob_or x (n := 3) (by omega) with hx | ⟨k, hk, rfl⟩
  · refine ⟨-2, M, M, ?_, ?_, Inv_mono hI⟩
    · rw [rq_Mx_sound, c_flowAt_n hx, z_bR, eq_Mx_sound_8v0]
    · rw [rq_Mo_sound, m_isFlow_n hx, z_bI, if_pos rfl]
  · have hG := hGc k hk
    by_cases hr : ∃ r, r < 256 ∧ y = nI r ∧ sd r (mv (M 5 k) (M 6 k)) = 0
    · obtain ⟨r, hr1, rfl, hr2⟩ := hr
      obtain ⟨N1, k1, k2, k3⟩ := c_weighT (E := E) (B := M) (M := M) (a := 2 ^ k) (m := 0) (x := (1 : Int32) <<< (nI k &&& 31)) (y := 0) (nI_shl (by omega)) rfl hN hR h4 fr_rfl hTT
      have hf1 : fr M N1 := fr_11 fr_rfl k2
      obtain ⟨N2, l1, l2⟩ := c_whatHolds (E := E) (B := M) (M := N1) (x := nI r) hN hR hG hf1 (WT_le hGc) k3
      have hf2 : fr M N2 := fr_9 hf1 l2
      obtain ⟨N3, m1, hf3, -, N4, m2, hf4, -, m3⟩ := m_turnedNeeds (E := E) (B := M) (M := N2) hk hk hN hR h4 hf2
      rw [Nat.or_self] at m3
      obtain ⟨N5, q1, q2⟩ := m_holds (E := E) (B := M) (M := N4) (x := nI r) hk hN hR hG hf4 (WT_le hGc) m3
      refine ⟨nI (hw M n k (nI r) (WT M (2 ^ k) 0)), N2, N5, ?_, ?_, Inv_fr (fr_44 hf4 q2) (Inv_mono hI)⟩
      · rw [rq_Mx_sound, c_flowAt_s hk, z_bR, eq_Mx_sound_8v1, c_areMovers_s hr2, z_bI, if_neg z_ne10, k1, z_bV, l1, z_bI]
      · rw [rq_Mo_sound, m_isFlow_s hk, z_bI, if_neg z_ne10, m_isOfMovers_s hk (by rw [mvr hf2 hG]; exact hr2), z_bI, if_neg z_ne10, m1, z_bV, m2, z_bV, q1, z_bI]
    · refine ⟨-3, M, M, ?_, ?_, Inv_mono hI⟩
      · rw [rq_Mx_sound, c_flowAt_s hk, z_bR, eq_Mx_sound_8v1, c_areMovers_n hr, z_bI, if_pos rfl]
      · rw [rq_Mo_sound, m_isFlow_s hk, z_bI, if_neg z_ne10, m_isOfMovers_n hk (by rw [mvr fr_rfl hG]; exact hr), z_bI, if_pos rfl]
theorem op_waits (hI : Inv c M) (x y : Int32) : pr E c M mI_Mx_waits mI_Mo_waits [.inl x, .inl y] := by
  obtain ⟨n, hN, h2, hR, h4, h5, h6⟩ := id hI
  have hn := hN.1
  have hGc : ∀ k, k < 3 → iG n (sr M k) (gl M k) (sz M k) k M := fun k hk => by
    obtain ⟨s, g, z, h⟩ := h4 k hk
    exact iG_can hn.2 h
  have hTT : ∀ j, j < 3 → M 4 j 6 = M 33 0 j := fun j hj => by
    obtain ⟨t, m, p, d, -, f1, -⟩ := h5 j hj
    rw [f1.1, f1.2]
  rcases ob_or x (n := 3) (by omega) with hx | ⟨k, hk, rfl⟩
  · refine ⟨-2, M, M, ?_, ?_, Inv_mono hI⟩
    · rw [rq_Mx_waits, c_flowAt_n hx, z_bR, eq_Mx_waits_8v0]
    · rw [rq_Mo_waits, m_isFlow_n hx, z_bI, if_pos rfl]
  · rcases ob_or y (n := 3) (by omega) with hy | ⟨o, ho, rfl⟩
    · refine ⟨-2, M, M, ?_, ?_, Inv_mono hI⟩
      · rw [rq_Mx_waits, c_flowAt_s hk, z_bR, eq_Mx_waits_8v1, c_flowAt_n hy, z_bR, eq_Mx_waits_21v0]
      · rw [rq_Mo_waits, m_isFlow_s hk, z_bI, if_neg z_ne10, m_isFlow_n hy, z_bI, if_pos rfl]
    · have hG := hGc k hk
      obtain ⟨N1, k1, k2, k3⟩ := c_weighT (E := E) (B := M) (M := M) (a := 2 ^ k) (m := 0) (x := (1 : Int32) <<< (nI k &&& 31)) (y := 0) (nI_shl (by omega)) rfl hN hR h4 fr_rfl hTT
      have hf1 : fr M N1 := fr_11 fr_rfl k2
      obtain ⟨N2, l1, l2⟩ := c_whatHolds (E := E) (B := M) (M := N1) (x := nI (mv (M 5 k) (M 6 k))) hN hR hG hf1 (WT_le hGc) k3
      have hf2 : fr M N2 := fr_9 hf1 l2
      obtain ⟨N3, k4, k5, k6⟩ := c_weighT (E := E) (B := M) (M := N2) (a := 2 ^ k ||| 2 ^ o) (m := 0) (x := ((1 : Int32) <<< (nI k &&& 31)) ||| ((1 : Int32) <<< (nI o &&& 31))) (y := 0) (by rw [nI_shl (by omega), nI_shl (by omega), nI_or]) rfl hN hR h4 hf2 hTT
      have hf3 : fr M N3 := fr_11 hf2 k5
      obtain ⟨N4, l3, l4⟩ := c_whatHolds (E := E) (B := M) (M := N3) (x := nI (mv (M 5 k) (M 6 k))) hN hR hG hf3 (WT_le hGc) k6
      have hf4 : fr M N4 := fr_9 hf3 l4
      -- the reference
      obtain ⟨P1, m1, hp1, m45, P2, m2, hp2, m46, m3⟩ := m_turnedNeeds (E := E) (B := M) (M := N4) hk hk hN hR h4 hf4
      rw [Nat.or_self] at m3
      obtain ⟨P3, q1, q2, q3, -, q5⟩ := m_walkRoom (E := E) (B := M) (M := P2) (x := nI (mv (M 5 k) (M 6 k))) hk hN hR hG hp2 (WT_le hGc) m3
      have hp3 : fr M P3 := fr_44 hp2 q2
      have m45' : ∀ j, j < 3 → P3 45 0 j = if Nat.testBit 0 j = true then nI (mv (M 5 j) (M 6 j)) else M 33 0 j := fun j hj => (q2 45 0 j rfl).trans ((m46 45 0 j rfl).trans (m45 j hj))
      obtain ⟨P4, m4, m5, m6⟩ := m_needsT (E := E) (B := M) (M := P3) (m := 0) hk ho hN hR h4 hp3 m45'
      have hp4 : fr M P4 := fr_46 hp3 m5
      obtain ⟨P5, q6, q7, -, -, q10⟩ := m_walkRoom (E := E) (B := M) (M := P4) (x := nI (mv (M 5 k) (M 6 k))) hk hN hR hG hp4 (WT_le hGc) m6
      have hp5 : fr M P5 := fr_44 hp4 q7
      have v2 : am_run (am_I2 E) mI_Mo_movers [.inr (.inl (some (25, 0))), .inl (nI k)] P2 = some (some (.inl (nI (mv (M 5 k) (M 6 k)))), P2) := by rw [m_movers hk, mvr hp2 hG]
      have v4 : am_run (am_I2 E) mI_Mo_movers [.inr (.inl (some (25, 0))), .inl (nI k)] P4 = some (some (.inl (nI (mv (M 5 k) (M 6 k)))), P4) := by rw [m_movers hk, mvr hp4 hG]
      have hee : k = o → hD M k (nI (mv (M 5 k) (M 6 k))) (WT M (2 ^ k) 0) = hD M k (nI (mv (M 5 k) (M 6 k))) (WT M (2 ^ k ||| 2 ^ o) 0) := fun e => by rw [← e, Nat.or_self]
      have hkk : (nI k = nI o) ↔ k = o := nI_eq (by omega) (by omega)
      refine ⟨if decide (la (WL M k (nI (mv (M 5 k) (M 6 k)))) = gl M k) && (!hD M k (nI (mv (M 5 k) (M 6 k))) (WT M (2 ^ k) 0) && hD M k (nI (mv (M 5 k) (M 6 k))) (WT M (2 ^ k ||| 2 ^ o) 0)) then 1 else 0, N4, P5, ?_, ?_, Inv_fr hp5 (Inv_mono hI)⟩
      · rw [rq_Mx_waits, c_flowAt_s hk, z_bR, eq_Mx_waits_8v1, c_flowAt_s ho, z_bR, eq_Mx_waits_21w, c_movers, z_bI, k1, z_bV, l1, z_bI, k4, z_bV, l3, z_bI]
        unfold hw
        simp only [h4_1, h4_8]
        generalize decide (la (WL M k (nI (mv (M 5 k) (M 6 k)))) = gl M k) = a
        generalize hD M k (nI (mv (M 5 k) (M 6 k))) (WT M (2 ^ k) 0) = d1
        generalize hD M k (nI (mv (M 5 k) (M 6 k))) (WT M (2 ^ k ||| 2 ^ o) 0) = d2
        cases a <;> cases d1 <;> cases d2 <;> rfl
      · rw [rq_Mo_waits, m_isFlow_s hk, z_bI, if_neg z_ne10, m_isFlow_s ho, z_bI, if_neg z_ne10, m1, z_bV, m2, z_bV, v2, z_bI, q1, z_bV, q3]
        simp only [q5, z_bI, m4, z_bV, v4, q6, q10, hkk]
        revert hee
        generalize decide (la (WL M k (nI (mv (M 5 k) (M 6 k)))) = gl M k) = a
        generalize hD M k (nI (mv (M 5 k) (M 6 k))) (WT M (2 ^ k) 0) = d1
        generalize hD M k (nI (mv (M 5 k) (M 6 k))) (WT M (2 ^ k ||| 2 ^ o) 0) = d2
        intro hee
        by_cases e : k = o
        · have := hee e
          subst this
          simp only [if_pos e]
          cases a <;> cases d1 <;> rfl
        · simp only [if_neg e]
          cases a <;> cases d1 <;> cases d2 <;> rfl
end
