/-! call: tick -/
section
variable {E : am_E} {M B N : am_M} {c : Nat}
/-- what holds of a letter behind a hop that was no loss -/
theorem vY_a {n s g z : Nat} {Y : Nat → Nat} (hn : n ≤ 8) (hR : iR B) (hG : iG n s g z (Y 0) B) (hv : vY n B Y) (hs : tg B Y ≠ none) : (aY B Y 0 = Y 0 ∧ aY B Y 1 < n ∧ aY B Y 2 = Y 2 + 1 ∧ aY B Y 3 < 2 ∧ aY B Y 5 < 2 ∧ aY B Y 6 < 2 ∧ aY B Y 7 < 2 ∧ aY B Y 8 < 256) ∧ aY B Y 4 = Y 4 ∧ ∀ p, p < 8 → B 30 0 (Y 0) = nI p → ((aY B Y 8).testBit p = true ↔ aY B Y 7 = 1) := by
  obtain ⟨⟨v0, v1, v2, v3, v5, v6, v7, v8⟩, v4, vp⟩ := hv
  rcases tg_or (Y := Y) hn hR v1 hG with ⟨h1, h2⟩ | ⟨v, r, hvn, hr, h1, r1, -, ⟨h0, h2⟩ | ⟨h0, h2⟩⟩
  · exact absurd h2 hs
  · exact absurd h2 hs
  · have haY : aY B Y = nY B Y v := by funext x; unfold aY; rw [h2]
    have hv2 : (2 ^ v) < 256 := Nat.lt_of_lt_of_le (Nat.pow_lt_pow_right (by omega) (show v < 8 by omega)) (by decide)
    rw [haY]
    refine ⟨⟨rfl, hvn, rfl, v3, ?_, ?_, ?_, or_lt v8 hv2⟩, rfl, fun p hp hpp => ?_⟩
    · show (if (mb B Y && !bn B Y) = true then 1 else Y 5) < 2
      split <;> omega
    · show (if (mb B Y && bn B Y) = true then 1 else Y 6) < 2
      split <;> omega
    · show (if B 30 0 (Y 0) = nI v then 1 else Y 7) < 2
      split <;> omega
    · show (Y 8 ||| 2 ^ v).testBit p = true ↔ (if B 30 0 (Y 0) = nI v then 1 else Y 7) = 1
      rw [Nat.testBit_or, Nat.testBit_two_pow, hpp]
      by_cases e : v = p
      · subst e
        simp
      · rw [if_neg (fun w => e ((nI_eq (by omega) (by omega)).mp w).symm), decide_eq_false e, Bool.or_false]
        exact vp p hp hpp
theorem vY_0 {n s g z : Nat} {Y : Nat → Nat} (hn : n ≤ 8) (hR : iR B) (hG : iG n s g z (Y 0) B) (hv : vY n B Y) (hs : stt B Y = 0) : vY n B (aY B Y) := by
  have ht : tg B Y ≠ none := fun w => by unfold stt at hs; rw [w] at hs; cases hs
  obtain ⟨⟨a0, a1, a2, a3, a5, a6, a7, a8⟩, a4, ap⟩ := vY_a hn hR hG hv ht
  have h20 : Y 2 + 1 < 20 := by
    unfold stt at hs
    cases hb : tg B Y with
    | none => exact absurd hb ht
    | some v =>
      rw [hb] at hs
      by_cases e : Y 2 + 1 < 20
      · exact e
      · exfalso
        have hs2 : (if v = gl B (Y 0) then 1 else if Y 2 + 1 < 20 then 0 else 2) = 0 := hs
        rw [if_neg e] at hs2
        split at hs2 <;> cases hs2
  refine ⟨⟨by rw [a0]; exact hv.1.1, a1, by omega, a3, a5, a6, a7, a8⟩, ?_, ?_⟩
  · rw [a4, a0]; exact hv.2.1
  · rw [a0]; exact ap
theorem c_note {n s g z j : Nat} {Y : Nat → Nat} (hn : n ≤ 8) (hR : iR B) (hG : iG n s g z (Y 0) B) (hv : vY n B Y) (ht : tg B Y ≠ none) (hf : frl B N) (hc : cY j (aY B Y) N) : ∃ N', am_run (am_I2 E) mI_Ma_noteArrival [.inr (.inl (some (17, 0))), .inr (.inl (some (19, j)))] N = some (none, N') ∧ (∀ a b s, a ≠ 17 → N' a b s = N a b s) ∧ N' 17 0 2 = N 17 0 2 ∧ N' 17 0 3 = N 17 0 3 + 1 ∧ N' 17 0 4 = N 17 0 4 + nI (d2 B Y) ∧ N' 17 0 5 = N 17 0 5 + nI (d3 B Y) ∧ N' 17 0 6 = N 17 0 6 := by
  obtain ⟨⟨a0, a1, a2, a3, a5, a6, a7, a8⟩, a4, ap⟩ := vY_a hn hR hG hv ht
  obtain ⟨c0, c1, c2, c3, c4, c5, c6, c7⟩ := id hc
  have v0 := hv.1.1
  rw [a0] at c0
  have a00 : ∀ x : Int32, x + nI 0 = x := fun x => Int32.add_zero x
  -- mixed or not, over any memory with these cells
  have mix : ∀ P : am_M, P 19 j 6 = nI (aY B Y 5) → P 19 j 7 = nI (aY B Y 6) → ∃ P', am_bI (am_run (am_I2 E) mI_Le_isMixed [.inr (.inl (some (19, j)))] P) (fun v1 M1 => if v1 = 0 then (some (none, M1) : Option (Option am_V × am_M)) else (some (none, am_up M1 17 0 5 ((M1 17 0 5) + 1)))) = some (none, P') ∧ (∀ a b s, (a ≠ 17 ∨ s ≠ 5) → P' a b s = P a b s) ∧ P' 17 0 5 = P 17 0 5 + nI (d3 B Y) := by
    intro P p6 p7
    rw [rq_Le_isMixed, p6, p7]
    unfold d3
    rcases b01 a5 with e | e
    · rw [e, if_pos (by decide), z_bI, if_pos rfl, if_neg (by decide)]
      exact ⟨P, rfl, fun _ _ _ _ => rfl, (a00 _).symm⟩
    · rw [e, if_neg (show ¬ nI 1 = 0 by decide), if_pos (show 1 = 1 from rfl)]
      rcases b01 a6 with e2 | e2
      · rw [e2, if_pos (show nI 0 = 0 by decide), z_bI, if_pos rfl, if_neg (show ¬ 0 = 1 by decide)]
        exact ⟨P, rfl, fun _ _ _ _ => rfl, (a00 _).symm⟩
      · rw [e2, if_neg (show ¬ nI 1 = 0 by decide), z_bI, if_neg z_ne10, if_pos (show 1 = 1 from rfl)]
        refine ⟨_, rfl, fun a b s h => ?_, rfl⟩
        exact am_up_ne (by rcases h with h | h; exact Or.inl h; exact Or.inr (Or.inr h))
  rw [rq_Ma_noteArrival, c0, c_flowAt_s v0, z_bR, eq_Ma_noteArrival_21v1]
  have e43 : (am_up N 17 0 3 (N 17 0 3 + 1)) 4 (Y 0) 3 = B 30 0 (Y 0) := (hf 4 (Y 0) 3 rfl).trans hG.2.2.2.2.1.1
  have e193 : (am_up N 17 0 3 (N 17 0 3 + 1)) 19 j 3 = nI (aY B Y 8) := c3
  rw [e43, e193]
  have fin : ∀ (P : am_M) (x : Int32), (∀ a b s, a ≠ 17 → P a b s = N a b s) → P 17 0 2 = N 17 0 2 → P 17 0 3 = N 17 0 3 + 1 → P 17 0 4 = N 17 0 4 + x → P 17 0 5 = N 17 0 5 → P 17 0 6 = N 17 0 6 → x = nI (d2 B Y) → ∃ N', am_bI (am_run (am_I2 E) mI_Le_isMixed [.inr (.inl (some (19, j)))] P) (fun v1 M1 => if v1 = 0 then (some (none, M1) : Option (Option am_V × am_M)) else (some (none, am_up M1 17 0 5 ((M1 17 0 5) + 1)))) = some (none, N') ∧ (∀ a b s, a ≠ 17 → N' a b s = N a b s) ∧ N' 17 0 2 = N 17 0 2 ∧ N' 17 0 3 = N 17 0 3 + 1 ∧ N' 17 0 4 = N 17 0 4 + nI (d2 B Y) ∧ N' 17 0 5 = N 17 0 5 + nI (d3 B Y) ∧ N' 17 0 6 = N 17 0 6 := by
    intro P x p1 p2 p3 p4 p5 p6 hx
    obtain ⟨P', k1, k2, k3⟩ := mix P ((p1 19 j 6 (by decide)).trans c6) ((p1 19 j 7 (by decide)).trans c7)
    refine ⟨P', k1, fun a b s h => (k2 a b s (Or.inl h)).trans (p1 a b s h), (k2 17 0 2 (Or.inr (by decide))).trans p2, (k2 17 0 3 (Or.inr (by decide))).trans p3, ?_, ?_, (k2 17 0 6 (Or.inr (by decide))).trans p6⟩
    · rw [(k2 17 0 4 (Or.inr (by decide))).trans p4, hx]
    · rw [k3, p5]
  have hother : ∀ a b s, a ≠ 17 → (am_up N 17 0 3 (N 17 0 3 + 1)) a b s = N a b s := fun a b s h => am_up_ne (Or.inl h)
  rcases hG.2.2.2.2.1.2 with hm | ⟨p, hp, -, -, hm⟩
  · rw [hm, if_pos rfl]
    exact fin _ 0 hother rfl rfl (Int32.add_zero _).symm rfl rfl (by unfold d2; rw [if_pos hm]; rfl)
  · have hd2 : d2 B Y = if aY B Y 7 = 0 then 1 else 0 := by
      unfold d2
      rw [hm, if_neg (nI_m1 (by omega))]
    have hiff := ap p (by omega) hm
    rw [hm, if_neg (nI_m1 (by omega))]
    cases hb : (aY B Y 8).testBit p with
    | true =>
      have hne : ¬ nI (aY B Y 8) &&& (1 : Int32) <<< (nI p &&& 31) = 0 := fun w => by
        have := (bt_ne0 (by omega)).mp w
        rw [bt_nI _ _ (by omega), hb] at this
        cases this
      rw [if_neg hne]
      exact fin _ 0 hother rfl rfl (Int32.add_zero _).symm rfl rfl (by rw [hd2, if_neg (by rw [hiff.mp hb]; decide)]; rfl)
    | false =>
      rw [if_pos ((bt_ne0 (by omega)).mpr (by rw [bt_nI _ _ (by omega)]; exact hb))]
      refine fin _ 1 (fun a b s h => (am_up_ne (Or.inl h)).trans (hother a b s h)) rfl rfl rfl rfl rfl ?_
      have h7 : aY B Y 7 = 0 := by
        rcases b01 a7 with e | e
        · exact e
        · rw [hiff.mpr e] at hb; cases hb
      rw [hd2, if_pos h7]
      rfl
/-- of so many letters: kept ones, those that are there, .. -/
def kp (B : am_M) (Y : Nat → Nat → Nat) : Nat → Nat
  | 0 => 0
  | i + 1 => if stt B (Y i) = 0 then kp B Y i + 1 else kp B Y i
def KY (B : am_M) (Y : Nat → Nat → Nat) : Nat → Nat → Nat → Nat
  | 0, _ => fun _ => 0
  | i + 1, j => if stt B (Y i) = 0 then (if j = kp B Y i then aY B (Y i) else KY B Y i j) else KY B Y i j
def k1N (B : am_M) (Y : Nat → Nat → Nat) : Nat → Nat
  | 0 => 0
  | i + 1 => k1N B Y i + (if stt B (Y i) = 1 then 1 else 0)
def k2N (B : am_M) (Y : Nat → Nat → Nat) : Nat → Nat
  | 0 => 0
  | i + 1 => k2N B Y i + (if stt B (Y i) = 1 then d2 B (Y i) else 0)
def k3N (B : am_M) (Y : Nat → Nat → Nat) : Nat → Nat
  | 0 => 0
  | i + 1 => k3N B Y i + (if stt B (Y i) = 1 then d3 B (Y i) else 0)
def k4N (B : am_M) (Y : Nat → Nat → Nat) : Nat → Nat
  | 0 => 0
  | i + 1 => k4N B Y i + (if stt B (Y i) = 2 then 1 else 0)
theorem kp_le (B : am_M) (Y : Nat → Nat → Nat) : ∀ i, kp B Y i ≤ i := by
  intro i
  induction i with
  | zero => exact Nat.le_refl 0
  | succ i ih => unfold kp; split <;> omega
theorem KY_v {n m : Nat} {Y : Nat → Nat → Nat} (hn : n ≤ 8) (hR : iR B) (hG : ∀ k, k < 3 → iG n (sr B k) (gl B k) (sz B k) k B) (hv : ∀ i, i < m → vY n B (Y i)) : ∀ i, i ≤ m → ∀ j, j < kp B Y i → vY n B (KY B Y i j) := by
  intro i
  induction i with
  | zero => intro _ j hj; exact absurd hj (Nat.not_lt_zero j)
  | succ i ih =>
    intro hi j hj
    by_cases e : stt B (Y i) = 0
    · have h1 : kp B Y (i + 1) = kp B Y i + 1 := if_pos e
      have h2 : KY B Y (i + 1) j = if j = kp B Y i then aY B (Y i) else KY B Y i j := if_pos e
      rw [h2]
      by_cases ej : j = kp B Y i
      · rw [if_pos ej]
        have := hv i (by omega)
        exact vY_0 hn hR (hG _ this.1.1) this e
      · rw [if_neg ej]
        exact ih (by omega) j (by omega)
    · have h1 : kp B Y (i + 1) = kp B Y i := if_neg e
      have h2 : KY B Y (i + 1) j = KY B Y i j := if_neg e
      rw [h2]
      exact ih (by omega) j (by omega)
theorem stt_lt (B : am_M) (Y : Nat → Nat) : stt B Y < 3 := by
  unfold stt
  split
  · omega
  · split
    · omega
    · split <;> omega
def S17 (a _s : Nat) : Bool := match a with
  | 17 => true
  | 18 => true
  | 19 => true
  | _ => false
theorem S17_tl {M N : am_M} (h : fS S17 M N) : frl M N := fun a w s e => h a w s (by
  unfold S17
  unfold tl at e
  split
  · cases e
  · cases e
  · cases e
  · rfl)
theorem lx_own {M : am_M} (h : iP M) {i : Nat} (hi : i < 12) : Int32.ofNat (am_lx (M 18 0 i)) = M 18 0 i := by
  obtain ⟨a, ha, ea⟩ := h.1 i hi
  rw [ea, lx_nI ha]
  rfl
theorem cY_cong {j : Nat} {Y : Nat → Nat} {M N : am_M} (h : ∀ s, N 19 j s = M 19 j s) (hc : cY j Y M) : cY j Y N := by
  obtain ⟨c0, c1, c2, c3, c4, c5, c6, c7⟩ := hc
  exact ⟨(h 0).trans c0, (h 1).trans c1, (h 2).trans c2, (h 3).trans c3, (h 4).trans c4, (h 5).trans c5, (h 6).trans c6, (h 7).trans c7⟩
theorem c_hopAll {n m : Nat} {Y : Nat → Nat → Nat} (hN : iN n M) (hR : iR M) (hG : ∀ k, k < 3 → iG n (sr M k) (gl M k) (sz M k) k M) (hH : ∀ k, k < 3 → ∃ t m p d, iH c t m p d k M) (hm : m ≤ 12) (h2 : M 17 0 2 = nI m) (hP : iP M) (hv : ∀ i, i < m → vY n M (Y i)) (hc : ∀ i, i < m → cY (am_lx (M 18 0 i)) (Y i) M) : ∃ N, am_run (am_I2 E) mI_Ma_hopAll [.inr (.inl (some (17, 0)))] M = some (some (.inl (nI (k1N M Y m))), N) ∧ fS S17 M N ∧ iP N ∧ N 17 0 2 = nI (kp M Y m) ∧ (∀ j, j < kp M Y m → cY (am_lx (N 18 0 j)) (KY M Y m j) N) ∧ N 17 0 3 = M 17 0 3 + nI (k1N M Y m) ∧ N 17 0 4 = M 17 0 4 + nI (k2N M Y m) ∧ N 17 0 5 = M 17 0 5 + nI (k3N M Y m) ∧ N 17 0 6 = M 17 0 6 + nI (k4N M Y m) := by
  have hn := hN.1
  rw [rq_Ma_hopAll]
  have loop : ∀ j i N u4 u5, i + j = m → fS S17 M N → iP N → N 17 0 2 = nI m → (∀ x, x < kp M Y i → cY (am_lx (N 18 0 x)) (KY M Y i x) N) → (∀ x, i ≤ x → x < m → cY (am_lx (N 18 0 x)) (Y x) N) → (N 17 0 3 = M 17 0 3 + nI (k1N M Y i) ∧ N 17 0 4 = M 17 0 4 + nI (k2N M Y i) ∧ N 17 0 5 = M 17 0 5 + nI (k3N M Y i) ∧ N 17 0 6 = M 17 0 6 + nI (k4N M Y i)) → ∃ N', am_ex (am_I2 E) mI_Ma_hopAll 6 [some (.inr (.inl (some (17, 0)))), some (.inl (nI (kp M Y i))), some (.inl (nI (k1N M Y i))), some (.inl (nI i)), u4, u5] [] N = some (some (.inl (nI (k1N M Y m))), N') ∧ fS S17 M N' ∧ iP N' ∧ N' 17 0 2 = nI (kp M Y m) ∧ (∀ j, j < kp M Y m → cY (am_lx (N' 18 0 j)) (KY M Y m j) N') ∧ N' 17 0 3 = M 17 0 3 + nI (k1N M Y m) ∧ N' 17 0 4 = M 17 0 4 + nI (k2N M Y m) ∧ N' 17 0 5 = M 17 0 5 + nI (k3N M Y m) ∧ N' 17 0 6 = M 17 0 6 + nI (k4N M Y m) := by
    intro j
    induction j with
    | zero =>
      intro i N u4 u5 hi hfN hPN n2 hK hYr hC
      have : i = m := by omega
      subst this
      refine ⟨am_up N 17 0 2 (nI (kp M Y i)), ?_, fS_up hfN rfl, hPN, rfl, hK, hC⟩
      rw [eq_Ma_hopAll_6, n2, if_neg (nI_nlt (by omega) (by omega))]
    | succ j ih =>
      intro i N u4 u5 hi hfN hPN n2 hK hYr hC
      have h12 : nI i < 12 := nI_lt (b := 12) (by omega) (by omega)
      have hkp := kp_le M Y i
      have hvi := hv i (by omega)
      obtain ⟨N1, k1, k2, k3⟩ := c_hop (E := E) (B := M) (N := N) (j := am_lx (N 18 0 i)) hN hR hG hH (S17_tl hfN) hvi (hYr i (by omega) (by omega))
      have f1 : fS S17 M N1 := fun a w s e => by
        rw [k3 a w s (Or.inl (fun z => by subst z; cases e))]
        exact hfN a w s e
      have p18 : ∀ x, N1 18 0 x = N 18 0 x := fun x => k3 18 0 x (Or.inl (by decide))
      have hP1 : iP N1 := ⟨fun x hx => by rw [p18]; exact hPN.1 x hx, fun x y hx hy e => by rw [p18, p18] at e; exact hPN.2 x y hx hy e⟩
      have hother : ∀ x, x < 12 → x ≠ i → ∀ s, N1 19 (am_lx (N 18 0 x)) s = N 19 (am_lx (N 18 0 x)) s := fun x hx hxi s => k3 19 _ s (Or.inr (iP_ne hPN hx (by omega) hxi))
      rw [eq_Ma_hopAll_6, n2, if_pos (nI_lt (by omega) (by omega)), if_pos h12, z_in (by omega) (by omega), z_if, z_ix (by omega), k1, z_bI, nI_1, nI_1]
      have h17 : ∀ x, N1 17 0 x = N 17 0 x := fun x => k3 17 0 x (Or.inl (by decide))
      have hst := stt_lt M (Y i)
      have hs3 : stt M (Y i) = 0 ∨ stt M (Y i) = 1 ∨ stt M (Y i) = 2 := by omega
      rcases hs3 with e | e | e
      · have ekp : kp M Y (i + 1) = kp M Y i + 1 := if_pos e
        have eKY : ∀ x, KY M Y (i + 1) x = if x = kp M Y i then aY M (Y i) else KY M Y i x := fun x => if_pos e
        have e1 : k1N M Y (i + 1) = k1N M Y i := by
          show k1N M Y i + (if stt M (Y i) = 1 then 1 else 0) = _
          rw [e]; rfl
        have e2 : k2N M Y (i + 1) = k2N M Y i := by
          show k2N M Y i + (if stt M (Y i) = 1 then d2 M (Y i) else 0) = _
          rw [e]; rfl
        have e3 : k3N M Y (i + 1) = k3N M Y i := by
          show k3N M Y i + (if stt M (Y i) = 1 then d3 M (Y i) else 0) = _
          rw [e]; rfl
        have e4 : k4N M Y (i + 1) = k4N M Y i := by
          show k4N M Y i + (if stt M (Y i) = 2 then 1 else 0) = _
          rw [e]; rfl
        rw [e, if_pos (by decide), z_in (by omega) (by omega), z_if, z_if, z_if, z_ix (by omega), lx_own hPN (by omega), lx_own hP1 (by omega), p18]
        have sw : ∀ x, (am_up (am_up N1 18 0 i (N 18 0 (kp M Y i))) 18 0 (kp M Y i) (N 18 0 i)) 18 0 x = if x = kp M Y i then N 18 0 i else if x = i then N 18 0 (kp M Y i) else N 18 0 x := by
          intro x
          rw [up_ap, up_ap, p18]
          simp
        have h := ih (i + 1) (am_up (am_up N1 18 0 i (N 18 0 (kp M Y i))) 18 0 (kp M Y i) (N 18 0 i)) (some (.inr (.inl (some (19, am_lx (N 18 0 i)))))) (some (.inl (nI 0))) (by omega) (fS_up (fS_up f1 rfl) rfl) ?_ ((h17 2).trans n2) ?_ ?_ ?_
        · rw [ekp, e1] at h
          exact h
        · -- a permutation again
          refine ⟨fun x hx => ?_, fun x y hx hy hxy => ?_⟩
          · rw [sw]
            split
            · exact hPN.1 i (by omega)
            · split
              · exact hPN.1 _ (by omega)
              · exact hPN.1 x hx
          · rw [sw, sw] at hxy
            by_cases x1 : x = kp M Y i
            · by_cases y1 : y = kp M Y i
              · omega
              · rw [if_pos x1, if_neg y1] at hxy
                by_cases y2 : y = i
                · rw [if_pos y2] at hxy
                  have := hPN.2 _ _ (by omega) (by omega) hxy
                  omega
                · rw [if_neg y2] at hxy
                  have := hPN.2 _ _ (by omega) (by omega) hxy
                  omega
            · rw [if_neg x1] at hxy
              by_cases y1 : y = kp M Y i
              · rw [if_pos y1] at hxy
                by_cases x2 : x = i
                · rw [if_pos x2] at hxy
                  have := hPN.2 _ _ (by omega) (by omega) hxy
                  omega
                · rw [if_neg x2] at hxy
                  have := hPN.2 _ _ (by omega) (by omega) hxy
                  omega
              · rw [if_neg y1] at hxy
                by_cases x2 : x = i
                · by_cases y2 : y = i
                  · omega
                  · rw [if_pos x2, if_neg y2] at hxy
                    have := hPN.2 _ _ (by omega) (by omega) hxy
                    omega
                · rw [if_neg x2] at hxy
                  by_cases y2 : y = i
                  · rw [if_pos y2] at hxy
                    have := hPN.2 _ _ (by omega) (by omega) hxy
                    omega
                  · rw [if_neg y2] at hxy
                    exact hPN.2 _ _ (by omega) (by omega) hxy
        · intro x hx
          rw [ekp] at hx
          rw [sw, eKY]
          by_cases x1 : x = kp M Y i
          · rw [if_pos x1, if_pos x1]
            exact k2
          · rw [if_neg x1, if_neg x1, if_neg (show x ≠ i by omega)]
            exact cY_cong (M := N) (fun s => hother x (by omega) (by omega) s) (hK x (by omega))
        · intro x hx1 hx2
          rw [sw, if_neg (show x ≠ kp M Y i by omega), if_neg (show x ≠ i by omega)]
          exact cY_cong (M := N) (fun s => hother x (by omega) (by omega) s) (hYr x (by omega) hx2)
        · rw [e1, e2, e3, e4]
          exact ⟨(h17 3).trans hC.1, (h17 4).trans hC.2.1, (h17 5).trans hC.2.2.1, (h17 6).trans hC.2.2.2⟩
      · have ekp : kp M Y (i + 1) = kp M Y i := by
          show (if stt M (Y i) = 0 then kp M Y i + 1 else kp M Y i) = _
          rw [e]; rfl
        have eKY : ∀ x, KY M Y (i + 1) x = KY M Y i x := fun x => by
          show (if stt M (Y i) = 0 then _ else KY M Y i x) = _
          rw [e]; rfl
        have e1 : k1N M Y (i + 1) = k1N M Y i + 1 := by
          show k1N M Y i + (if stt M (Y i) = 1 then 1 else 0) = _
          rw [e]; rfl
        have e2 : k2N M Y (i + 1) = k2N M Y i + d2 M (Y i) := by
          show k2N M Y i + (if stt M (Y i) = 1 then d2 M (Y i) else 0) = _
          rw [e]; rfl
        have e3 : k3N M Y (i + 1) = k3N M Y i + d3 M (Y i) := by
          show k3N M Y i + (if stt M (Y i) = 1 then d3 M (Y i) else 0) = _
          rw [e]; rfl
        have e4 : k4N M Y (i + 1) = k4N M Y i := by
          show k4N M Y i + (if stt M (Y i) = 2 then 1 else 0) = _
          rw [e]; rfl
        have ht : tg M (Y i) ≠ none := fun w => by unfold stt at e; rw [w] at e; cases e
        obtain ⟨N2, l1, l2, l3, l4, l5, l6, l7⟩ := c_note (E := E) (B := M) (N := N1) (j := am_lx (N 18 0 i)) hn.2 hR (hG _ hvi.1.1) hvi ht (S17_tl f1) k2
        rw [e, if_neg (by decide), if_pos (by decide), l1, z_bV, nI_1]
        have h := ih (i + 1) N2 (some (.inr (.inl (some (19, am_lx (N 18 0 i)))))) (some (.inl (nI 1))) (by omega) (fun a w s q => by
          rw [l2 a w s (fun z => by subst z; cases q)]
          exact f1 a w s q) ?_ ?_ ?_ ?_ ?_
        · rw [ekp, e1] at h
          exact h
        · exact ⟨fun x hx => by rw [l2 18 0 x (by decide), p18]; exact hPN.1 x hx, fun x y hx hy w => by rw [l2 18 0 x (by decide), l2 18 0 y (by decide), p18, p18] at w; exact hPN.2 x y hx hy w⟩
        · rw [l3, h17]; exact n2
        · intro x hx
          rw [ekp] at hx
          rw [l2 18 0 x (by decide), p18, eKY]
          exact cY_cong (M := N) (fun s => (l2 19 _ s (by decide)).trans (hother x (by omega) (by omega) s)) (hK x hx)
        · intro x hx1 hx2
          rw [l2 18 0 x (by decide), p18]
          exact cY_cong (M := N) (fun s => (l2 19 _ s (by decide)).trans (hother x (by omega) (by omega) s)) (hYr x (by omega) hx2)
        · rw [e1, e2, e3, e4, l4, l5, l6, l7, h17, h17, h17, h17, hC.1, hC.2.1, hC.2.2.1, hC.2.2.2, Int32.add_assoc, Int32.add_assoc, Int32.add_assoc, nI_1, nI_add, nI_add]
          exact ⟨rfl, rfl, rfl, rfl⟩
      · have ekp : kp M Y (i + 1) = kp M Y i := by
          show (if stt M (Y i) = 0 then kp M Y i + 1 else kp M Y i) = _
          rw [e]; rfl
        have eKY : ∀ x, KY M Y (i + 1) x = KY M Y i x := fun x => by
          show (if stt M (Y i) = 0 then _ else KY M Y i x) = _
          rw [e]; rfl
        have e1 : k1N M Y (i + 1) = k1N M Y i := by
          show k1N M Y i + (if stt M (Y i) = 1 then 1 else 0) = _
          rw [e]; rfl
        have e2 : k2N M Y (i + 1) = k2N M Y i := by
          show k2N M Y i + (if stt M (Y i) = 1 then d2 M (Y i) else 0) = _
          rw [e]; rfl
        have e3 : k3N M Y (i + 1) = k3N M Y i := by
          show k3N M Y i + (if stt M (Y i) = 1 then d3 M (Y i) else 0) = _
          rw [e]; rfl
        have e4 : k4N M Y (i + 1) = k4N M Y i + 1 := by
          show k4N M Y i + (if stt M (Y i) = 2 then 1 else 0) = _
          rw [e]; rfl
        rw [e, if_neg (by decide), if_neg (by decide)]
        have h := ih (i + 1) (am_up N1 17 0 6 (N1 17 0 6 + 1)) (some (.inr (.inl (some (19, am_lx (N 18 0 i)))))) (some (.inl (nI 2))) (by omega) (fS_up f1 rfl) hP1 ((h17 2).trans n2) ?_ ?_ ?_
        · rw [ekp, e1] at h
          exact h
        · intro x hx
          rw [ekp] at hx
          show cY (am_lx (N1 18 0 x)) _ _
          rw [p18, eKY]
          exact cY_cong (M := N) (fun s => hother x (by omega) (by omega) s) (hK x hx)
        · intro x hx1 hx2
          show cY (am_lx (N1 18 0 x)) _ _
          rw [p18]
          exact cY_cong (M := N) (fun s => hother x (by omega) (by omega) s) (hYr x (by omega) hx2)
        · refine ⟨?_, ?_, ?_, ?_⟩
          · rw [e1]; exact (h17 3).trans hC.1
          · rw [e2]; exact (h17 4).trans hC.2.1
          · rw [e3]; exact (h17 5).trans hC.2.2.1
          · rw [am_up_self, h17, hC.2.2.2, e4, Int32.add_assoc, nI_1]
  exact loop m 0 M none none (by omega) fS_rfl hP h2 (fun x hx => absurd hx (Nat.not_lt_zero x)) (fun x _ hx => hc x hx) ⟨(Int32.add_zero _).symm, (Int32.add_zero _).symm, (Int32.add_zero _).symm, (Int32.add_zero _).symm⟩
end
