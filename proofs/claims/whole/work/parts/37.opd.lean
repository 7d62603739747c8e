/-! calls: send, table, ready, count; stale letters -/
/-- cells of letters -/
def tl (a s : Nat) : Bool := match a with
  | 17 => true
  | 18 => true
  | 19 => true
  | 38 => true
  | 25 => match s with
    | 16 => true
    | 17 => true
    | 18 => true
    | 19 => true
    | 20 => true
    | _ => false
  | _ => false
def ovl (N M : am_M) : am_M := fun a w s => match tl a s with
  | true => N a w s
  | false => M a w s
def frl (M N : am_M) : Prop := ∀ a w s, tl a s = false → N a w s = M a w s
theorem frl_ov {M N : am_M} (h : frl M N) : N = ovl N M := by
  funext a w s
  unfold ovl
  cases e : tl a s with
  | true => rfl
  | false => exact h a w s e
theorem frl_rfl {M : am_M} : frl M M := fun _ _ _ _ => rfl
theorem frl_tr {M N K : am_M} (h : frl M N) (h2 : frl N K) : frl M K := fun k w s e => (h2 k w s e).trans (h k w s e)
theorem frl_up {M N : am_M} {a b c : Nat} {x : Int32} (h : frl M N) (hs : tl a c = true) : frl M (am_up N a b c x) := by
  intro a' w s e
  rw [← h a' w s e]
  apply am_up_ne
  by_cases h1 : a' = a
  · by_cases h2 : s = c
    · subst h1; subst h2
      rw [hs] at e
      cases e
    · exact Or.inr (Or.inr h2)
  · exact Or.inl h1
theorem Inv_let {c n : Nat} {M N : am_M} (hf : frl M N) (h1 : iN n M) (h2 : iW M) (h3 : iR M) (h4 : ∀ k, k < 3 → ∃ s g z, iG n s g z k M) (h5 : ∀ k, k < 3 → ∃ t m p d, iH c t m p d k M) (hX : iX M) (hL : ∃ m, iL n m N) (hC : iC N) : Inv (c + 1) N := by
  have a5 : ∀ k, k < 3 → ∃ t m p d, iH c t m p d k N := by rw [frl_ov hf]; exact h5
  refine ⟨n, ?_, ?_, ?_, ?_, fun k hk => ?_, hL, hC, ?_⟩
  · rw [frl_ov hf]; exact h1
  · rw [frl_ov hf]; exact h2
  · rw [frl_ov hf]; exact h3
  · rw [frl_ov hf]; exact h4
  · obtain ⟨t, m, p, d, w⟩ := a5 k hk
    exact ⟨t, m, p, d, iH_mono w⟩
  · rw [frl_ov hf]; exact hX
theorem lx_nI {j : Nat} (h : j < 12) : am_lx (nI j) = j := by
  unfold am_lx
  rw [nI_clamp (by omega)]
  omega
theorem iP_ne {M : am_M} (h : iP M) {i j : Nat} (hi : i < 12) (hj : j < 12) (hij : i ≠ j) : am_lx (M 18 0 i) ≠ am_lx (M 18 0 j) := by
  obtain ⟨a, ha, ea⟩ := h.1 i hi
  obtain ⟨b, hb, eb⟩ := h.1 j hj
  intro w
  rw [ea, eb, lx_nI ha, lx_nI hb] at w
  apply hij
  apply h.2 i j hi hj
  rw [ea, eb, w]
/-- a letter is sent -/
def sC (j k s d a m : Nat) (M : am_M) : am_M := am_up (am_up (am_up (am_up (am_up (am_up (am_up (am_up (am_up M 19 j 0 (nI k)) 19 j 1 (nI s)) 19 j 2 0) 19 j 3 (nI (2 ^ s))) 19 j 4 (nI d)) 19 j 5 (nI a)) 19 j 6 0) 19 j 7 0) 17 0 2 (nI (m + 1))
def sM (k s d a m : Nat) (M : am_M) : am_M := am_up (am_up (am_up (am_up (am_up (am_up (am_up (am_up (am_up M 38 0 (8 * m) (nI k)) 38 0 (8 * m + 1) (nI s)) 38 0 (8 * m + 2) 0) 38 0 (8 * m + 3) (nI a)) 38 0 (8 * m + 4) (nI d)) 38 0 (8 * m + 5) 0) 38 0 (8 * m + 6) 0) 38 0 (8 * m + 7) 0) 25 0 16 (nI (m + 1))
section
variable {E : am_E} {M : am_M} {c : Nat}
theorem c_post {k s d p m : Nat} (hk : k < 3) (hs : s < 8) (hm : m < 12) (hp : p < 3) (h2 : M 17 0 2 = nI m) (h0 : M 4 k 0 = nI s) (h10 : M 4 k 10 = nI d) (h7 : M 4 k 7 = nI p) : am_run (am_I2 E) mI_Ma_post [.inr (.inl (some (17, 0))), .inl (nI k)] M = some (some (.inl 1), sC (am_lx (M 18 0 m)) k s d (if p = 2 then 1 else 0) m M) := by
  rw [rq_Ma_post, c_flowAt_s hk, z_bR, eq_Ma_post_8v1, h2, c_isPlace_s (y := 12) (n := 12) rfl hm (by omega), z_bI, if_neg z_ne10, h2, z_in hm (by omega), z_if, z_ix (by omega), h7, h0, h10, nI_shl hs, nI_1]
  by_cases e : p = 2
  · subst e
    rw [if_pos (by decide), if_pos rfl]
    rfl
  · rw [if_neg (p_ne2 hp e), if_neg e]
    rfl
theorem m_send_s {k s d p m : Nat} (hk : k < 3) (hm : m < 12) (hp : p < 3) (h2 : M 25 0 16 = nI m) (h0 : M 27 0 k = nI s) (h10 : M 37 0 k = nI d) (h7 : M 34 0 k = nI p) : am_run (am_I2 E) mI_Mo_send [.inr (.inl (some (25, 0))), .inl (nI k)] M = some (some (.inl (nI (m + 1))), sM k s d (if p = 2 then 1 else 0) m M) := by
  have h12 : ¬ nI m = 12 := fun w => absurd ((nI_eq (b := 12) (by omega) (by omega)).mp w) (by omega)
  rw [rq_Mo_send, m_isFlow_s hk, z_bI, if_neg z_ne10, h2, if_neg h12, z_8a 1 (y := 1) rfl, z_8a 2 (y := 2) rfl, z_8a 3 (y := 3) rfl, z_8a 4 (y := 4) rfl, z_8a 5 (y := 5) rfl, z_8a 6 (y := 6) rfl, z_8a 7 (y := 7) rfl, z_8m, z_in hk (by omega), z_in (u := 8 * m) (by omega) (by omega), z_in (u := 8 * m + 1) (by omega) (by omega), z_in (u := 8 * m + 2) (by omega) (by omega), z_in (u := 8 * m + 3) (by omega) (by omega), z_in (u := 8 * m + 4) (by omega) (by omega), z_in (u := 8 * m + 5) (by omega) (by omega), z_in (u := 8 * m + 6) (by omega) (by omega), z_in (u := 8 * m + 7) (by omega) (by omega)]
  simp only [z_if]
  rw [z_ix (u := k) (by omega), z_ix (u := 8 * m) (by omega), z_ix (u := 8 * m + 1) (by omega), z_ix (u := 8 * m + 2) (by omega), z_ix (u := 8 * m + 3) (by omega), z_ix (u := 8 * m + 4) (by omega), z_ix (u := 8 * m + 5) (by omega), z_ix (u := 8 * m + 6) (by omega), z_ix (u := 8 * m + 7) (by omega), h7, h0, h10, nI_1]
  by_cases e : p = 2
  · subst e
    rw [if_pos (by decide), if_pos rfl]
    rfl
  · rw [if_neg (p_ne2 hp e), if_neg e]
    rfl
theorem sM_ne {k s d a m x : Nat} (h : x < 8 * m) : sM k s d a m M 38 0 x = M 38 0 x := by
  show am_up (am_up (am_up (am_up (am_up (am_up (am_up (am_up M 38 0 (8 * m) (nI k)) 38 0 (8 * m + 1) (nI s)) 38 0 (8 * m + 2) 0) 38 0 (8 * m + 3) (nI a)) 38 0 (8 * m + 4) (nI d)) 38 0 (8 * m + 5) 0) 38 0 (8 * m + 6) 0) 38 0 (8 * m + 7) 0 38 0 x = M 38 0 x
  rw [am_up_ne (Or.inr (Or.inr (by omega))), am_up_ne (Or.inr (Or.inr (by omega))), am_up_ne (Or.inr (Or.inr (by omega))), am_up_ne (Or.inr (Or.inr (by omega))), am_up_ne (Or.inr (Or.inr (by omega))), am_up_ne (Or.inr (Or.inr (by omega))), am_up_ne (Or.inr (Or.inr (by omega))), am_up_ne (Or.inr (Or.inr (by omega)))]
theorem sC_ne {j k s d a m i x : Nat} (h : i ≠ j) : sC j k s d a m M 19 i x = M 19 i x := by
  show am_up (am_up (am_up (am_up (am_up (am_up (am_up (am_up M 19 j 0 (nI k)) 19 j 1 (nI s)) 19 j 2 0) 19 j 3 (nI (2 ^ s))) 19 j 4 (nI d)) 19 j 5 (nI a)) 19 j 6 0) 19 j 7 0 19 i x = M 19 i x
  rw [am_up_ne (Or.inr (Or.inl h)), am_up_ne (Or.inr (Or.inl h)), am_up_ne (Or.inr (Or.inl h)), am_up_ne (Or.inr (Or.inl h)), am_up_ne (Or.inr (Or.inl h)), am_up_ne (Or.inr (Or.inl h)), am_up_ne (Or.inr (Or.inl h)), am_up_ne (Or.inr (Or.inl h))]
theorem op_send (hc : c < 2 ^ 30) (hI : Inv c M) (x : Int32) : pr E c M mI_Mx_send mI_Mo_send [.inl x] := by
  obtain ⟨n, h1, h2, h3, h4, h5, ⟨m, hL⟩, hC, hX⟩ := id hI
  rcases ob_or x (n := 3) (by omega) with hx | ⟨k, hk, rfl⟩
  · refine ⟨-2, M, M, ?_, ?_, Inv_mono hI⟩
    · rw [rq_Mx_send, c_flowAt_n hx, z_bR, eq_Mx_send_8v0]
    · rw [rq_Mo_send, m_isFlow_n hx, z_bI, if_pos rfl]
  · by_cases hm : m = 12
    · subst hm
      have e16 : M 25 0 16 = 12 := hL.2.1.2
      refine ⟨-5, M, M, ?_, ?_, Inv_mono hI⟩
      · rw [rq_Mx_send, c_flowAt_s hk, z_bR, eq_Mx_send_8v1, rq_Ma_post, c_flowAt_s hk, z_bR, eq_Ma_post_8v1, hL.2.1.1, c_isPlace_n (y := 12) (n := 12) rfl (Or.inr (by decide)), z_bI, if_pos rfl, z_bI, if_pos rfl]
      · rw [rq_Mo_send, m_isFlow_s hk, z_bI, if_neg z_ne10, if_pos e16]
    · have hm2 : m < 12 := by have := hL.1; omega
      obtain ⟨s, g, z, ⟨g0, g1, g2, g3, g4, g5⟩⟩ := h4 k hk
      obtain ⟨t, m', p, d, hH⟩ := h5 k hk
      obtain ⟨f0, f1, f2, f3, f4, f5⟩ := id hH
      have hn := h1.1
      let a := if p = 2 then 1 else 0
      have ha : a < 2 := by show (if p = 2 then 1 else 0) < 2; split <;> omega
      let j := am_lx (M 18 0 m)
      refine ⟨nI (m + 1), sC j k s d a m M, sM k s d a m (sC j k s d a m M), ?_, ?_, ?_⟩
      · rw [rq_Mx_send, c_flowAt_s hk, z_bR, eq_Mx_send_8v1, c_post hk (by omega) hm2 f0.2.2.2.1 hL.2.1.1 g1.1 f5.1 f2.1, z_bI, if_neg z_ne10]
        rfl
      · exact m_send_s (M := sC j k s d a m M) hk hm2 f0.2.2.2.1 hL.2.1.2 g1.2 f5.2 f2.2
      · have hfl : frl M (sM k s d a m (sC j k s d a m M)) := by
          unfold sM sC
          repeat (first | exact frl_rfl | (refine frl_up ?_ ?_; rotate_left; · rfl))
        refine Inv_let hfl h1 h2 h3 h4 h5 hX ⟨m + 1, by omega, ⟨rfl, rfl⟩, hL.2.2.1, fun i hi => ?_⟩ hC
        by_cases e : i = m
        · subst e
          refine ⟨k, s, 0, a, d, 0, 0, 0, 2 ^ s, ⟨hk, g0.1, by omega, ha, by omega, by omega, by omega, ?_⟩, ?_, ⟨?_, ?_⟩, ⟨?_, ?_⟩, ⟨?_, ?_⟩, ⟨?_, ?_⟩, ⟨?_, ?_⟩, ⟨?_, ?_⟩, ⟨?_, ?_⟩, ?_, ?_, ?_⟩
          · exact Nat.lt_of_lt_of_le (Nat.pow_lt_pow_right (by omega) (show s < 8 by omega)) (by decide)
          · show d ≤ (M 37 0 k).toNatClampNeg
            rw [f5.2, nI_clamp (by omega)]; omega
          · exact am_up_self M 19 j 0 (nI k)
          · show am_up (am_up (am_up (am_up (am_up (am_up (am_up (am_up M 38 0 (8 * i) (nI k)) 38 0 (8 * i + 1) (nI s)) 38 0 (8 * i + 2) 0) 38 0 (8 * i + 3) (nI a)) 38 0 (8 * i + 4) (nI d)) 38 0 (8 * i + 5) 0) 38 0 (8 * i + 6) 0) 38 0 (8 * i + 7) 0 38 0 (8 * i) = _
            rw [am_up_ne (Or.inr (Or.inr (by omega))), am_up_ne (Or.inr (Or.inr (by omega))), am_up_ne (Or.inr (Or.inr (by omega))), am_up_ne (Or.inr (Or.inr (by omega))), am_up_ne (Or.inr (Or.inr (by omega))), am_up_ne (Or.inr (Or.inr (by omega))), am_up_ne (Or.inr (Or.inr (by omega))), am_up_self]
          · exact am_up_self M 19 j 1 (nI s)
          · show am_up (am_up (am_up (am_up (am_up (am_up (am_up (am_up M 38 0 (8 * i) (nI k)) 38 0 (8 * i + 1) (nI s)) 38 0 (8 * i + 2) 0) 38 0 (8 * i + 3) (nI a)) 38 0 (8 * i + 4) (nI d)) 38 0 (8 * i + 5) 0) 38 0 (8 * i + 6) 0) 38 0 (8 * i + 7) 0 38 0 (8 * i + 1) = _
            rw [am_up_ne (Or.inr (Or.inr (by omega))), am_up_ne (Or.inr (Or.inr (by omega))), am_up_ne (Or.inr (Or.inr (by omega))), am_up_ne (Or.inr (Or.inr (by omega))), am_up_ne (Or.inr (Or.inr (by omega))), am_up_ne (Or.inr (Or.inr (by omega))), am_up_self]
          · exact am_up_self M 19 j 2 0
          · show am_up (am_up (am_up (am_up (am_up (am_up (am_up (am_up M 38 0 (8 * i) (nI k)) 38 0 (8 * i + 1) (nI s)) 38 0 (8 * i + 2) 0) 38 0 (8 * i + 3) (nI a)) 38 0 (8 * i + 4) (nI d)) 38 0 (8 * i + 5) 0) 38 0 (8 * i + 6) 0) 38 0 (8 * i + 7) 0 38 0 (8 * i + 2) = _
            rw [am_up_ne (Or.inr (Or.inr (by omega))), am_up_ne (Or.inr (Or.inr (by omega))), am_up_ne (Or.inr (Or.inr (by omega))), am_up_ne (Or.inr (Or.inr (by omega))), am_up_ne (Or.inr (Or.inr (by omega))), am_up_self]
            rfl
          · exact am_up_self M 19 j 5 (nI a)
          · show am_up (am_up (am_up (am_up (am_up (am_up (am_up (am_up M 38 0 (8 * i) (nI k)) 38 0 (8 * i + 1) (nI s)) 38 0 (8 * i + 2) 0) 38 0 (8 * i + 3) (nI a)) 38 0 (8 * i + 4) (nI d)) 38 0 (8 * i + 5) 0) 38 0 (8 * i + 6) 0) 38 0 (8 * i + 7) 0 38 0 (8 * i + 3) = _
            rw [am_up_ne (Or.inr (Or.inr (by omega))), am_up_ne (Or.inr (Or.inr (by omega))), am_up_ne (Or.inr (Or.inr (by omega))), am_up_ne (Or.inr (Or.inr (by omega))), am_up_self]
          · exact am_up_self M 19 j 4 (nI d)
          · show am_up (am_up (am_up (am_up (am_up (am_up (am_up (am_up M 38 0 (8 * i) (nI k)) 38 0 (8 * i + 1) (nI s)) 38 0 (8 * i + 2) 0) 38 0 (8 * i + 3) (nI a)) 38 0 (8 * i + 4) (nI d)) 38 0 (8 * i + 5) 0) 38 0 (8 * i + 6) 0) 38 0 (8 * i + 7) 0 38 0 (8 * i + 4) = _
            rw [am_up_ne (Or.inr (Or.inr (by omega))), am_up_ne (Or.inr (Or.inr (by omega))), am_up_ne (Or.inr (Or.inr (by omega))), am_up_self]
          · exact am_up_self M 19 j 6 0
          · show am_up (am_up (am_up (am_up (am_up (am_up (am_up (am_up M 38 0 (8 * i) (nI k)) 38 0 (8 * i + 1) (nI s)) 38 0 (8 * i + 2) 0) 38 0 (8 * i + 3) (nI a)) 38 0 (8 * i + 4) (nI d)) 38 0 (8 * i + 5) 0) 38 0 (8 * i + 6) 0) 38 0 (8 * i + 7) 0 38 0 (8 * i + 5) = _
            rw [am_up_ne (Or.inr (Or.inr (by omega))), am_up_ne (Or.inr (Or.inr (by omega))), am_up_self]
            rfl
          · exact am_up_self M 19 j 7 0
          · show am_up (am_up (am_up (am_up (am_up (am_up (am_up (am_up M 38 0 (8 * i) (nI k)) 38 0 (8 * i + 1) (nI s)) 38 0 (8 * i + 2) 0) 38 0 (8 * i + 3) (nI a)) 38 0 (8 * i + 4) (nI d)) 38 0 (8 * i + 5) 0) 38 0 (8 * i + 6) 0) 38 0 (8 * i + 7) 0 38 0 (8 * i + 6) = _
            rw [am_up_ne (Or.inr (Or.inr (by omega))), am_up_self]
            rfl
          · exact am_up_self _ 38 0 (8 * i + 7) 0
          · exact am_up_self M 19 j 3 (nI (2 ^ s))
          · intro q hq e30
            have e30' : M 30 0 k = nI q := e30
            rcases g4.2 with w | ⟨q', hq', hqs, -, w⟩
            · rw [w] at e30'
              have : ¬ (-1 : Int32) = nI q := fun w => by
                have h1 : ¬ nI q < 0 := nI_pos (by omega)
                rw [← w] at h1
                exact h1 (by decide)
              exact absurd e30' this
            · rw [w, nI_eq (by omega) (by omega)] at e30'
              subst e30'
              rw [Nat.testBit_two_pow]
              simp [Ne.symm hqs]
        · obtain ⟨f, u, h, b, d', o, w, q, e', y0, y1, z0, z1, z2, z3, z4, z5, z6, z7, z8, z9⟩ := hL.2.2.2 i (by omega)
          have hne : am_lx (M 18 0 i) ≠ j := iP_ne hL.2.2.1 (by omega) hm2 e
          have e19 : ∀ x, sM k s d a m (sC j k s d a m M) 19 (am_lx (M 18 0 i)) x = M 19 (am_lx (M 18 0 i)) x := fun x => sC_ne (m := m) hne
          have e38 : ∀ x, x < 8 → sM k s d a m (sC j k s d a m M) 38 0 (8 * i + x) = M 38 0 (8 * i + x) := fun x hx => sM_ne (M := sC j k s d a m M) (by omega)
          exact ⟨f, u, h, b, d', o, w, q, e', y0, y1, ⟨(e19 0).trans z0.1, (e38 0 (by omega)).trans z0.2⟩, ⟨(e19 1).trans z1.1, (e38 1 (by omega)).trans z1.2⟩, ⟨(e19 2).trans z2.1, (e38 2 (by omega)).trans z2.2⟩, ⟨(e19 5).trans z3.1, (e38 3 (by omega)).trans z3.2⟩, ⟨(e19 4).trans z4.1, (e38 4 (by omega)).trans z4.2⟩, ⟨(e19 6).trans z5.1, (e38 5 (by omega)).trans z5.2⟩, ⟨(e19 7).trans z6.1, (e38 6 (by omega)).trans z6.2⟩, (e38 7 (by omega)).trans z7, (e19 3).trans z8, z9⟩
end
