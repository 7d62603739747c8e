/-! call: tick -/
def S38 (a s : Nat) : Bool := match a with
  | 38 => true
  | 25 => match s with
    | 16 => true
    | 17 => true
    | 18 => true
    | 19 => true
    | 20 => true
    | _ => false
  | _ => false
theorem S38_tl {M N K : am_M} (hf : frl M N) (h : fS S38 N K) : frl M K := fun a w s e => by
  rw [h a w s (by
    unfold S38
    unfold tl at e
    split
    · cases e
    · split
      · cases e
      · cases e
      · cases e
      · cases e
      · cases e
      · rfl
    · rfl)]
  exact hf a w s e
theorem tw_38 {i : Nat} {P Q : am_M} (h : ∀ a b s, tw i a s = false → Q a b s = P a b s) : fS S38 P Q := fun a w s e => h a w s (by
  unfold S38 at e
  unfold tw
  split
  · cases e
  · split
    · cases e
    · cases e
    · cases e
    · cases e
    · rfl
  · rfl)
theorem mY_cong {i : Nat} {Y : Nat → Nat} {M N : am_M} (h : ∀ x, x < 8 → N 38 0 (8 * i + x) = M 38 0 (8 * i + x)) (hc : mY i Y M) : mY i Y N := fun x hx => (h x hx).trans (hc x hx)
section
variable {E : am_E} {M B N : am_M} {c : Nat}
theorem m_copy {i s : Nat} {Y : Nat → Nat} {x1 : Int32} {P : am_M} (hi : i < 12) (hs : s ≤ i) (hm : mY i Y P) : ∃ N, am_ex (am_I2 E) mI_Mo_tick 31 [some (.inr (.inl (some (25, 0)))), some (.inl x1), some (.inl (nI s)), some (.inl (nI i)), some (.inl 0)] [] P = am_ex (am_I2 E) mI_Mo_tick 9 [some (.inr (.inl (some (25, 0)))), some (.inl x1), some (.inl (nI (s + 1))), some (.inl (nI (i + 1))), some (.inl (nI 8))] [] N ∧ mY s Y N ∧ ∀ a b z, (a ≠ 38 ∨ z / 8 ≠ s) → N a b z = P a b z := by
  have loop : ∀ j x N, x + j = 8 → mY i Y N → (∀ y, y < x → N 38 0 (8 * s + y) = nI (Y y)) → (∀ a b z, (a ≠ 38 ∨ z / 8 ≠ s) → N a b z = P a b z) → ∃ N', am_ex (am_I2 E) mI_Mo_tick 31 [some (.inr (.inl (some (25, 0)))), some (.inl x1), some (.inl (nI s)), some (.inl (nI i)), some (.inl (nI x))] [] N = am_ex (am_I2 E) mI_Mo_tick 9 [some (.inr (.inl (some (25, 0)))), some (.inl x1), some (.inl (nI (s + 1))), some (.inl (nI (i + 1))), some (.inl (nI 8))] [] N' ∧ mY s Y N' ∧ ∀ a b z, (a ≠ 38 ∨ z / 8 ≠ s) → N' a b z = P a b z := by
    intro j
    induction j with
    | zero =>
      intro x N hx hmi hms ho
      have : x = 8 := by omega
      subst this
      exact ⟨N, by rw [eq_Mo_tick_31, if_neg (by decide), nI_1, nI_1], hms, ho⟩
    | succ j ih =>
      intro x N hx hmi hms ho
      have h8 : nI x < 8 := nI_lt (b := 8) (by omega) (by omega)
      rw [eq_Mo_tick_31, if_pos h8, z_8mul, z_8mul, z_in (by omega) (by omega), z_if, z_in (by omega) (by omega), z_if, z_ix (by omega), z_ix (by omega), hmi x (by omega), nI_1]
      refine ih (x + 1) _ (by omega) (fun y hy => ?_) (fun y hy => ?_) (fun a b z h => ?_)
      · by_cases e : 8 * i + y = 8 * s + x
        · rw [e, am_up_self]
          rw [show y = x by omega]
        · rw [am_up_ne (Or.inr (Or.inr e))]
          exact hmi y hy
      · by_cases e : y = x
        · rw [e, am_up_self]
        · rw [am_up_ne (Or.inr (Or.inr (by omega)))]
          exact hms y (by omega)
      · rw [am_up_ne]
        · exact ho a b z h
        · rcases h with h | h
          · exact Or.inl h
          · exact Or.inr (Or.inr (by omega))
  exact loop 8 0 P rfl hm (fun y hy => absurd hy (by omega)) (fun _ _ _ _ => rfl)
theorem m_tick {n m : Nat} {Y : Nat → Nat → Nat} {N0 : am_M} (hN : iN n M) (hR : iR M) (hG : ∀ k, k < 3 → iG n (sr M k) (gl M k) (sz M k) k M) (hH : ∀ k, k < 3 → ∃ t m p d, iH c t m p d k M) (hm : m ≤ 12) (hf0 : frl M N0) (h16 : N0 25 0 16 = nI m) (hv : ∀ i, i < m → vY n M (Y i)) (hr : ∀ i, i < m → mY i (Y i) N0) : ∃ N, am_run (am_I2 E) mI_Mo_tick [.inr (.inl (some (25, 0)))] N0 = some (some (.inl (nI (k1N M Y m))), N) ∧ fS S38 N0 N ∧ N 25 0 16 = nI (kp M Y m) ∧ (∀ j, j < kp M Y m → mY j (KY M Y m j) N) ∧ N 25 0 17 = N0 25 0 17 + nI (k1N M Y m) ∧ N 25 0 18 = N0 25 0 18 + nI (k2N M Y m) ∧ N 25 0 19 = N0 25 0 19 + nI (k3N M Y m) ∧ N 25 0 20 = N0 25 0 20 + nI (k4N M Y m) := by
  rw [rq_Mo_tick]
  have loop : ∀ j i N u4, i + j = m → fS S38 N0 N → N 25 0 16 = nI m → (∀ x, x < kp M Y i → mY x (KY M Y i x) N) → (∀ x, i ≤ x → x < m → mY x (Y x) N) → (N 25 0 17 = N0 25 0 17 + nI (k1N M Y i) ∧ N 25 0 18 = N0 25 0 18 + nI (k2N M Y i) ∧ N 25 0 19 = N0 25 0 19 + nI (k3N M Y i) ∧ N 25 0 20 = N0 25 0 20 + nI (k4N M Y i)) → ∃ N', am_ex (am_I2 E) mI_Mo_tick 9 [some (.inr (.inl (some (25, 0)))), some (.inl (N0 25 0 17)), some (.inl (nI (kp M Y i))), some (.inl (nI i)), u4] [] N = some (some (.inl (nI (k1N M Y m))), N') ∧ fS S38 N0 N' ∧ N' 25 0 16 = nI (kp M Y m) ∧ (∀ j, j < kp M Y m → mY j (KY M Y m j) N') ∧ N' 25 0 17 = N0 25 0 17 + nI (k1N M Y m) ∧ N' 25 0 18 = N0 25 0 18 + nI (k2N M Y m) ∧ N' 25 0 19 = N0 25 0 19 + nI (k3N M Y m) ∧ N' 25 0 20 = N0 25 0 20 + nI (k4N M Y m) := by
    intro j
    induction j with
    | zero =>
      intro i N u4 hi hfN n16 hK hYr hC
      have : i = m := by omega
      subst this
      refine ⟨am_up N 25 0 16 (nI (kp M Y i)), ?_, fS_up hfN rfl, rfl, hK, hC⟩
      rw [eq_Mo_tick_9, n16, if_neg (nI_nlt (by omega) (by omega)), hC.1, Int32.add_comm (N0 25 0 17), Int32.add_sub_cancel]
    | succ j ih =>
      intro i N u4 hi hfN n16 hK hYr hC
      have hkp := kp_le M Y i
      have hvi := hv i (by omega)
      obtain ⟨N1, k1, k2, k3, k4, k5, k6, k7⟩ := m_hops (E := E) (B := M) (N := N) (i := i) (by omega) hN hR hG hH (S38_tl hf0 hfN) hvi (hYr i (by omega) (by omega))
      have f1 : fS S38 N0 N1 := fS_tr hfN (tw_38 k3)
      have n16' : N1 25 0 16 = nI m := (k3 25 0 16 rfl).trans n16
      have hoth : ∀ x, x ≠ i → ∀ y, y < 8 → N1 38 0 (8 * x + y) = N 38 0 (8 * x + y) := fun x hx y hy => k3 38 0 _ (by
        show Nat.beq ((8 * x + y) / 8) i = false
        rw [show (8 * x + y) / 8 = x by omega]
        exact beq_ne hx)
      have hC' : N1 25 0 17 = N0 25 0 17 + nI (k1N M Y (i + 1)) ∧ N1 25 0 18 = N0 25 0 18 + nI (k2N M Y (i + 1)) ∧ N1 25 0 19 = N0 25 0 19 + nI (k3N M Y (i + 1)) ∧ N1 25 0 20 = N0 25 0 20 + nI (k4N M Y (i + 1)) := by
        rw [k4, k5, k6, k7, hC.1, hC.2.1, hC.2.2.1, hC.2.2.2, Int32.add_assoc, Int32.add_assoc, Int32.add_assoc, Int32.add_assoc, nI_add, nI_add, nI_add, nI_add]
        exact ⟨rfl, rfl, rfl, rfl⟩
      rw [eq_Mo_tick_9, n16, if_pos (nI_lt (by omega) (by omega)), z_8m, k1, z_bI]
      by_cases e : stt M (Y i) = 0
      · have ekp : kp M Y (i + 1) = kp M Y i + 1 := if_pos e
        have eKY : ∀ x, KY M Y (i + 1) x = if x = kp M Y i then aY M (Y i) else KY M Y i x := fun x => if_pos e
        rw [decide_eq_true e, aI_t, if_neg z_ne10]
        obtain ⟨N2, l1, l2, l3⟩ := m_copy (E := E) (i := i) (s := kp M Y i) (x1 := N0 25 0 17) (P := N1) (by omega) hkp (k2 e)
        have f2 : fS S38 N0 N2 := fun a w s q => by
          rw [l3 a w s (Or.inl (fun z => by subst z; cases q))]
          exact f1 a w s q
        have h := ih (i + 1) N2 (some (.inl (nI 8))) (by omega) f2 ((l3 25 0 16 (Or.inl (by decide))).trans n16') ?_ ?_ ?_
        · rw [ekp] at h
          obtain ⟨N', h1, h2⟩ := h
          exact ⟨N', l1.trans h1, h2⟩
        · intro x hx
          rw [ekp] at hx
          rw [eKY]
          by_cases ex : x = kp M Y i
          · rw [if_pos ex, ex]; exact l2
          · rw [if_neg ex]
            refine mY_cong (M := N) (fun y hy => ?_) (hK x (by omega))
            rw [l3 38 0 _ (Or.inr (by omega))]
            exact hoth x (by omega) y hy
        · intro x hx1 hx2
          refine mY_cong (M := N) (fun y hy => ?_) (hYr x (by omega) hx2)
          rw [l3 38 0 _ (Or.inr (by omega))]
          exact hoth x (by omega) y hy
        · rw [l3 25 0 17 (Or.inl (by decide)), l3 25 0 18 (Or.inl (by decide)), l3 25 0 19 (Or.inl (by decide)), l3 25 0 20 (Or.inl (by decide))]
          exact hC'
      · have ekp : kp M Y (i + 1) = kp M Y i := if_neg e
        have eKY : ∀ x, KY M Y (i + 1) x = KY M Y i x := fun x => if_neg e
        rw [decide_eq_false e, aI_f, if_pos rfl, nI_1]
        have h := ih (i + 1) N1 u4 (by omega) f1 n16' ?_ ?_ hC'
        · rw [ekp] at h
          exact h
        · intro x hx
          rw [ekp] at hx
          rw [eKY]
          exact mY_cong (M := N) (fun y hy => hoth x (by omega) y hy) (hK x hx)
        · intro x hx1 hx2
          exact mY_cong (M := N) (fun y hy => hoth x (by omega) y hy) (hYr x (by omega) hx2)
  exact loop m 0 N0 none (by omega) fS_rfl h16 (fun x hx => absurd hx (Nat.not_lt_zero x)) (fun x _ hx => hr x hx) ⟨(Int32.add_zero _).symm, (Int32.add_zero _).symm, (Int32.add_zero _).symm, (Int32.add_zero _).symm⟩
theorem op_tick (hI : Inv c M) : pr E c M mI_Mx_tick mI_Mo_tick [] := by
  obtain ⟨n, hN, hW, hR, h4, h5, ⟨m, hL⟩, hC, hX⟩ := id hI
  have hn := hN.1
  have hG : ∀ k, k < 3 → iG n (sr M k) (gl M k) (sz M k) k M := fun k hk => by
    obtain ⟨s, g, z, h⟩ := h4 k hk
    exact iG_can hn.2 h
  have hY : ∀ i, ∃ Yi : Nat → Nat, i < m → vY n M Yi ∧ cY (am_lx (M 18 0 i)) Yi M ∧ mY i Yi M := by
    intro i
    by_cases hi : i < m
    · obtain ⟨f, u, h, a, d, o, w, q, e, y0, y1, y2, y3, y4, y5, y6, y7, y8, y9, y10, y11⟩ := hL.2.2.2 i hi
      refine ⟨fun x => match x with | 0 => f | 1 => u | 2 => h | 3 => a | 4 => d | 5 => o | 6 => w | 7 => q | _ => e, fun _ => ⟨⟨y0, y1, y11⟩, ⟨y2.1, y3.1, y4.1, y10, y6.1, y5.1, y7.1, y8.1⟩, fun x hx => ?_⟩⟩
      have hx8 : x = 0 ∨ x = 1 ∨ x = 2 ∨ x = 3 ∨ x = 4 ∨ x = 5 ∨ x = 6 ∨ x = 7 := by omega
      rcases hx8 with rfl | rfl | rfl | rfl | rfl | rfl | rfl | rfl
      · exact y2.2
      · exact y3.2
      · exact y4.2
      · exact y5.2
      · exact y6.2
      · exact y7.2
      · exact y8.2
      · exact y9
    · exact ⟨fun _ => 0, fun w => absurd w hi⟩
  obtain ⟨Y, hY⟩ : ∃ Y : Nat → Nat → Nat, ∀ i, i < m → vY n M (Y i) ∧ cY (am_lx (M 18 0 i)) (Y i) M ∧ mY i (Y i) M := ⟨fun i => Classical.choose (hY i), fun i => Classical.choose_spec (hY i)⟩
  obtain ⟨N1, k1, k2, k3, k4, k5, k6, k7, k8, k9⟩ := c_hopAll (E := E) (M := M) hN hR hG h5 hL.1 hL.2.1.1 hL.2.2.1 (fun i hi => (hY i hi).1) (fun i hi => (hY i hi).2.1)
  have hf1 : frl M N1 := S17_tl k2
  obtain ⟨N2, l1, l2, l3, l4, l5, l6, l7, l8⟩ := m_tick (E := E) (M := M) (N0 := N1) hN hR hG h5 hL.1 hf1 ((k2 25 0 16 rfl).trans hL.2.1.2) (fun i hi => (hY i hi).1) (fun i hi x hx => (k2 38 0 _ rfl).trans ((hY i hi).2.2 x hx))
  have hf2 : frl M N2 := S38_tl hf1 l2
  refine ⟨nI (k1N M Y m), N1, N2, ?_, l1, ?_⟩
  · rw [rq_Mx_tick, k1, z_bI]
  · have hle := kp_le M Y m
    refine Inv_let hf2 hN hW hR h4 h5 hX ⟨kp M Y m, by have := hL.1; omega, ⟨(l2 17 0 2 rfl).trans k4, l3⟩, ?_, fun i hi => ?_⟩ ?_
    · exact ⟨fun x hx => by rw [l2 18 0 x rfl]; exact k3.1 x hx, fun x y hx hy w => by rw [l2 18 0 x rfl, l2 18 0 y rfl] at w; exact k3.2 x y hx hy w⟩
    · have hv := KY_v hn.2 hR hG (fun i hi => (hY i hi).1) m (Nat.le_refl m) i hi
      obtain ⟨c0, c1, c2, c3, c4, c5, c6, c7⟩ := k5 i hi
      have r := l4 i hi
      have e19 : ∀ s, N2 19 (am_lx (N2 18 0 i)) s = N1 19 (am_lx (N1 18 0 i)) s := fun s => by rw [l2 18 0 i rfl, l2 19 _ s rfl]
      refine ⟨KY M Y m i 0, KY M Y m i 1, KY M Y m i 2, KY M Y m i 3, KY M Y m i 4, KY M Y m i 5, KY M Y m i 6, KY M Y m i 7, KY M Y m i 8, hv.1, ?_, ⟨(e19 0).trans c0, r 0 (by omega)⟩, ⟨(e19 1).trans c1, r 1 (by omega)⟩, ⟨(e19 2).trans c2, r 2 (by omega)⟩, ⟨(e19 5).trans c5, r 3 (by omega)⟩, ⟨(e19 4).trans c4, r 4 (by omega)⟩, ⟨(e19 6).trans c6, r 5 (by omega)⟩, ⟨(e19 7).trans c7, r 6 (by omega)⟩, r 7 (by omega), (e19 3).trans c3, ?_⟩
      · rw [hf2 37 0 _ rfl]; exact hv.2.1
      · rw [hf2 30 0 _ rfl]; exact hv.2.2
    · refine ⟨?_, ?_, ?_, ?_⟩
      · rw [l2 17 0 3 rfl, k6, l5, k2 25 0 17 rfl, hC.1]
      · rw [l2 17 0 4 rfl, k7, l6, k2 25 0 18 rfl, hC.2.1]
      · rw [l2 17 0 5 rfl, k8, l7, k2 25 0 19 rfl, hC.2.2.1]
      · rw [l2 17 0 6 rfl, k9, l8, k2 25 0 20 rfl, hC.2.2.2]
end
