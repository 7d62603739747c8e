/-! call: rules -/
theorem PA_le {X : Nat → Nat} {l : Nat} : ∀ {j q nn : Nat} {ss gg : Nat → Nat}, q ≤ l → ∀ p, (PA X l j q nn ss gg).1 = some p → p ≤ l := by
  intro j
  induction j with
  | zero =>
    intro q nn ss gg hq p h
    have h : some 0 = some p := h
    cases h
    omega
  | succ j ih =>
    intro q nn ss gg hq p h
    have hle := clr_le (X := X) (l := l) (nn := nn) (q := q) (ss := ss) (gg := gg) hq
    cases hok : (clr X l nn ss gg q).1 with
    | false =>
      rw [PA_f hok] at h
      cases h
      exact tS_le hle
    | true =>
      rw [PA_t hok] at h
      have h2 : (PB X l j (clr X l nn ss gg q).2.1 (uN (clk X l q) (clr X l nn ss gg q).2.2 nn) (uS (clk X l q) (clr X l nn ss gg q).2.2 ss) (uG (clk X l q) (clr X l nn ss gg q).2.2 gg)).1 = some p := h
      unfold PB at h2
      split at h2
      · cases h2
      · split at h2
        · cases h2
          exact tS_le hle
        · split at h2
          · exact ih (tE_le hle).2.1 p h2
          · cases h2
            exact tS_le hle
section
variable {E : am_E} {M N A : am_M} {X : Nat → Nat} {l c : Nat}
theorem c_calm : ∃ N', am_run (am_I2 E) mI_Ne_calmFlows [.inr (.inl (some (1, 0)))] N = some (none, N') ∧ (∀ k, k < 3 → N' 4 k 6 = 0 ∧ N' 4 k 7 = 0 ∧ N' 4 k 9 = 0 ∧ N' 4 k 10 = 0) ∧ ∀ a b s, (a ≠ 4 ∨ (s ≠ 6 ∧ s ≠ 7 ∧ s ≠ 9 ∧ s ≠ 10)) → N' a b s = N a b s := by
  rw [rq_Ne_calmFlows]
  have loop : ∀ j i P, i + j = 3 → (∀ k, k < i → P 4 k 6 = 0 ∧ P 4 k 7 = 0 ∧ P 4 k 9 = 0 ∧ P 4 k 10 = 0) → (∀ a b s, (a ≠ 4 ∨ (s ≠ 6 ∧ s ≠ 7 ∧ s ≠ 9 ∧ s ≠ 10)) → P a b s = N a b s) → ∃ N', am_ex (am_I2 E) mI_Ne_calmFlows 2 [some (.inr (.inl (some (1, 0)))), some (.inl (nI i))] [] P = some (none, N') ∧ (∀ k, k < 3 → N' 4 k 6 = 0 ∧ N' 4 k 7 = 0 ∧ N' 4 k 9 = 0 ∧ N' 4 k 10 = 0) ∧ ∀ a b s, (a ≠ 4 ∨ (s ≠ 6 ∧ s ≠ 7 ∧ s ≠ 9 ∧ s ≠ 10)) → N' a b s = N a b s := by
    intro j
    induction j with
    | zero =>
      intro i P hi hk ho
      have h3 : ¬ nI i < 3 := nI_nlt (b := 3) (by omega) (by omega)
      exact ⟨P, by rw [eq_Ne_calmFlows_2, if_neg h3], fun k hk2 => hk k (by omega), ho⟩
    | succ j ih =>
      intro i P hi hk ho
      have h3 : nI i < 3 := nI_lt (b := 3) (by omega) (by omega)
      rw [eq_Ne_calmFlows_2, if_pos h3, z_in (by omega) (by omega), z_if, z_ix (by omega), rq_Fl_calm, z_bV, nI_1]
      refine ih (i + 1) _ (by omega) (fun k hk2 => ?_) (fun a b s h => ?_)
      · by_cases e : k = i
        · subst e
          exact ⟨am_up_self P 4 k 6 0, am_up_self (am_up P 4 k 6 0) 4 k 7 0, am_up_self (am_up (am_up P 4 k 6 0) 4 k 7 0) 4 k 9 0, am_up_self _ 4 k 10 0⟩
        · have hh : ∀ s, (am_up (am_up (am_up (am_up P 4 i 6 0) 4 i 7 0) 4 i 9 0) 4 i 10 0) 4 k s = P 4 k s := fun s => by
            rw [am_up_ne (Or.inr (Or.inl e)), am_up_ne (Or.inr (Or.inl e)), am_up_ne (Or.inr (Or.inl e)), am_up_ne (Or.inr (Or.inl e))]
          rw [hh, hh, hh, hh]
          exact hk k (by omega)
      · rw [am_up_ne (by rcases h with h | h; exact Or.inl h; exact Or.inr (Or.inr h.2.2.2)), am_up_ne (by rcases h with h | h; exact Or.inl h; exact Or.inr (Or.inr h.2.2.1)), am_up_ne (by rcases h with h | h; exact Or.inl h; exact Or.inr (Or.inr h.2.1)), am_up_ne (by rcases h with h | h; exact Or.inl h; exact Or.inr (Or.inr h.1))]
        exact ho a b s h
  exact loop 3 0 N rfl (fun k hk => absurd hk (by omega)) (fun _ _ _ _ => rfl)
theorem m_calm : ∃ N', am_ex (am_I2 E) mI_Mo_rules 24 [some (.inr (.inl (some (25, 0)))), some (.inl 0)] [] N = some (some (.inl (N 25 0 28)), am_up (am_up (am_up (am_up (am_up N' 25 0 16 0) 25 0 17 0) 25 0 18 0) 25 0 19 0) 25 0 20 0) ∧ (∀ k, k < 3 → N' 33 0 k = 0 ∧ N' 34 0 k = 0 ∧ N' 36 0 k = 0 ∧ N' 37 0 k = 0) ∧ ∀ a b s, (a ≠ 33 ∧ a ≠ 34 ∧ a ≠ 36 ∧ a ≠ 37) → N' a b s = N a b s := by
  have loop : ∀ j i P, i + j = 3 → (∀ k, k < i → P 33 0 k = 0 ∧ P 34 0 k = 0 ∧ P 36 0 k = 0 ∧ P 37 0 k = 0) → (∀ a b s, (a ≠ 33 ∧ a ≠ 34 ∧ a ≠ 36 ∧ a ≠ 37) → P a b s = N a b s) → ∃ N', am_ex (am_I2 E) mI_Mo_rules 24 [some (.inr (.inl (some (25, 0)))), some (.inl (nI i))] [] P = some (some (.inl (N 25 0 28)), am_up (am_up (am_up (am_up (am_up N' 25 0 16 0) 25 0 17 0) 25 0 18 0) 25 0 19 0) 25 0 20 0) ∧ (∀ k, k < 3 → N' 33 0 k = 0 ∧ N' 34 0 k = 0 ∧ N' 36 0 k = 0 ∧ N' 37 0 k = 0) ∧ ∀ a b s, (a ≠ 33 ∧ a ≠ 34 ∧ a ≠ 36 ∧ a ≠ 37) → N' a b s = N a b s := by
    intro j
    induction j with
    | zero =>
      intro i P hi hk ho
      have h3 : ¬ nI i < 3 := nI_nlt (b := 3) (by omega) (by omega)
      exact ⟨P, by rw [eq_Mo_rules_24, if_neg h3, ho 25 0 28 (by decide)], fun k hk2 => hk k (by omega), ho⟩
    | succ j ih =>
      intro i P hi hk ho
      have h3 : nI i < 3 := nI_lt (b := 3) (by omega) (by omega)
      rw [eq_Mo_rules_24, if_pos h3, z_in (by omega) (by omega), z_if, z_if, z_if, z_if, z_ix (by omega), nI_1]
      refine ih (i + 1) _ (by omega) (fun k hk2 => ?_) (fun a b s h => ?_)
      · by_cases e : k = i
        · subst e
          exact ⟨am_up_self P 33 0 k 0, am_up_self (am_up P 33 0 k 0) 34 0 k 0, am_up_self (am_up (am_up P 33 0 k 0) 34 0 k 0) 36 0 k 0, am_up_self _ 37 0 k 0⟩
        · have hh : ∀ a, (am_up (am_up (am_up (am_up P 33 0 i 0) 34 0 i 0) 36 0 i 0) 37 0 i 0) a 0 k = P a 0 k := fun s => by
            rw [am_up_ne (Or.inr (Or.inr e)), am_up_ne (Or.inr (Or.inr e)), am_up_ne (Or.inr (Or.inr e)), am_up_ne (Or.inr (Or.inr e))]
          rw [hh, hh, hh, hh]
          exact hk k (by omega)
      · rw [am_up_ne (Or.inl h.2.2.2), am_up_ne (Or.inl h.2.2.1), am_up_ne (Or.inl h.2.1), am_up_ne (Or.inl h.1)]
        exact ho a b s h
  exact loop 3 0 N rfl (fun k hk => absurd hk (by omega)) (fun _ _ _ _ => rfl)
theorem op_rules (hI : Inv c M) : pr E c M mI_Mx_rules mI_Mo_rules [] := by
  obtain ⟨n, hN, hW, hR, h4, h5, ⟨ml, hL⟩, hC, hX⟩ := id hI
  have hn := hN.1
  have hG : ∀ k, k < 3 → iG n (sr M k) (gl M k) (sz M k) k M := fun k hk => by
    obtain ⟨s, g, z, h⟩ := h4 k hk
    exact iG_can hn.2 h
  obtain ⟨l, hl, htx, hrx, hX2, h43⟩ := iX_t hX
  have hb : bd n (sr M) (gl M) := ⟨hn, fun k hk => by have := (hG k hk).1; omega⟩
  have hc := c_findFault (E := E) (X := Xt M) (l := l) hl hX2 hN hG htx
  have hVC := PA_VC (X := Xt M) (l := l) (j := 24) (q := 0) (nn := n) (ss := sr M) (gg := gl M)
  have hPl := PA_le (X := Xt M) (l := l) (j := 24) (q := 0) (nn := n) (ss := sr M) (gg := gl M) (Nat.zero_le l)
  have hVA := VA_self hN hR hG
  -- reading of the reference, from any memory that has its net and text
  have hm := fun (d : Nat) (hd : d < 2) (N : am_M) (hf : ∀ a s, (a = 25 ∧ s = 0 ∨ 26 ≤ a ∧ a ≤ 32) → N a 0 s = M a 0 s) (h22 : N 25 0 22 = M 25 0 22) (h39 : ∀ x, N 39 0 x = M 39 0 x) (h43' : ∀ x, N 43 0 x = M 43 0 x) => m_reads (E := E) (N := N) (A := M) (X := Xt M) (l := l) (d := d) (j := 23) (n := n) (ss := sr M) (gg := gl M) hd rfl hl hX2 hb ⟨h22.trans hrx.1, fun x hx => (h39 x).trans (hrx.2 x hx)⟩ ((hf 25 0 (Or.inl ⟨rfl, rfl⟩)).trans hN.2.2) (fun k hk => ⟨(hf 27 k (Or.inr (by omega))).trans (hG k hk).2.1.2, (hf 28 k (Or.inr (by omega))).trans (hG k hk).2.2.1.2⟩) (fun i hi => (h43' i).trans (h43 i hi)) (rm_f hf (rm_self hN hR hG)) (fun _ => hVA)
  have h24 : PA (Xt M) l (23 + 1) 0 n (sr M) (gl M) = PA (Xt M) l 24 0 n (sr M) (gl M) := rfl
  rw [h24] at hm
  generalize PA (Xt M) l 24 0 n (sr M) (gl M) = P at hc hm hVC hPl
  obtain ⟨N1, k1, k2, k3, k4, k5⟩ := hc
  have net : ∀ N : am_M, fr M N → ∀ a s, (a = 25 ∧ s = 0 ∨ 26 ≤ a ∧ a ≤ 32) → N a 0 s = M a 0 s := fun N hf a s h => by
    rcases h with ⟨rfl, rfl⟩ | h
    · exact hf 25 0 0 rfl
    · have ha : a = 26 ∨ a = 27 ∨ a = 28 ∨ a = 29 ∨ a = 30 ∨ a = 31 ∨ a = 32 := by omega
      rcases ha with rfl | rfl | rfl | rfl | rfl | rfl | rfl <;> exact hf _ 0 s rfl
  cases hp : P.1 with
  | some p =>
    obtain ⟨N2, m1, m2, m3, -, -⟩ := hm 0 (by omega) N1 (net N1 k2) (k2 25 0 22 rfl) (fun x => k2 39 0 x rfl) (fun x => k2 43 0 x rfl)
    have hf2 : fr M N2 := fS_tr k2 (SN_0 m2)
    refine ⟨-4, N1, N2, ?_, ?_, Inv_fr hf2 (Inv_mono hI)⟩
    · rw [hp, oI_some] at k1
      have hpl := hPl p hp
      rw [rq_Mx_rules, k1, z_bI, if_neg (nI_m1 (by omega))]
    · rw [hp] at m1
      rw [rq_Mo_rules]
      rw [show am_run (am_I2 E) mI_Mo_reads [.inr (.inl (some (25, 0))), .inl 0] N1 = some (some (.inl 0), N2) from m1, z_bI, if_pos rfl]
  | none =>
    rw [hp] at k1
    -- the class
    have rc1 : rc M N1 := ⟨k2 1 0 0 rfl, fun x _ => k2 2 0 x rfl, fun k _ => ⟨⟨k2 4 k 0 rfl, k2 4 k 1 rfl, k2 4 k 2 rfl, k2 4 k 3 rfl⟩, fun u _ => ⟨k2 5 k u rfl, k2 6 k u rfl⟩⟩⟩
    obtain ⟨N2, a1, a2, a3⟩ := c_doClauses (E := E) (i := 0) hVA hVC rc1 k3 (by rw [k4, Nat.zero_add]) (by omega)
    obtain ⟨N3, b1, b2, b3⟩ := c_calm (E := E) (N := N2)
    have q7 : N3 20 0 7 = nI P.2.length := (b3 20 0 7 (Or.inl (by decide))).trans ((a2 20 0 7 rfl).trans k4)
    have crun : am_run (am_I2 E) mI_Mx_rules [.inr (.inl (some (0, 0)))] M = some (some (.inl (nI P.2.length)), am_up (am_up (am_up (am_up (am_up (am_up N3 17 0 2 0) 17 0 3 0) 17 0 4 0) 17 0 5 0) 17 0 6 0) 20 0 2 0) := by
      rw [rq_Mx_rules, k1, z_bI, oI_none, if_pos rfl, rq_Re_doClauses]
      rw [show am_ex (am_I2 E) mI_Re_doClauses 2 [some (.inr (.inl (some (20, 0)))), some (.inl 0)] [] N1 = some (none, N2) from a1, z_bV, b1, z_bV, rq_Ma_forgetAll, z_bV]
      rw [show (am_up (am_up (am_up (am_up (am_up N3 17 0 2 0) 17 0 3 0) 17 0 4 0) 17 0 5 0) 17 0 6 0) 20 0 7 = nI P.2.length from q7]
    obtain ⟨Q, hQ⟩ : ∃ Q, Q = am_up (am_up (am_up (am_up (am_up (am_up N3 17 0 2 0) 17 0 3 0) 17 0 4 0) 17 0 5 0) 17 0 6 0) 20 0 2 0 := ⟨_, rfl⟩
    rw [← hQ] at crun
    -- cells that the class left
    have qk : ∀ a b s, (a ≠ 17 ∧ a ≠ 20 ∧ a ≠ 4) → Sdc a s = false → scr a s = false → Q a b s = M a b s := by
      intro a b s h1 h2 h3
      rw [hQ, am_up_ne (Or.inl h1.2.1), am_up_ne (Or.inl h1.1), am_up_ne (Or.inl h1.1), am_up_ne (Or.inl h1.1), am_up_ne (Or.inl h1.1), am_up_ne (Or.inl h1.1), b3 a b s (Or.inl h1.2.2), a2 a b s h2]
      exact k2 a b s h3
    have qc : rc (fA P.2 M) Q := by
      obtain ⟨r1, r2, r3⟩ := a3
      rw [hQ]
      refine ⟨(b3 1 0 0 (Or.inl (by decide))).trans r1, fun x hx => (b3 2 0 x (Or.inl (by decide))).trans (r2 x hx), fun k hk => ?_⟩
      obtain ⟨⟨c0, c1, c2, c3⟩, c4⟩ := r3 k hk
      exact ⟨⟨(b3 4 k 0 (Or.inr (by decide))).trans c0, (b3 4 k 1 (Or.inr (by decide))).trans c1, (b3 4 k 2 (Or.inr (by decide))).trans c2, (b3 4 k 3 (Or.inr (by decide))).trans c3⟩, fun u hu => ⟨(b3 5 k u (Or.inl (by decide))).trans (c4 u hu).1, (b3 6 k u (Or.inl (by decide))).trans (c4 u hu).2⟩⟩
    have qz : ∀ k, k < 3 → Q 4 k 6 = 0 ∧ Q 4 k 7 = 0 ∧ Q 4 k 9 = 0 ∧ Q 4 k 10 = 0 := fun k hk => by rw [hQ]; exact b2 k hk
    have q17 : Q 17 0 2 = 0 ∧ Q 17 0 3 = 0 ∧ Q 17 0 4 = 0 ∧ Q 17 0 5 = 0 ∧ Q 17 0 6 = 0 := by rw [hQ]; exact ⟨rfl, rfl, rfl, rfl, rfl⟩
    have q20 : Q 20 0 2 = 0 := by rw [hQ]; rfl
    -- the reference
    have netQ : ∀ N : am_M, fr Q N → ∀ a s, (a = 25 ∧ s = 0 ∨ 26 ≤ a ∧ a ≤ 32) → N a 0 s = M a 0 s := fun N hf a s h => by
      rcases h with ⟨rfl, rfl⟩ | h
      · exact (hf 25 0 0 rfl).trans (qk 25 0 0 (by decide) rfl rfl)
      · have ha : a = 26 ∨ a = 27 ∨ a = 28 ∨ a = 29 ∨ a = 30 ∨ a = 31 ∨ a = 32 := by omega
        rcases ha with rfl | rfl | rfl | rfl | rfl | rfl | rfl <;> exact (hf _ 0 s rfl).trans (qk _ 0 s (by decide) rfl rfl)
    obtain ⟨N5, m1, m2, -, -, -⟩ := hm 0 (by omega) Q (netQ Q fr_rfl) (qk 25 0 22 (by decide) rfl rfl) (fun x => qk 39 0 x (by decide) rfl rfl) (fun x => qk 43 0 x (by decide) rfl rfl)
    have f5 : fr Q N5 := SN_0 m2
    obtain ⟨N6, o1, o2, -, o4, o5⟩ := hm 1 (by omega) N5 (netQ N5 f5) ((f5 25 0 22 rfl).trans (qk 25 0 22 (by decide) rfl rfl)) (fun x => (f5 39 0 x rfl).trans (qk 39 0 x (by decide) rfl rfl)) (fun x => (f5 43 0 x rfl).trans (qk 43 0 x (by decide) rfl rfl))
    rw [if_pos rfl] at o5
    have o28 := o4 hp
    obtain ⟨N7, p1, p2, p3⟩ := m_calm (E := E) (N := am_up N6 25 0 22 0)
    have mrun : am_run (am_I2 E) mI_Mo_rules [.inr (.inl (some (25, 0)))] Q = some (some (.inl (nI P.2.length)), am_up (am_up (am_up (am_up (am_up N7 25 0 16 0) 25 0 17 0) 25 0 18 0) 25 0 19 0) 25 0 20 0) := by
      rw [hp] at m1 o1
      rw [rq_Mo_rules]
      rw [show am_run (am_I2 E) mI_Mo_reads [.inr (.inl (some (25, 0))), .inl 0] Q = some (some (.inl 1), N5) from m1, z_bI, if_neg z_ne10]
      rw [show am_run (am_I2 E) mI_Mo_reads [.inr (.inl (some (25, 0))), .inl 1] N5 = some (some (.inl 1), N6) from o1, z_bI, p1]
      rw [show (am_up N6 25 0 22 0) 25 0 28 = nI P.2.length from o28]
    obtain ⟨F, hF⟩ : ∃ F, F = am_up (am_up (am_up (am_up (am_up N7 25 0 16 0) 25 0 17 0) 25 0 18 0) 25 0 19 0) 25 0 20 0 := ⟨_, rfl⟩
    rw [← hF] at mrun
    -- cells that the reference left
    have fk : ∀ a b s, (a ≠ 25 ∧ a ≠ 33 ∧ a ≠ 34 ∧ a ≠ 36 ∧ a ≠ 37) → SN 1 a s = false → F a b s = Q a b s := by
      intro a b s h1 h2
      have h3 : scr a s = false := by
        unfold SN at h2
        rw [Bool.or_eq_false_iff] at h2
        exact h2.1
      rw [hF, am_up_ne (Or.inl h1.1), am_up_ne (Or.inl h1.1), am_up_ne (Or.inl h1.1), am_up_ne (Or.inl h1.1), am_up_ne (Or.inl h1.1), p3 a b s h1.2, am_up_ne (Or.inl h1.1), o2 a b s h2]
      exact f5 a b s h3
    have fm : rm (fA P.2 M) F := by
      obtain ⟨r1, r2, r3⟩ := o5
      rw [hF]
      refine ⟨(p3 25 0 0 (by decide)).trans r1, fun x hx => (p3 26 0 x (by decide)).trans (r2 x hx), fun k hk => ?_⟩
      obtain ⟨⟨c0, c1, c2, c3⟩, c4⟩ := r3 k hk
      exact ⟨⟨(p3 27 0 k (by decide)).trans c0, (p3 28 0 k (by decide)).trans c1, (p3 29 0 k (by decide)).trans c2, (p3 30 0 k (by decide)).trans c3⟩, fun u hu => ⟨(p3 31 0 _ (by decide)).trans (c4 u hu).1, (p3 32 0 _ (by decide)).trans (c4 u hu).2⟩⟩
    have f25 : ∀ s, (s = 8 ∨ s = 9) → F 25 0 s = M 25 0 s := by
      intro s hs
      rcases hs with rfl | rfl
      · rw [hF]
        exact (p3 25 0 8 (by decide)).trans ((o2 25 0 8 rfl).trans ((f5 25 0 8 rfl).trans (qk 25 0 8 (by decide) rfl rfl)))
      · rw [hF]
        exact (p3 25 0 9 (by decide)).trans ((o2 25 0 9 rfl).trans ((f5 25 0 9 rfl).trans (qk 25 0 9 (by decide) rfl rfl)))
    have f22 : F 25 0 22 = 0 := by rw [hF]; exact p3 25 0 22 (by decide)
    have fz : ∀ k, k < 3 → F 33 0 k = 0 ∧ F 34 0 k = 0 ∧ F 36 0 k = 0 ∧ F 37 0 k = 0 := fun k hk => by rw [hF]; exact p2 k hk
    have f16 : F 25 0 16 = 0 ∧ F 25 0 17 = 0 ∧ F 25 0 18 = 0 ∧ F 25 0 19 = 0 ∧ F 25 0 20 = 0 := by rw [hF]; exact ⟨rfl, rfl, rfl, rfl, rfl⟩
    obtain ⟨nn', ss', gg', hV'⟩ := VA_fold hVA hVC
    obtain ⟨v0, v1, v2, v3⟩ := hV'
    refine ⟨nI P.2.length, Q, F, crun, mrun, nn', ⟨v0, (fk 1 0 0 (by decide) rfl).trans (qc.1.trans v1), fm.1.trans v1⟩, ?_, fun x hx => ?_, fun k hk => ?_, fun k hk => ?_, ⟨0, by omega, ⟨(fk 17 0 2 (by decide) rfl).trans q17.1, f16.1⟩, ?_, fun i hi => absurd hi (Nat.not_lt_zero i)⟩, ⟨?_, ?_, ?_, ?_⟩, ⟨0, by omega, (fk 20 0 2 (by decide) rfl).trans q20, f22⟩, fun i hi => ?_, fun i hi => ?_⟩
    · obtain ⟨⟨w, w1, w2, w3⟩, s, s1, s2, s3, s4⟩ := hW
      refine ⟨⟨w, w1, ?_, (f25 8 (Or.inl rfl)).trans w3⟩, s, s1, s2, ?_, (f25 9 (Or.inr rfl)).trans s4⟩
      · exact (fk 1 0 1 (by decide) rfl).trans ((qk 1 0 1 (by decide) rfl rfl).trans w2)
      · exact (fk 1 0 2 (by decide) rfl).trans ((qk 1 0 2 (by decide) rfl rfl).trans s3)
    · obtain ⟨r, hr, r1⟩ := v2 x hx
      exact ⟨r, hr, (fk 2 0 x (by decide) rfl).trans ((qc.2.1 x hx).trans r1), (fm.2.1 x hx).trans r1⟩
    · obtain ⟨w0, w1, w2, ⟨z, z1, z2, z3⟩, w4, w5⟩ := v3 k hk
      obtain ⟨⟨c0, c1, c2, c3⟩, c4⟩ := qc.2.2 k hk
      obtain ⟨⟨e0, e1, e2, e3⟩, e4⟩ := fm.2.2 k hk
      refine ⟨ss' k, gg' k, z, ⟨w0.1, w0.2.1, w0.2.2, z1, z2⟩, ⟨(fk 4 k 0 (by decide) rfl).trans (c0.trans w1), e0.trans w1⟩, ⟨(fk 4 k 1 (by decide) rfl).trans (c1.trans w2), e1.trans w2⟩, ⟨(fk 4 k 2 (by decide) rfl).trans (c2.trans z3), e2.trans z3⟩, ⟨(fk 4 k 3 (by decide) rfl).trans (c3.trans e3.symm), ?_⟩, fun u hu => ?_⟩
      · rw [e3]; exact w4
      · have g5 : F 5 k u = fA P.2 M 5 k u := (fk 5 k u (by decide) rfl).trans (c4 u hu).1
        have g6 : F 6 k u = fA P.2 M 6 k u := (fk 6 k u (by decide) rfl).trans (c4 u hu).2
        refine ⟨⟨g5.trans (e4 u hu).1.symm, g6.trans (e4 u hu).2.symm⟩, ?_⟩
        rw [g5, g6]
        exact w5 u hu
    · obtain ⟨y1, y2, y3, y4⟩ := qz k hk
      obtain ⟨x1, x2, x3, x4⟩ := fz k hk
      exact ⟨0, 0, 0, 0, ⟨by omega, by simp [sd], by omega, by omega, by omega⟩, ⟨(fk 4 k 6 (by decide) rfl).trans y1, x1⟩, ⟨(fk 4 k 7 (by decide) rfl).trans y2, x2⟩, ⟨(fk 4 k 9 (by decide) rfl).trans y3, x3⟩, trivial, ⟨(fk 4 k 10 (by decide) rfl).trans y4, x4⟩⟩
    · have e18 : ∀ i, F 18 0 i = M 18 0 i := fun i => (fk 18 0 i (by decide) rfl).trans (qk 18 0 i (by decide) rfl rfl)
      exact ⟨fun i hi => by rw [e18]; exact hL.2.2.1.1 i hi, fun i j hi hj w => by rw [e18, e18] at w; exact hL.2.2.1.2 i j hi hj w⟩
    · rw [fk 17 0 3 (by decide) rfl, q17.2.1, f16.2.1]
    · rw [fk 17 0 4 (by decide) rfl, q17.2.2.1, f16.2.2.1]
    · rw [fk 17 0 5 (by decide) rfl, q17.2.2.2.1, f16.2.2.2.1]
    · rw [fk 17 0 6 (by decide) rfl, q17.2.2.2.2, f16.2.2.2.2]
    · obtain ⟨b, hb1, b1', b2'⟩ := hX.2.1 i hi
      exact ⟨b, hb1, (fk 21 0 i (by decide) rfl).trans ((qk 21 0 i (by decide) rfl rfl).trans b1'), (fk 39 0 i (by decide) rfl).trans ((qk 39 0 i (by decide) rfl rfl).trans b2')⟩
    · exact (fk 43 0 i (by decide) rfl).trans ((qk 43 0 i (by decide) rfl rfl).trans (h43 i hi))
end
