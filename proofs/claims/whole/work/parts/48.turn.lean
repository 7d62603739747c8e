/-! call: turn; plans, as numbers alone -/
theorem fr_cong {M N : am_M} (h : fr M N) (a b d : Nat) (x : Int32) : fr (am_up M a b d x) (am_up N a b d x) := by
  intro a' b' d' e
  by_cases h1 : a' = a ∧ b' = b ∧ d' = d
  · obtain ⟨rfl, rfl, rfl⟩ := h1
    rw [am_up_self, am_up_self]
  · have h2 : a' ≠ a ∨ b' ≠ b ∨ d' ≠ d := by
      by_cases e1 : a' = a
      · by_cases e2 : b' = b
        · exact Or.inr (Or.inr (fun e3 => h1 ⟨e1, e2, e3⟩))
        · exact Or.inr (Or.inl e2)
      · exact Or.inl e1
    rw [am_up_ne h2, am_up_ne h2]
    exact h a' b' d' e
theorem fr_tC {M N : am_M} (h : fr M N) (k m r t d : Nat) : fr (tC k m r t d M) (tC k m r t d N) := by
  unfold tC
  exact fr_cong (fr_cong (fr_cong (fr_cong h _ _ _ _) _ _ _ _) _ _ _ _) _ _ _ _
theorem fr_tM {M N : am_M} (h : fr M N) (k m r t d : Nat) : fr (tM k m r t d M) (tM k m r t d N) := by
  unfold tM
  exact fr_cong (fr_cong (fr_cong (fr_cong h _ _ _ _) _ _ _ _) _ _ _ _) _ _ _ _
section
variable {E : am_E} {M B : am_M} {c : Nat}
theorem sB_tC (n k w k' m r t d : Nat) (a mo : Nat) : sB (tC k' m r t d M) n k w (WT (tC k' m r t d M) a mo) = sB M n k w (WT M a mo) := rfl
theorem op_turn (hc : c < 2 ^ 30) (hI : Inv c M) (x y : Int32) : pr E c M mI_Mx_turn mI_Mo_turn [.inl x, .inl y] := by
  obtain ⟨n, hN, ⟨⟨w, hw16, hwa, hwb⟩, hs⟩, hR, h4, h5, ⟨ml, hL⟩, h7⟩ := id hI
  have hn := hN.1
  have hS := iS_L hL
  have hGc : ∀ k, k < 3 → iG n (sr M k) (gl M k) (sz M k) k M := fun k hk => by
    obtain ⟨s, g, z, h⟩ := h4 k hk
    exact iG_can hn.2 h
  have hTT : ∀ j, j < 3 → M 4 j 6 = M 33 0 j := fun j hj => by
    obtain ⟨t, m, p, d, -, f1, -⟩ := h5 j hj
    rw [f1.1, f1.2]
  rcases ob_or x (n := 3) (by omega) with hx | ⟨k, hk, rfl⟩
  · refine ⟨-2, M, M, ?_, ?_, Inv_mono hI⟩
    · rw [rq_Mx_turn, c_flowAt_n hx, z_bR, eq_Mx_turn_8v0]
    · rw [rq_Mo_turn, m_isFlow_n hx, z_bI, if_pos rfl]
  · have hG := hGc k hk
    obtain ⟨t, m, p, d, hH⟩ := h5 k hk
    obtain ⟨f0, f1, f2, f3, f4, f5⟩ := id hH
    by_cases hr : ∃ r, isR y (mv (M 5 k) (M 6 k)) t r
    · obtain ⟨r, hRr⟩ := hr
      obtain ⟨r0, r1, rfl, r3, r4⟩ := id hRr
      by_cases hp : p = 0
      · subst hp
        have e7 : M 4 k 7 = 0 := f2.1
        have e34 : M 34 0 k = 0 := f2.2
        have c1 := c_hasStale (E := E) hk hL.1 hL.2.1.1 hS f5.1 f5.2 (by omega)
        cases hst : sN (M 38 0) (nI k) (M 37 0 k) ml with
        | true =>
          have m1 := m_isStale (E := E) (M := M) hk hL.1 hL.2.1.2
          rw [hst] at c1 m1
          refine ⟨-4, M, M, ?_, ?_, Inv_mono hI⟩
          · rw [rq_Mx_turn, c_flowAt_s hk, z_bR, eq_Mx_turn_8v1, c_isRound_s f1.1 hRr, z_bI, if_neg z_ne10, if_pos e7, c1, z_bI, aI_t, if_neg z_ne10]
          · rw [rq_Mo_turn, m_isFlow_s hk, z_bI, if_neg z_ne10, m_isRound_s hk (mvr fr_rfl hG) f1.2 hRr, z_bI, if_neg z_ne10, z_in hk (by decide), z_if, z_ix (by omega), if_pos e34, m1, z_bI, aI_t, if_neg z_ne10]
        | false =>
          rw [hst] at c1
          obtain ⟨v, N1, k1, k2, k3, k4⟩ := c_firstUnsound (E := E) (B := M) (M := M) hk hN hR hGc fr_rfl hTT f1.1 f0.1 r1 hwa hw16
          have hf1 : fr M N1 := fr_11 fr_rfl k2
          by_cases ev : v = -1
          · subst ev
            have hm : m < 8 := rdk_lt8 f0.1 r0 r1 r4 f4
            have hfQ : fr (tC k m r t d M) (tC k m r t d N1) := fr_tC hf1 k m r t d
            have hG' : iG n (sr (tC k m r t d M) k) (gl (tC k m r t d M) k) (sz (tC k m r t d M) k) k (tC k m r t d M) := hG
            have hGc' : ∀ j, j < 3 → iG n (sr (tC k m r t d M) j) (gl (tC k m r t d M) j) (sz (tC k m r t d M) j) j (tC k m r t d M) := hGc
            have mvQ := mvr hfQ hG'
            have e25 : (tC k m r t d N1) 25 0 16 = nI ml := (hfQ 25 0 16 rfl).trans hL.2.1.2
            have e38 : (tC k m r t d N1) 38 0 = M 38 0 := funext (fun i => hfQ 38 0 i rfl)
            have e37 : (tC k m r t d N1) 37 0 k = M 37 0 k := hfQ 37 0 k rfl
            have m1 := m_isStale (E := E) (M := tC k m r t d N1) hk hL.1 e25
            rw [e38, e37, hst] at m1
            obtain ⟨v', P1, q1, q2, q3, q4⟩ := m_leastUnsound (E := E) (B := tC k m r t d M) (M := tC k m r t d N1) hk hN hR hGc' hfQ (show (tC k m r t d M) 33 0 k = nI t from f1.2) f0.1 r1 r4 hwb hw16
            rw [sB_tC] at q4
            have hv : v' = -1 := LU_uni q4 k4
            subst hv
            have p36 : P1 36 0 k = nI m := (q2 36 0 k rfl).trans f3.2
            have p33 : P1 33 0 k = nI t := (q2 33 0 k rfl).trans f1.2
            have p37 : P1 37 0 k = nI d := (q2 37 0 k rfl).trans f5.2
            have e34' : (tC k m r t d N1) 34 0 k = 0 := (hfQ 34 0 k rfl).trans e34
            refine ⟨nI (t ||| r), tC k m r t d N1, tM k m r t d P1, ?_, ?_, Inv_fr (fr_tM q2 k m r t d) (Inv_tC hc hI hH r0 r1 r3 r4)⟩
            · rw [rq_Mx_turn, c_flowAt_s hk, z_bR, eq_Mx_turn_8v1, c_isRound_s f1.1 hRr, z_bI, if_neg z_ne10, if_pos e7, c1, z_bI, aI_f, if_pos rfl, k1, z_bI, if_pos rfl, c_turnRound ((hf1 4 k 9 rfl).trans f3.1) hm ((hf1 4 k 6 rfl).trans f1.1) ((hf1 4 k 10 rfl).trans f5.1), z_bV]
              unfold tC
              rw [am_up_self]
            · rw [rq_Mo_turn, m_isFlow_s hk, z_bI, if_neg z_ne10, m_isRound_s (M := tC k m r t d N1) hk mvQ ((hfQ 33 0 k rfl).trans f1.2) hRr, z_bI, if_neg z_ne10, z_in hk (by decide), z_if, z_ix (by omega), if_pos e34', m1, z_bI, aI_f, if_pos rfl, q1, z_bI, if_pos rfl, m_turns hk p36 hm p33 p37, z_bV, z_if]
              rw [show tM k m r t d P1 33 0 k = nI (t ||| r) from am_up_self P1 33 0 k (nI (t ||| r))]
          · obtain ⟨v', P1, q1, q2, q3, q4⟩ := m_leastUnsound (E := E) (B := M) (M := N1) hk hN hR hGc hf1 f1.2 f0.1 r1 r4 hwb hw16
            have hv : v' = v := LU_uni q4 k4
            subst hv
            have e25 : N1 25 0 16 = nI ml := (hf1 25 0 16 rfl).trans hL.2.1.2
            have e38 : N1 38 0 = M 38 0 := funext (fun i => hf1 38 0 i rfl)
            have e37 : N1 37 0 k = M 37 0 k := hf1 37 0 k rfl
            have m1 := m_isStale (E := E) (M := N1) hk hL.1 e25
            rw [e38, e37, hst] at m1
            have e34' : N1 34 0 k = 0 := (hf1 34 0 k rfl).trans e34
            refine ⟨-4, N1, P1, ?_, ?_, Inv_fr q2 (Inv_mono hI)⟩
            · rw [rq_Mx_turn, c_flowAt_s hk, z_bR, eq_Mx_turn_8v1, c_isRound_s f1.1 hRr, z_bI, if_neg z_ne10, if_pos e7, c1, z_bI, aI_f, if_pos rfl, k1, z_bI, if_neg ev]
            · rw [rq_Mo_turn, m_isFlow_s hk, z_bI, if_neg z_ne10, m_isRound_s hk (mvr hf1 hG) ((hf1 33 0 k rfl).trans f1.2) hRr, z_bI, if_neg z_ne10, z_in hk (by decide), z_if, z_ix (by omega), if_pos e34', m1, z_bI, aI_f, if_pos rfl, q1, z_bI, if_neg ev]
      · refine ⟨-4, M, M, ?_, ?_, Inv_mono hI⟩
        · rw [rq_Mx_turn, c_flowAt_s hk, z_bR, eq_Mx_turn_8v1, c_isRound_s f1.1 hRr, z_bI, if_neg z_ne10, f2.1, if_neg (p_ne0 f0.2.2.2.1 hp)]
        · rw [rq_Mo_turn, m_isFlow_s hk, z_bI, if_neg z_ne10, m_isRound_s hk (mvr fr_rfl hG) f1.2 hRr, z_bI, if_neg z_ne10, z_in hk (by decide), z_if, z_ix (by omega), f2.2, if_neg (p_ne0 f0.2.2.2.1 hp)]
    · refine ⟨-3, M, M, ?_, ?_, Inv_mono hI⟩
      · rw [rq_Mx_turn, c_flowAt_s hk, z_bR, eq_Mx_turn_8v1, c_isRound_n f1.1 hr, z_bI, if_pos rfl]
      · rw [rq_Mo_turn, m_isFlow_s hk, z_bI, if_neg z_ne10, m_isRound_n hk (mvr fr_rfl hG) f1.2 hr, z_bI, if_pos rfl]
end
/-- a safe round from a set -/
def sf (A : Nat) (S : Nat → Bool) (s r : Nat) : Prop := 0 < r ∧ r &&& sd A s = r ∧ ∀ p, p &&& r = p → S (s ||| p) = true
/-- the fewest rounds that lead on from a set, of so many at most -/
noncomputable def LL (A : Nat) (S : Nat → Bool) : Nat → Nat → Option Nat
  | 0, s => if s = A then some 0 else none
  | j + 1, s => match LL A S j s with
    | some d => some d
    | none => if pb (∃ r, sf A S s r ∧ LL A S j (s ||| r) = some j) = true then some (j + 1) else none
section
variable {A : Nat} {S : Nat → Bool}
theorem LL_s {j s d : Nat} (h : LL A S j s = some d) : LL A S (j + 1) s = some d := by
  show (match LL A S j s with
    | some d => some d
    | none => _) = _
  rw [h]
theorem LL_n {j s : Nat} (h : LL A S j s = none) : LL A S (j + 1) s = if pb (∃ r, sf A S s r ∧ LL A S j (s ||| r) = some j) = true then some (j + 1) else none := by
  show (match LL A S j s with
    | some d => some d
    | none => _) = _
  rw [h]
theorem LL_nt {j s : Nat} (h : LL A S j s = none) (h2 : ∃ r, sf A S s r ∧ LL A S j (s ||| r) = some j) : LL A S (j + 1) s = some (j + 1) := by
  rw [LL_n h, pb_t h2, if_pos rfl]
theorem LL_nf {j s : Nat} (h : LL A S j s = none) (h2 : ¬ ∃ r, sf A S s r ∧ LL A S j (s ||| r) = some j) : LL A S (j + 1) s = none := by
  rw [LL_n h, pb_f h2, if_neg (by decide)]
theorem LL_mono {j s d : Nat} (h : LL A S j s = some d) : ∀ i, j ≤ i → LL A S i s = some d := by
  intro i hi
  induction hi with
  | refl => exact h
  | step _ ih => exact LL_s ih
theorem LL_or {j s : Nat} : (∃ d, LL A S j s = some d) ∨ LL A S j s = none := by
  cases h : LL A S j s with
  | none => exact Or.inr rfl
  | some d => exact Or.inl ⟨d, rfl⟩
theorem LL_le {s : Nat} : ∀ {j d : Nat}, LL A S j s = some d → d ≤ j := by
  intro j
  induction j with
  | zero =>
    intro d h
    have h : (if s = A then some 0 else none) = some d := h
    split at h
    · cases h; omega
    · cases h
  | succ j ih =>
    intro d h
    rcases LL_or (A := A) (S := S) (j := j) (s := s) with ⟨d', e⟩ | e
    · rw [LL_s e] at h
      cases h
      have := ih e
      omega
    · rw [LL_n e] at h
      split at h
      · cases h; omega
      · cases h
theorem LL_at {s : Nat} : ∀ {j d : Nat}, LL A S j s = some d → LL A S d s = some d := by
  intro j
  induction j with
  | zero => intro d h; have := LL_le h; rw [show d = 0 by omega] at h ⊢; exact h
  | succ j ih =>
    intro d h
    rcases LL_or (A := A) (S := S) (j := j) (s := s) with ⟨d', e⟩ | e
    · rw [LL_s e] at h
      cases h
      exact ih e
    · have h' := h
      rw [LL_n e] at h
      split at h
      · cases h; exact h'
      · cases h
theorem LL_A (j : Nat) : LL A S j A = some 0 := LL_mono (j := 0) (by show (if A = A then some 0 else none) = some 0; rw [if_pos rfl]) j (by omega)
theorem LL_0 {j s : Nat} (h : LL A S j s = some 0) : s = A := by
  have h : (if s = A then some 0 else none) = some 0 := LL_at h
  split at h
  · assumption
  · cases h
theorem LL_step {j s e : Nat} (h : LL A S j s = some (e + 1)) : LL A S e s = none ∧ ∃ r, sf A S s r ∧ LL A S e (s ||| r) = some e := by
  have h1 := LL_at h
  rcases LL_or (A := A) (S := S) (j := e) (s := s) with ⟨d', e'⟩ | e'
  · rw [LL_s e'] at h1
    cases h1
    have := LL_le e'
    omega
  · refine ⟨e', ?_⟩
    rw [LL_n e'] at h1
    split at h1
    · rename_i hp
      exact @of_decide_eq_true _ (Classical.propDecidable _) hp
    · cases h1
theorem LL_uni {i j s d d' : Nat} (h : LL A S i s = some d) (h' : LL A S j s = some d') : d = d' := by
  have h1 := LL_mono h (i + j) (by omega)
  have h2 := LL_mono h' (i + j) (by omega)
  rw [h1] at h2
  exact Option.some.inj h2
theorem sub_or {A s r : Nat} (hs : sd s A = 0) (hr : r &&& sd A s = r) : sd (s ||| r) A = 0 := by
  rw [sd0_iff] at hs ⊢
  intro i hi
  rw [Nat.testBit_or, Bool.or_eq_true] at hi
  rcases hi with hi | hi
  · exact hs i hi
  · have h1 := congrArg (fun x => x.testBit i) hr
    simp only [Nat.testBit_and, hi, Bool.true_and, sd_bit, Bool.and_eq_true] at h1
    exact h1.1
theorem LL_pc (hA : A < 256) : ∀ {d j s : Nat}, sd s A = 0 → LL A S j s = some d → d ≤ pcN (sd A s) 8 := by
  intro d
  induction d with
  | zero => intro j s _ _; omega
  | succ d ih =>
    intro j s hs h
    obtain ⟨-, r, hr, h2⟩ := LL_step h
    have h3 := ih (sub_or hs hr.2.1) h2
    obtain ⟨i, hi⟩ := ne0_bit (show r ≠ 0 by have := hr.1; omega)
    have h1 := congrArg (fun x => x.testBit i) hr.2.1
    simp only [Nat.testBit_and, hi, Bool.true_and] at h1
    have hti := h1
    rw [sd_bit, Bool.and_eq_true] at h1
    have := pcN_lt (s := sd A (s ||| r)) (t := sd A s) (i := i) (fun j hj => by
      rw [sd_bit, Nat.testBit_or, Bool.and_eq_true] at hj
      rw [sd_bit, hj.1]
      have := hj.2
      cases hx : s.testBit j with
      | true => rw [hx] at this; cases this
      | false => rfl) hti (by rw [sd_bit, Nat.testBit_or, hi, Bool.or_true]; simp) 8 (b8 hA h1.1)
    omega
theorem LL_Q1 (hA : A < 256) {s r : Nat} (hs : sd s A = 0) (h : LL A S 8 s = none) (hr : sf A S s r) : LL A S 8 (s ||| r) = none := by
  rcases LL_or (A := A) (S := S) (j := 8) (s := s ||| r) with ⟨e, h2⟩ | h2
  · exfalso
    have h3 := LL_pc hA (sub_or hs hr.2.1) h2
    obtain ⟨i, hi⟩ := ne0_bit (show r ≠ 0 by have := hr.1; omega)
    have h1 := congrArg (fun x => x.testBit i) hr.2.1
    simp only [Nat.testBit_and, hi, Bool.true_and] at h1
    rw [sd_bit, Bool.and_eq_true] at h1
    have h4 := pcN_lt (s := sd A (s ||| r)) (t := A) (i := i) (fun j hj => by
      rw [sd_bit, Bool.and_eq_true] at hj
      exact hj.1) h1.1 (by rw [sd_bit, Nat.testBit_or, hi, Bool.or_true]; simp) 8 (b8 hA h1.1)
    have h5 := pcN_le1 A 8
    have h6 := LL_at h2
    rcases LL_or (A := A) (S := S) (j := e) (s := s) with ⟨d', e'⟩ | e'
    · rw [LL_mono e' 8 (by omega)] at h; cases h
    · rw [LL_mono (LL_nt e' ⟨r, hr, h6⟩) 8 (by omega)] at h; cases h
  · exact h2
theorem LL_Q2 {s r e e' : Nat} (h : LL A S 8 s = some (e + 1)) (hr : sf A S s r) (h2 : LL A S 8 (s ||| r) = some e') : e ≤ e' := by
  rcases Nat.lt_or_ge e' e with w | w
  · exfalso
    have h6 := LL_at h2
    rcases LL_or (A := A) (S := S) (j := e') (s := s) with ⟨d', q⟩ | q
    · have := LL_uni q h
      have := LL_le q
      omega
    · have := LL_uni (LL_nt q ⟨r, hr, h6⟩) h
      omega
  · exact w
theorem LL_Q3 {s e : Nat} (h : LL A S 8 s = some (e + 1)) : ∃ r, sf A S s r ∧ LL A S 8 (s ||| r) = some e := by
  obtain ⟨h1, r, hr, h2⟩ := LL_step h
  have := LL_le h
  exact ⟨r, hr, LL_mono h2 8 (by omega)⟩
/-- the greatest first round of a plan -/
def isF (A : Nat) (S : Nat → Bool) (s r : Nat) : Prop := ∃ e, LL A S 8 s = some (e + 1) ∧ sf A S s r ∧ LL A S 8 (s ||| r) = some e ∧ ∀ r', sf A S s r' → LL A S 8 (s ||| r') = some e → r' ≤ r
theorem isF_uni {s r r' : Nat} (h : isF A S s r) (h' : isF A S s r') : r = r' := by
  obtain ⟨e, h1, h2, h3, h4⟩ := h
  obtain ⟨e', k1, k2, k3, k4⟩ := h'
  have : e = e' := by rw [h1] at k1; have := Option.some.inj k1; omega
  subst this
  have a1 := h4 r' k2 k3
  have a2 := k4 r h2 h3
  omega
end
