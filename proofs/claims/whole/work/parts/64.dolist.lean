/-! clauses are done, one behind another -/
def VA (nn : Nat) (ss gg : Nat → Nat) (A : am_M) : Prop := (2 ≤ nn ∧ nn ≤ 8) ∧ A 1 0 0 = nI nn ∧ (∀ x, x < 64 → ∃ r, r ≤ 9 ∧ A 2 0 x = nI r) ∧ ∀ k, k < 3 → (ss k < nn ∧ gg k < nn ∧ ss k ≠ gg k) ∧ A 4 k 0 = nI (ss k) ∧ A 4 k 1 = nI (gg k) ∧ (∃ z, 1 ≤ z ∧ z ≤ 9 ∧ A 4 k 2 = nI z) ∧ (A 4 k 3 = -1 ∨ ∃ p, p < nn ∧ p ≠ ss k ∧ p ≠ gg k ∧ A 4 k 3 = nI p) ∧ ∀ u, u < 8 → rok nn (gg k) u (A 5 k u) ∧ rok nn (gg k) u (A 6 k u)
def VC : Nat → (Nat → Nat) → (Nat → Nat) → List (Nat × (Nat → Nat)) → Prop
  | _, _, _, [] => True
  | nn, ss, gg, a :: L => okC nn ss gg a.1 a.2 ∧ VC (uN a.1 a.2 nn) (uS a.1 a.2 ss) (uG a.1 a.2 gg) L
def fA : List (Nat × (Nat → Nat)) → am_M → am_M
  | [], A => A
  | a :: L, A => fA L (doA a.1 a.2 A)
theorem ok_num {nn w : Nat} {ss gg vs : Nat → Nat} (h : okC nn ss gg w vs) : (w = 0 → 2 ≤ vs 0 ∧ vs 0 ≤ 8) ∧ (w = 1 → vs 0 < nn ∧ vs 1 < nn ∧ vs 2 ≤ 9) ∧ (w = 2 → vs 0 < 3 ∧ vs 1 < nn ∧ vs 2 < nn ∧ vs 2 ≠ vs 1 ∧ 1 ≤ vs 3 ∧ vs 3 ≤ 9) ∧ (w = 3 → vs 0 < 3 ∧ vs 1 < nn ∧ vs 1 ≠ ss (vs 0) ∧ vs 1 ≠ gg (vs 0)) ∧ (w = 4 → vs 0 < 3 ∧ vs 1 < nn ∧ vs 1 ≠ gg (vs 0) ∧ vs 2 < nn ∧ vs 2 ≠ vs 1) ∧ (w = 5 → vs 0 < 3 ∧ vs 1 < nn ∧ vs 1 ≠ gg (vs 0) ∧ vs 2 < nn ∧ vs 2 ≠ vs 1) := by
  obtain ⟨h6, hx⟩ := h
  have band : ∀ (p q : Prop) [Decidable p] [Decidable q], (decide p && !decide q) = true → p ∧ ¬ q := fun p q _ _ h => by
    rw [Bool.and_eq_true] at h
    exact ⟨of_decide_eq_true h.1, fun w => by rw [decide_eq_true w] at h; cases h.2⟩
  refine ⟨fun e => ?_, fun e => ?_, fun e => ?_, fun e => ?_, fun e => ?_, fun e => ?_⟩
  · subst e
    exact of_decide_eq_true (hx 0 (by decide)).1
  · subst e
    have a0 : decide (vs 0 < nn) = true := (hx 0 (by decide)).1
    have a1 := band _ _ (show (decide (vs 1 < nn) && !decide (vs 1 = vs 0)) = true from (hx 1 (by decide)).1)
    exact ⟨of_decide_eq_true a0, a1.1, (hx 2 (by decide)).2⟩
  · subst e
    have a0 : decide (vs 0 < 3) = true := (hx 0 (by decide)).1
    have a1 : decide (vs 1 < nn) = true := (hx 1 (by decide)).1
    have a2 := band _ _ (show (decide (vs 2 < nn) && !decide (vs 2 = vs 1)) = true from (hx 2 (by decide)).1)
    have a3 : decide (1 ≤ vs 3) = true := (hx 3 (by decide)).1
    exact ⟨of_decide_eq_true a0, of_decide_eq_true a1, a2.1, a2.2, of_decide_eq_true a3, (hx 3 (by decide)).2⟩
  · subst e
    have a0 : decide (vs 0 < 3) = true := (hx 0 (by decide)).1
    have a1 : (decide (vs 1 < nn) && (!decide (vs 1 = ss (vs 0)) && !decide (vs 1 = gg (vs 0)))) = true := (hx 1 (by decide)).1
    rw [Bool.and_eq_true, Bool.and_eq_true] at a1
    refine ⟨of_decide_eq_true a0, of_decide_eq_true a1.1, fun w => ?_, fun w => ?_⟩
    · have := a1.2.1; rw [decide_eq_true w] at this; cases this
    · have := a1.2.2; rw [decide_eq_true w] at this; cases this
  · subst e
    have a0 : decide (vs 0 < 3) = true := (hx 0 (by decide)).1
    have a1 := band _ _ (show (decide (vs 1 < nn) && !decide (vs 1 = gg (vs 0))) = true from (hx 1 (by decide)).1)
    have a2 := band _ _ (show (decide (vs 2 < nn) && !decide (vs 2 = vs 1)) = true from (hx 2 (by decide)).1)
    exact ⟨of_decide_eq_true a0, a1.1, a1.2, a2.1, a2.2⟩
  · subst e
    have a0 : decide (vs 0 < 3) = true := (hx 0 (by decide)).1
    have a1 := band _ _ (show (decide (vs 1 < nn) && !decide (vs 1 = gg (vs 0))) = true from (hx 1 (by decide)).1)
    have a2 := band _ _ (show (decide (vs 2 < nn) && !decide (vs 2 = vs 1)) = true from (hx 2 (by decide)).1)
    exact ⟨of_decide_eq_true a0, a1.1, a1.2, a2.1, a2.2⟩
theorem VA_do {nn w : Nat} {ss gg vs : Nat → Nat} {A : am_M} (hV : VA nn ss gg A) (h : okC nn ss gg w vs) : VA (uN w vs nn) (uS w vs ss) (uG w vs gg) (doA w vs A) := by
  obtain ⟨o0, o1, o2, o3, o4, o5⟩ := ok_num h
  obtain ⟨v0, v1, v2, v3⟩ := id hV
  have h6 : w = 0 ∨ w = 1 ∨ w = 2 ∨ w = 3 ∨ w = 4 ∨ w = 5 := by have := h.1; omega
  rcases h6 with rfl | rfl | rfl | rfl | rfl | rfl
  · have o := o0 rfl
    refine ⟨o, rfl, fun x hx => ⟨0, by omega, rfl⟩, fun k hk => ?_⟩
    refine ⟨?_, rfl, rfl, ⟨1, by omega, by omega, rfl⟩, Or.inl rfl, fun u hu => ⟨Or.inl rfl, Or.inl rfl⟩⟩
    show 0 < vs 0 ∧ 1 < vs 0 ∧ 0 ≠ 1
    omega
  · have o := o1 rfl
    refine ⟨v0, v1, fun x hx => ?_, v3⟩
    show ∃ r, r ≤ 9 ∧ am_up A 2 0 (8 * vs 0 + vs 1) (nI (vs 2)) 2 0 x = nI r
    by_cases e : x = 8 * vs 0 + vs 1
    · rw [e, am_up_self]; exact ⟨vs 2, o.2.2, rfl⟩
    · rw [am_up_ne (Or.inr (Or.inr e))]; exact v2 x hx
  · have o := o2 rfl
    refine ⟨v0, v1, v2, fun k hk => ?_⟩
    have uS2 : uS 2 vs ss k = if k = vs 0 then vs 1 else ss k := rfl
    have uG2 : uG 2 vs gg k = if k = vs 0 then vs 2 else gg k := rfl
    have uN2 : uN 2 vs nn = nn := rfl
    rw [uS2, uG2, uN2]
    by_cases e : k = vs 0
    · rw [if_pos e, if_pos e]
      refine ⟨⟨o.2.1, o.2.2.1, fun w => o.2.2.2.1 w.symm⟩, ?_, ?_, ⟨vs 3, o.2.2.2.2.1, o.2.2.2.2.2, ?_⟩, Or.inl ?_, fun u hu => ⟨Or.inl ?_, Or.inl ?_⟩⟩
      · show (if k = vs 0 then nI (vs 1) else _) = _
        rw [if_pos e]
      · show (if k = vs 0 then nI (vs 2) else _) = _
        rw [if_pos e]
      · show (if k = vs 0 then nI (vs 3) else _) = _
        rw [if_pos e]
      · show (if k = vs 0 then -1 else _) = _
        rw [if_pos e]
      · show (if k = vs 0 then -1 else _) = _
        rw [if_pos e]
      · show (if k = vs 0 then -1 else _) = _
        rw [if_pos e]
    · rw [if_neg e, if_neg e]
      obtain ⟨w0, w1, w2, w3, w4, w5⟩ := v3 k hk
      refine ⟨w0, ?_, ?_, ?_, ?_, fun u hu => ⟨?_, ?_⟩⟩
      · show (if k = vs 0 then nI (vs 1) else A 4 k 0) = _
        rw [if_neg e]; exact w1
      · show (if k = vs 0 then nI (vs 2) else A 4 k 1) = _
        rw [if_neg e]; exact w2
      · obtain ⟨z, z1, z2, z3⟩ := w3
        refine ⟨z, z1, z2, ?_⟩
        show (if k = vs 0 then nI (vs 3) else A 4 k 2) = _
        rw [if_neg e]; exact z3
      · show (if k = vs 0 then -1 else A 4 k 3) = -1 ∨ ∃ p, p < nn ∧ p ≠ ss k ∧ p ≠ gg k ∧ (if k = vs 0 then -1 else A 4 k 3) = nI p
        rw [if_neg e]; exact w4
      · show rok nn (gg k) u (if k = vs 0 then -1 else A 5 k u)
        rw [if_neg e]; exact (w5 u hu).1
      · show rok nn (gg k) u (if k = vs 0 then -1 else A 6 k u)
        rw [if_neg e]; exact (w5 u hu).2
  · have o := o3 rfl
    refine ⟨v0, v1, v2, fun k hk => ?_⟩
    obtain ⟨w0, w1, w2, w3, w4, w5⟩ := v3 k hk
    refine ⟨w0, w1, w2, w3, ?_, w5⟩
    show am_up A 4 (vs 0) 3 (nI (vs 1)) 4 k 3 = -1 ∨ ∃ p, p < nn ∧ p ≠ ss k ∧ p ≠ gg k ∧ am_up A 4 (vs 0) 3 (nI (vs 1)) 4 k 3 = nI p
    by_cases e : k = vs 0
    · rw [e, am_up_self]
      exact Or.inr ⟨vs 1, o.2.1, o.2.2.1, o.2.2.2, rfl⟩
    · rw [am_up_ne (Or.inr (Or.inl e))]; exact w4
  · have o := o4 rfl
    refine ⟨v0, v1, v2, fun k hk => ?_⟩
    obtain ⟨w0, w1, w2, w3, w4, w5⟩ := v3 k hk
    refine ⟨w0, w1, w2, w3, w4, fun u hu => ⟨?_, (w5 u hu).2⟩⟩
    show rok nn (gg k) u (am_up A 5 (vs 0) (vs 1) (nI (vs 2)) 5 k u)
    by_cases e : k = vs 0 ∧ u = vs 1
    · rw [e.1, e.2, am_up_self]
      exact Or.inr ⟨vs 2, o.2.2.2.1, o.2.2.2.2, o.2.1, o.2.2.1, rfl⟩
    · rw [am_up_ne (by
        by_cases e1 : k = vs 0
        · exact Or.inr (Or.inr (fun e2 => e ⟨e1, e2⟩))
        · exact Or.inr (Or.inl e1))]
      exact (w5 u hu).1
  · have o := o5 rfl
    refine ⟨v0, v1, v2, fun k hk => ?_⟩
    obtain ⟨w0, w1, w2, w3, w4, w5⟩ := v3 k hk
    refine ⟨w0, w1, w2, w3, w4, fun u hu => ⟨(w5 u hu).1, ?_⟩⟩
    show rok nn (gg k) u (am_up A 6 (vs 0) (vs 1) (nI (vs 2)) 6 k u)
    by_cases e : k = vs 0 ∧ u = vs 1
    · rw [e.1, e.2, am_up_self]
      exact Or.inr ⟨vs 2, o.2.2.2.1, o.2.2.2.2, o.2.1, o.2.2.1, rfl⟩
    · rw [am_up_ne (by
        by_cases e1 : k = vs 0
        · exact Or.inr (Or.inr (fun e2 => e ⟨e1, e2⟩))
        · exact Or.inr (Or.inl e1))]
      exact (w5 u hu).2
theorem VA_fold : ∀ {L : List (Nat × (Nat → Nat))} {nn : Nat} {ss gg : Nat → Nat} {A : am_M}, VA nn ss gg A → VC nn ss gg L → ∃ nn' ss' gg', VA nn' ss' gg' (fA L A) := by
  intro L
  induction L with
  | nil => intro nn ss gg A h _; exact ⟨nn, ss, gg, h⟩
  | cons a L ih => intro nn ss gg A h hc; exact ih (VA_do h hc.1) hc.2
theorem up_cg {A N : am_M} {p q r : Nat} (a b d : Nat) (x : Int32) (h : N p q r = A p q r) : am_up N a b d x p q r = am_up A a b d x p q r := by
  rw [up_ap, up_ap, h]
theorem rc_up {A N : am_M} (a b d : Nat) (x : Int32) (h : rc A N) : rc (am_up A a b d x) (am_up N a b d x) := by
  obtain ⟨h1, h2, h3⟩ := h
  refine ⟨up_cg a b d x h1, fun y hy => up_cg a b d x (h2 y hy), fun k hk => ?_⟩
  obtain ⟨⟨a0, a1, a2, a3⟩, a4⟩ := h3 k hk
  exact ⟨⟨up_cg a b d x a0, up_cg a b d x a1, up_cg a b d x a2, up_cg a b d x a3⟩, fun u hu => ⟨up_cg a b d x (a4 u hu).1, up_cg a b d x (a4 u hu).2⟩⟩
theorem RL_keep {M N : am_M} (h : ∀ s, N 22 0 s = M 22 0 s) : ∀ {L : List (Nat × (Nat → Nat))} {c : Nat}, RL c L M → RL c L N := by
  intro L
  induction L with
  | nil => intro c _; trivial
  | cons a L ih =>
    intro c hr
    exact ⟨⟨(h _).trans hr.1.1, fun x hx => (h _).trans (hr.1.2 x hx)⟩, ih hr.2⟩
section
variable {E : am_E} {M N A : am_M} {X : Nat → Nat} {l : Nat}
theorem c_doClause {c w nn : Nat} {ss gg vs : Nat → Nat} (hc : c < 24) (hV : VA nn ss gg A) (hok : okC nn ss gg w vs) (hr : rc A N) (hrow : row c w vs N) : ∃ N', am_run (am_I2 E) mI_Re_doClause [.inr (.inl (some (20, 0))), .inl (nI (5 * c))] N = some (none, N') ∧ fS Sdc N N' ∧ rc (doA w vs A) N' := by
  obtain ⟨o0, o1, o2, o3, o4, o5⟩ := ok_num hok
  obtain ⟨v0, v1, v2, v3⟩ := id hV
  obtain ⟨r0, r1⟩ := hrow
  have a1 : nI (5 * c) + 1 = nI (5 * c + 1) := nI_1 _
  have a2 : nI (5 * c) + 2 = nI (5 * c + 2) := nI_add (5 * c) 2
  have a3 : nI (5 * c) + 3 = nI (5 * c + 3) := nI_add (5 * c) 3
  have a4 : nI (5 * c) + 4 = nI (5 * c + 4) := nI_add (5 * c) 4
  have hN1 : N 1 0 0 = nI nn := hr.1.trans v1
  rw [rq_Re_doClause, c_clauseAt (by omega), z_bI, a1, c_clauseAt (by omega), z_bI, a2, c_clauseAt (by omega), z_bI, a3, c_clauseAt (by omega), z_bI, r0]
  have h6 : w = 0 ∨ w = 1 ∨ w = 2 ∨ w = 3 ∨ w = 4 ∨ w = 5 := by have := hok.1; omega
  rcases h6 with rfl | rfl | rfl | rfl | rfl | rfl
  · have e1 : N 22 0 (5 * c + 1) = nI (vs 0) := r1 0 (by decide)
    obtain ⟨N', k1, k2, k3⟩ := c_startAnew (E := E) (n := nI (vs 0)) hr
    rw [if_pos (by decide), e1, k1, z_bV]
    exact ⟨N', rfl, k2, k3⟩
  · have o := o1 rfl
    have e1 : N 22 0 (5 * c + 1) = nI (vs 0) := r1 0 (by decide)
    have e2 : N 22 0 (5 * c + 2) = nI (vs 1) := r1 1 (by decide)
    have e3 : N 22 0 (5 * c + 3) = nI (vs 2) := r1 2 (by decide)
    rw [if_neg (by decide), if_pos (by decide), e1, e2, e3, c_setRoom hN1 v0.2 o.1 o.2.1, z_bV]
    exact ⟨_, rfl, fS_up fS_rfl rfl, rc_up 2 0 _ _ hr⟩
  · have o := o2 rfl
    have e1 : N 22 0 (5 * c + 1) = nI (vs 0) := r1 0 (by decide)
    have e2 : N 22 0 (5 * c + 2) = nI (vs 1) := r1 1 (by decide)
    have e3 : N 22 0 (5 * c + 3) = nI (vs 2) := r1 2 (by decide)
    have e4 : N 22 0 (5 * c + 4) = nI (vs 3) := r1 3 (by decide)
    obtain ⟨N', k1, k2, k3⟩ := c_lay (E := E) (k := vs 0) (x1 := nI (vs 1)) (x2 := nI (vs 2)) (x3 := nI (vs 3)) hr
    rw [if_neg (by decide), if_neg (by decide), e1, e2, e3, c_flowAt_s o.1, z_bR, eq_Re_doClause_71v1, if_pos (by decide), a4, c_clauseAt (by omega), z_bI, e4, k1, z_bV]
    exact ⟨N', rfl, k2, k3⟩
  · have o := o3 rfl
    have e1 : N 22 0 (5 * c + 1) = nI (vs 0) := r1 0 (by decide)
    have e2 : N 22 0 (5 * c + 2) = nI (vs 1) := r1 1 (by decide)
    rw [if_neg (by decide), if_neg (by decide), e1, e2, c_flowAt_s o.1, z_bR, eq_Re_doClause_71v1, if_neg (by decide), if_pos (by decide)]
    exact ⟨_, rfl, fS_up fS_rfl rfl, rc_up 4 _ 3 _ hr⟩
  · have o := o4 rfl
    have e1 : N 22 0 (5 * c + 1) = nI (vs 0) := r1 0 (by decide)
    have e2 : N 22 0 (5 * c + 2) = nI (vs 1) := r1 1 (by decide)
    have e3 : N 22 0 (5 * c + 3) = nI (vs 2) := r1 2 (by decide)
    rw [if_neg (by decide), if_neg (by decide), e1, e2, e3, c_flowAt_s o.1, z_bR, eq_Re_doClause_71v1, if_neg (by decide), if_neg (by decide), if_pos (by decide), rq_Fl_setOld, c_isPlace_s (y := 8) (n := 8) rfl (by omega) (by decide), z_bI, if_neg z_ne10, z_in (by omega) (by omega), z_if, z_ix (by omega), z_bV]
    exact ⟨_, rfl, fS_up fS_rfl rfl, rc_up 5 _ _ _ hr⟩
  · have o := o5 rfl
    have e1 : N 22 0 (5 * c + 1) = nI (vs 0) := r1 0 (by decide)
    have e2 : N 22 0 (5 * c + 2) = nI (vs 1) := r1 1 (by decide)
    have e3 : N 22 0 (5 * c + 3) = nI (vs 2) := r1 2 (by decide)
    rw [if_neg (by decide), if_neg (by decide), e1, e2, e3, c_flowAt_s o.1, z_bR, eq_Re_doClause_71v1, if_neg (by decide), if_neg (by decide), if_neg (by decide), rq_Fl_setNew, c_isPlace_s (y := 8) (n := 8) rfl (by omega) (by decide), z_bI, if_neg z_ne10, z_in (by omega) (by omega), z_if, z_ix (by omega), z_bV]
    exact ⟨_, rfl, fS_up fS_rfl rfl, rc_up 6 _ _ _ hr⟩
theorem c_doClauses : ∀ {L : List (Nat × (Nat → Nat))} {i nn : Nat} {ss gg : Nat → Nat} {A N : am_M}, VA nn ss gg A → VC nn ss gg L → rc A N → RL i L N → N 20 0 7 = nI (i + L.length) → i + L.length ≤ 24 → ∃ N', am_ex (am_I2 E) mI_Re_doClauses 2 [some (.inr (.inl (some (20, 0)))), some (.inl (nI i))] [] N = some (none, N') ∧ fS Sdc N N' ∧ rc (fA L A) N' := by
  intro L
  induction L with
  | nil =>
    intro i nn ss gg A N _ _ hr _ h7 hi
    refine ⟨N, ?_, fS_rfl, hr⟩
    rw [eq_Re_doClauses_2, h7, if_neg (nI_nlt (by show i + 0 ≤ i; omega) (by omega))]
  | cons a L ih =>
    intro i nn ss gg A N hV hC hr hRL h7 hi
    have hlen : (a :: L).length = L.length + 1 := rfl
    rw [hlen] at h7 hi
    have h24 : nI i < 24 := nI_lt (b := 24) (by omega) (by omega)
    have hm5 : nI i * 5 = nI (5 * i) := by
      have : nI i * 5 = nI (i * 5) := pk_mul i 5
      rw [this, Nat.mul_comm]
    obtain ⟨N1, k1, k2, k3⟩ := c_doClause (E := E) (c := i) (by omega) hV hC.1 hr hRL.1
    obtain ⟨N2, m1, m2, m3⟩ := ih (i := i + 1) (VA_do hV hC.1) hC.2 k3 (RL_keep (fun s => k2 22 0 s rfl) hRL.2) ((k2 20 0 7 rfl).trans (by rw [h7]; congr 1; omega)) (by omega)
    refine ⟨N2, ?_, fS_tr k2 m2, m3⟩
    rw [eq_Re_doClauses_2, h7, if_pos (nI_lt (by omega) (by omega)), if_pos h24, hm5, k1, z_bV, nI_1]
    exact m1
theorem m_does {w nn : Nat} {ss gg vs : Nat → Nat} (hV : VA nn ss gg A) (hok : okC nn ss gg w vs) (hr : rm A N) (hR : rR (cnt w) vs N) : ∃ N', am_run (am_I2 E) mI_Mo_does [.inr (.inl (some (25, 0))), .inl (nI w)] N = some (none, N') ∧ fS Sdm N N' ∧ rm (doA w vs A) N' := by
  obtain ⟨o0, o1, o2, o3, o4, o5⟩ := ok_num hok
  obtain ⟨v0, v1, v2, v3⟩ := id hV
  obtain ⟨r1, r2, r3⟩ := id hr
  have i04 : am_in 0 4 = true := by decide
  have i14 : am_in 1 4 = true := by decide
  have i24 : am_in 2 4 = true := by decide
  have i34 : am_in 3 4 = true := by decide
  have x0 : am_ix 0 = 0 := by decide
  have x1 : am_ix 1 = 1 := by decide
  have x2 : am_ix 2 = 2 := by decide
  have x3 : am_ix 3 = 3 := by decide
  rw [rq_Mo_does, i04, z_if, x0]
  have h6 : w = 0 ∨ w = 1 ∨ w = 2 ∨ w = 3 ∨ w = 4 ∨ w = 5 := by have := hok.1; omega
  rcases h6 with rfl | rfl | rfl | rfl | rfl | rfl
  · have e0 : N 42 0 0 = nI (vs 0) := hR 0 (by decide)
    obtain ⟨N', k1, k2, k3⟩ := m_begins (E := E) (n := nI (vs 0)) hr
    rw [if_pos (by decide), z_if, e0, k1, z_bV]
    exact ⟨N', rfl, k2, k3⟩
  · have o := o1 rfl
    have e0 : N 42 0 0 = nI (vs 0) := hR 0 (by decide)
    have e1 : N 42 0 1 = nI (vs 1) := hR 1 (by decide)
    have e2 : N 42 0 2 = nI (vs 2) := hR 2 (by decide)
    rw [if_neg (by decide), if_pos (by decide), z_if, i14, z_if, i24, z_if, x1, x2, e0, e1, e2, z_8mul, z_in (by omega) (by omega), z_if, z_ix (by omega)]
    refine ⟨_, rfl, fS_up fS_rfl rfl, r1, fun y hy => ?_, r3⟩
    show am_up N 26 0 (8 * vs 0 + vs 1) (nI (vs 2)) 26 0 y = am_up A 2 0 (8 * vs 0 + vs 1) (nI (vs 2)) 2 0 y
    rw [up_ap, up_ap, r2 y hy]
    by_cases e : y = 8 * vs 0 + vs 1
    · rw [if_pos ⟨rfl, rfl, e⟩, if_pos ⟨rfl, rfl, e⟩]
    · rw [if_neg (fun w => e w.2.2), if_neg (fun w => e w.2.2)]
  · have o := o2 rfl
    have e0 : N 42 0 0 = nI (vs 0) := hR 0 (by decide)
    have e1 : N 42 0 1 = nI (vs 1) := hR 1 (by decide)
    have e2 : N 42 0 2 = nI (vs 2) := hR 2 (by decide)
    have e3 : N 42 0 3 = nI (vs 3) := hR 3 (by decide)
    obtain ⟨N', k1, k2, k3⟩ := m_flows (E := E) (k := vs 0) (x1 := nI (vs 1)) (x2 := nI (vs 2)) (x3 := nI (vs 3)) o.1 hr
    rw [if_neg (by decide), if_neg (by decide), if_pos (by decide), i14, z_if, i24, z_if, i34, z_if, x1, x2, x3, e0, e1, e2, e3, k1, z_bV]
    exact ⟨N', rfl, k2, k3⟩
  · have o := o3 rfl
    have e0 : N 42 0 0 = nI (vs 0) := hR 0 (by decide)
    have e1 : N 42 0 1 = nI (vs 1) := hR 1 (by decide)
    rw [if_neg (by decide), if_neg (by decide), if_neg (by decide), if_pos (by decide), i14, z_if, x1, e0, e1, z_in o.1 (by omega), z_if, z_ix (by omega)]
    refine ⟨_, rfl, fS_up fS_rfl rfl, r1, r2, fun k hk => ?_⟩
    obtain ⟨⟨b0, b1, b2, b3⟩, b4⟩ := r3 k hk
    refine ⟨⟨b0, b1, b2, ?_⟩, b4⟩
    show am_up N 30 0 (vs 0) (nI (vs 1)) 30 0 k = am_up A 4 (vs 0) 3 (nI (vs 1)) 4 k 3
    rw [up_ap, up_ap, b3]
    by_cases e : k = vs 0
    · rw [if_pos ⟨rfl, rfl, e⟩, if_pos ⟨rfl, e, rfl⟩]
    · rw [if_neg (fun w => e w.2.2), if_neg (fun w => e w.2.1)]
  · have o := o4 rfl
    have e0 : N 42 0 0 = nI (vs 0) := hR 0 (by decide)
    have e1 : N 42 0 1 = nI (vs 1) := hR 1 (by decide)
    have e2 : N 42 0 2 = nI (vs 2) := hR 2 (by decide)
    rw [if_neg (by decide), if_neg (by decide), if_neg (by decide), if_neg (by decide), if_pos (by decide), i14, z_if, i24, z_if, x1, x2, e0, e1, e2, z_8mul, z_in (by omega) (by omega), z_if, z_ix (by omega)]
    refine ⟨_, rfl, fS_up fS_rfl rfl, r1, r2, fun k hk => ?_⟩
    obtain ⟨⟨b0, b1, b2, b3⟩, b4⟩ := r3 k hk
    refine ⟨⟨b0, b1, b2, b3⟩, fun u hu => ⟨?_, (b4 u hu).2⟩⟩
    show am_up N 31 0 (8 * vs 0 + vs 1) (nI (vs 2)) 31 0 (8 * k + u) = am_up A 5 (vs 0) (vs 1) (nI (vs 2)) 5 k u
    rw [up_ap, up_ap, (b4 u hu).1]
    by_cases e : k = vs 0 ∧ u = vs 1
    · rw [if_pos ⟨rfl, rfl, by omega⟩, if_pos ⟨rfl, e.1, e.2⟩]
    · rw [if_neg (fun w => e (by have := w.2.2; omega)), if_neg (fun w => e ⟨w.2.1, w.2.2⟩)]
  · have o := o5 rfl
    have e0 : N 42 0 0 = nI (vs 0) := hR 0 (by decide)
    have e1 : N 42 0 1 = nI (vs 1) := hR 1 (by decide)
    have e2 : N 42 0 2 = nI (vs 2) := hR 2 (by decide)
    rw [if_neg (by decide), if_neg (by decide), if_neg (by decide), if_neg (by decide), if_neg (by decide), i14, z_if, i24, z_if, x1, x2, e0, e1, e2, z_8mul, z_in (by omega) (by omega), z_if, z_ix (by omega)]
    refine ⟨_, rfl, fS_up fS_rfl rfl, r1, r2, fun k hk => ?_⟩
    obtain ⟨⟨b0, b1, b2, b3⟩, b4⟩ := r3 k hk
    refine ⟨⟨b0, b1, b2, b3⟩, fun u hu => ⟨(b4 u hu).1, ?_⟩⟩
    show am_up N 32 0 (8 * vs 0 + vs 1) (nI (vs 2)) 32 0 (8 * k + u) = am_up A 6 (vs 0) (vs 1) (nI (vs 2)) 6 k u
    rw [up_ap, up_ap, (b4 u hu).2]
    by_cases e : k = vs 0 ∧ u = vs 1
    · rw [if_pos ⟨rfl, rfl, by omega⟩, if_pos ⟨rfl, e.1, e.2⟩]
    · rw [if_neg (fun w => e (by have := w.2.2; omega)), if_neg (fun w => e ⟨w.2.1, w.2.2⟩)]
end
