/-! clauses are done -/
def lyA (A : am_M) (k : Nat) (s g z : Int32) : am_M := fun a b c => match a with
  | 4 => if b = k then (match c with
    | 0 => s
    | 1 => g
    | 2 => z
    | 3 => -1
    | _ => A 4 b c) else A 4 b c
  | 5 => if b = k then -1 else A 5 b c
  | 6 => if b = k then -1 else A 6 b c
  | _ => A a b c
def bgA (A : am_M) (n : Int32) : am_M := fun a b c => match a with
  | 1 => match c with
    | 0 => n
    | _ => A 1 b c
  | 2 => 0
  | 4 => match c with
    | 0 => 0
    | 1 => 1
    | 2 => 1
    | 3 => -1
    | _ => A 4 b c
  | 5 => -1
  | 6 => -1
  | _ => A a b c
/-- what a clause makes of a net -/
def doA (w : Nat) (vs : Nat → Nat) (A : am_M) : am_M := match w with
  | 0 => bgA A (nI (vs 0))
  | 1 => am_up A 2 0 (8 * vs 0 + vs 1) (nI (vs 2))
  | 2 => lyA A (vs 0) (nI (vs 1)) (nI (vs 2)) (nI (vs 3))
  | 3 => am_up A 4 (vs 0) 3 (nI (vs 1))
  | 4 => am_up A 5 (vs 0) (vs 1) (nI (vs 2))
  | _ => am_up A 6 (vs 0) (vs 1) (nI (vs 2))
/-- the net in the class, in the reference -/
def rc (A N : am_M) : Prop := N 1 0 0 = A 1 0 0 ∧ (∀ x, x < 64 → N 2 0 x = A 2 0 x) ∧ ∀ k, k < 3 → (N 4 k 0 = A 4 k 0 ∧ N 4 k 1 = A 4 k 1 ∧ N 4 k 2 = A 4 k 2 ∧ N 4 k 3 = A 4 k 3) ∧ ∀ u, u < 8 → N 5 k u = A 5 k u ∧ N 6 k u = A 6 k u
def rm (A N : am_M) : Prop := N 25 0 0 = A 1 0 0 ∧ (∀ x, x < 64 → N 26 0 x = A 2 0 x) ∧ ∀ k, k < 3 → (N 27 0 k = A 4 k 0 ∧ N 28 0 k = A 4 k 1 ∧ N 29 0 k = A 4 k 2 ∧ N 30 0 k = A 4 k 3) ∧ ∀ u, u < 8 → N 31 0 (8 * k + u) = A 5 k u ∧ N 32 0 (8 * k + u) = A 6 k u
def Sdc (a s : Nat) : Bool := match a with
  | 1 => Nat.beq s 0
  | 2 => true
  | 4 => match s with
    | 0 => true
    | 1 => true
    | 2 => true
    | 3 => true
    | _ => false
  | 5 => true
  | 6 => true
  | _ => false
def Sdm (a s : Nat) : Bool := match a with
  | 25 => Nat.beq s 0
  | 26 => true
  | 27 => true
  | 28 => true
  | 29 => true
  | 30 => true
  | 31 => true
  | 32 => true
  | _ => false
theorem rm_cong {A A' N : am_M} (h : rc A' A) (hr : rm A N) : rm A' N := by
  obtain ⟨h1, h2, h3⟩ := h
  obtain ⟨r1, r2, r3⟩ := hr
  refine ⟨r1.trans h1, fun x hx => (r2 x hx).trans (h2 x hx), fun k hk => ?_⟩
  obtain ⟨⟨a0, a1, a2, a3⟩, a4⟩ := h3 k hk
  obtain ⟨⟨b0, b1, b2, b3⟩, b4⟩ := r3 k hk
  exact ⟨⟨b0.trans a0, b1.trans a1, b2.trans a2, b3.trans a3⟩, fun u hu => ⟨(b4 u hu).1.trans (a4 u hu).1, (b4 u hu).2.trans (a4 u hu).2⟩⟩
theorem rc_cong {A A' N : am_M} (h : rc A' A) (hr : rc A N) : rc A' N := by
  obtain ⟨h1, h2, h3⟩ := h
  obtain ⟨r1, r2, r3⟩ := hr
  refine ⟨r1.trans h1, fun x hx => (r2 x hx).trans (h2 x hx), fun k hk => ?_⟩
  obtain ⟨⟨a0, a1, a2, a3⟩, a4⟩ := h3 k hk
  obtain ⟨⟨b0, b1, b2, b3⟩, b4⟩ := r3 k hk
  exact ⟨⟨b0.trans a0, b1.trans a1, b2.trans a2, b3.trans a3⟩, fun u hu => ⟨(b4 u hu).1.trans (a4 u hu).1, (b4 u hu).2.trans (a4 u hu).2⟩⟩
/-- three flows laid anew over a net without rooms -/
theorem three {A A1 : am_M} {n : Int32} (h1 : A1 1 0 0 = n) (h2 : ∀ x, x < 64 → A1 2 0 x = 0) : rc (bgA A n) (lyA (lyA (lyA A1 0 0 1 1) 1 0 1 1) 2 0 1 1) := by
  refine ⟨h1, h2, fun k hk => ?_⟩
  have hk3 : k = 0 ∨ k = 1 ∨ k = 2 := by omega
  rcases hk3 with rfl | rfl | rfl
  · exact ⟨⟨rfl, rfl, rfl, rfl⟩, fun u _ => ⟨rfl, rfl⟩⟩
  · exact ⟨⟨rfl, rfl, rfl, rfl⟩, fun u _ => ⟨rfl, rfl⟩⟩
  · exact ⟨⟨rfl, rfl, rfl, rfl⟩, fun u _ => ⟨rfl, rfl⟩⟩
section
variable {E : am_E} {M N A : am_M}
theorem c_lay {k : Nat} {x1 x2 x3 : Int32} (hr : rc A N) : ∃ N', am_run (am_I2 E) mI_Fl_lay [.inr (.inl (some (4, k))), .inl x1, .inl x2, .inl x3] N = some (none, N') ∧ fS Sdc N N' ∧ rc (lyA A k x1 x2 x3) N' := by
  have loop : ∀ j u P, u + j = 8 → fS Sdc N P → (∀ y, y < u → P 5 k y = -1 ∧ P 6 k y = -1) → (∀ a b s, (a ≠ 5 ∧ a ≠ 6 ∨ b ≠ k) → P a b s = (am_up (am_up (am_up (am_up N 4 k 0 x1) 4 k 1 x2) 4 k 2 x3) 4 k 3 (-1)) a b s) → ∃ N', am_ex (am_I2 E) mI_Fl_lay 23 [some (.inr (.inl (some (4, k)))), some (.inl x1), some (.inl x2), some (.inl x3), some (.inl (nI u))] [] P = some (none, N') ∧ fS Sdc N N' ∧ (∀ y, y < 8 → N' 5 k y = -1 ∧ N' 6 k y = -1) ∧ ∀ a b s, (a ≠ 5 ∧ a ≠ 6 ∨ b ≠ k) → N' a b s = (am_up (am_up (am_up (am_up N 4 k 0 x1) 4 k 1 x2) 4 k 2 x3) 4 k 3 (-1)) a b s := by
    intro j
    induction j with
    | zero =>
      intro u P hu hf h ho
      have h8 : ¬ nI u < 8 := nI_nlt (b := 8) (by omega) (by omega)
      exact ⟨P, by rw [eq_Fl_lay_23, if_neg h8], hf, fun y hy => h y (by omega), ho⟩
    | succ j ih =>
      intro u P hu hf h ho
      have h8 : nI u < 8 := nI_lt (b := 8) (by omega) (by omega)
      rw [eq_Fl_lay_23, if_pos h8, z_in (by omega) (by omega), z_if, z_if, z_ix (by omega), nI_1]
      refine ih (u + 1) _ (by omega) (fS_up (fS_up hf rfl) rfl) (fun y hy => ?_) (fun a b s hab => ?_)
      · by_cases e : y = u
        · rw [e]
          exact ⟨am_up_self P 5 k u (-1), am_up_self _ 6 k u (-1)⟩
        · exact ⟨(am_up_ne (M := P) (a := 5) (b := k) (c := u) (x := -1) (Or.inr (Or.inr e))).trans (h y (by omega)).1, (am_up_ne (M := am_up P 5 k u (-1)) (a := 6) (b := k) (c := u) (x := -1) (Or.inr (Or.inr e))).trans (h y (by omega)).2⟩
      · rw [am_up_ne (by rcases hab with w | w; exact Or.inl w.2; exact Or.inr (Or.inl w)), am_up_ne (by rcases hab with w | w; exact Or.inl w.1; exact Or.inr (Or.inl w))]
        exact ho a b s hab
  obtain ⟨N', k1, k2, k3, k4⟩ := loop 8 0 (am_up (am_up (am_up (am_up N 4 k 0 x1) 4 k 1 x2) 4 k 2 x3) 4 k 3 (-1)) rfl (fS_up (fS_up (fS_up (fS_up fS_rfl rfl) rfl) rfl) rfl) (fun y hy => absurd hy (by omega)) (fun _ _ _ _ => rfl)
  refine ⟨N', by rw [rq_Fl_lay]; exact k1, k2, ?_⟩
  obtain ⟨r1, r2, r3⟩ := hr
  refine ⟨(k4 1 0 0 (Or.inl (by decide))).trans r1, fun x hx => (k4 2 0 x (Or.inl (by decide))).trans (r2 x hx), fun j hj => ?_⟩
  obtain ⟨⟨b0, b1, b2, b3⟩, b4⟩ := r3 j hj
  by_cases e : j = k
  · subst e
    refine ⟨⟨?_, ?_, ?_, ?_⟩, fun u hu => ⟨?_, ?_⟩⟩
    · rw [k4 4 j 0 (Or.inl (by decide))]
      show _ = if j = j then x1 else _
      rw [if_pos rfl]
      exact am_up_self N 4 j 0 x1
    · rw [k4 4 j 1 (Or.inl (by decide))]
      show _ = if j = j then x2 else _
      rw [if_pos rfl]
      exact am_up_self (am_up N 4 j 0 x1) 4 j 1 x2
    · rw [k4 4 j 2 (Or.inl (by decide))]
      show _ = if j = j then x3 else _
      rw [if_pos rfl]
      exact am_up_self (am_up (am_up N 4 j 0 x1) 4 j 1 x2) 4 j 2 x3
    · rw [k4 4 j 3 (Or.inl (by decide))]
      show _ = if j = j then -1 else _
      rw [if_pos rfl]
      exact am_up_self _ 4 j 3 (-1)
    · rw [(k3 u hu).1]
      show _ = if j = j then -1 else _
      rw [if_pos rfl]
    · rw [(k3 u hu).2]
      show _ = if j = j then -1 else _
      rw [if_pos rfl]
  · have h4 : ∀ s, N' 4 j s = N 4 j s := fun s => by
      rw [k4 4 j s (Or.inl (by decide)), am_up_ne (Or.inr (Or.inl e)), am_up_ne (Or.inr (Or.inl e)), am_up_ne (Or.inr (Or.inl e)), am_up_ne (Or.inr (Or.inl e))]
    have h5 : ∀ s, N' 5 j s = N 5 j s := fun s => k4 5 j s (Or.inr e)
    have h6 : ∀ s, N' 6 j s = N 6 j s := fun s => k4 6 j s (Or.inr e)
    refine ⟨⟨?_, ?_, ?_, ?_⟩, fun u hu => ⟨?_, ?_⟩⟩
    · show _ = if j = k then x1 else A 4 j 0
      rw [if_neg e, h4]; exact b0
    · show _ = if j = k then x2 else A 4 j 1
      rw [if_neg e, h4]; exact b1
    · show _ = if j = k then x3 else A 4 j 2
      rw [if_neg e, h4]; exact b2
    · show _ = if j = k then -1 else A 4 j 3
      rw [if_neg e, h4]; exact b3
    · show _ = if j = k then -1 else A 5 j u
      rw [if_neg e, h5]; exact (b4 u hu).1
    · show _ = if j = k then -1 else A 6 j u
      rw [if_neg e, h6]; exact (b4 u hu).2
theorem c_startAnew {n : Int32} (hr : rc A N) : ∃ N', am_run (am_I2 E) mI_Ne_startAnew [.inr (.inl (some (1, 0))), .inl n] N = some (none, N') ∧ fS Sdc N N' ∧ rc (bgA A n) N' := by
  have rooms : ∀ j i P, i + j = 64 → fS Sdc N P → (∀ y, y < i → P 2 0 y = 0) → (∀ a b s, a ≠ 2 → P a b s = (am_up N 1 0 0 n) a b s) → ∃ N', am_ex (am_I2 E) mI_Ne_startAnew 7 [some (.inr (.inl (some (1, 0)))), some (.inl n), some (.inl (nI i))] [] P = am_ex (am_I2 E) mI_Ne_startAnew 28 [some (.inr (.inl (some (1, 0)))), some (.inl n), some (.inl (nI 0))] [] N' ∧ fS Sdc N N' ∧ (∀ y, y < 64 → N' 2 0 y = 0) ∧ ∀ a b s, a ≠ 2 → N' a b s = (am_up N 1 0 0 n) a b s := by
    intro j
    induction j with
    | zero =>
      intro i P hi hf h ho
      have h8 : ¬ nI i < 64 := nI_nlt (b := 64) (by omega) (by omega)
      exact ⟨P, by rw [eq_Ne_startAnew_7, if_neg h8]; rfl, hf, fun y hy => h y (by omega), ho⟩
    | succ j ih =>
      intro i P hi hf h ho
      have h8 : nI i < 64 := nI_lt (b := 64) (by omega) (by omega)
      rw [eq_Ne_startAnew_7, if_pos h8, z_in (by omega) (by omega), z_if, z_ix (by omega), nI_1]
      refine ih (i + 1) _ (by omega) (fS_up hf rfl) (fun y hy => ?_) (fun a b s hab => ?_)
      · by_cases e : y = i
        · rw [e]; exact am_up_self P 2 0 i 0
        · exact (am_up_ne (M := P) (a := 2) (b := 0) (c := i) (x := 0) (Or.inr (Or.inr e))).trans (h y (by omega))
      · rw [am_up_ne (Or.inl hab)]
        exact ho a b s hab
  obtain ⟨P0, k1, k2, k3, k4⟩ := rooms 64 0 (am_up N 1 0 0 n) rfl (fS_up fS_rfl rfl) (fun y hy => absurd hy (by omega)) (fun _ _ _ _ => rfl)
  have hr0 : rc P0 P0 := ⟨rfl, fun _ _ => rfl, fun _ _ => ⟨⟨rfl, rfl, rfl, rfl⟩, fun _ _ => ⟨rfl, rfl⟩⟩⟩
  obtain ⟨P1, l1, l2, l3⟩ := c_lay (E := E) (k := 0) (x1 := 0) (x2 := 1) (x3 := 1) hr0
  obtain ⟨P2, l4, l5, l6⟩ := c_lay (E := E) (k := 1) (x1 := 0) (x2 := 1) (x3 := 1) l3
  obtain ⟨P3, l7, l8, l9⟩ := c_lay (E := E) (k := 2) (x1 := 0) (x2 := 1) (x3 := 1) l6
  have st : ∀ i P P', i < 3 → am_run (am_I2 E) mI_Fl_lay [.inr (.inl (some (4, i))), .inl 0, .inl 1, .inl 1] P = some (none, P') → am_ex (am_I2 E) mI_Ne_startAnew 28 [some (.inr (.inl (some (1, 0)))), some (.inl n), some (.inl (nI i))] [] P = am_ex (am_I2 E) mI_Ne_startAnew 28 [some (.inr (.inl (some (1, 0)))), some (.inl n), some (.inl (nI (i + 1)))] [] P' := by
    intro i P P' hi h
    have h3 : nI i < 3 := nI_lt (b := 3) (by omega) (by omega)
    rw [eq_Ne_startAnew_28, if_pos h3, z_in (by omega) (by omega), z_if, z_ix (by omega), h, z_bV, nI_1]
  refine ⟨P3, ?_, fS_tr (fS_tr (fS_tr k2 l2) l5) l8, rc_cong (three (k4 1 0 0 (by decide)) k3) l9⟩
  rw [rq_Ne_startAnew]
  refine Eq.trans k1 ((st 0 P0 P1 (by omega) l1).trans ((st 1 P1 P2 (by omega) l4).trans ((st 2 P2 P3 (by omega) l7).trans ?_)))
  rw [eq_Ne_startAnew_28, if_neg (by decide)]
theorem m_flows {k : Nat} {x1 x2 x3 : Int32} (hk : k < 3) (hr : rm A N) : ∃ N', am_run (am_I2 E) mI_Mo_flows [.inr (.inl (some (25, 0))), .inl (nI k), .inl x1, .inl x2, .inl x3] N = some (none, N') ∧ fS Sdm N N' ∧ rm (lyA A k x1 x2 x3) N' := by
  have loop : ∀ j u P, u + j = 8 → fS Sdm N P → (∀ y, y < u → P 31 0 (8 * k + y) = -1 ∧ P 32 0 (8 * k + y) = -1) → (∀ a b s, (a ≠ 31 ∧ a ≠ 32 ∨ s / 8 ≠ k) → P a b s = (am_up (am_up (am_up (am_up N 27 0 k x1) 28 0 k x2) 29 0 k x3) 30 0 k (-1)) a b s) → ∃ N', am_ex (am_I2 E) mI_Mo_flows 32 [some (.inr (.inl (some (25, 0)))), some (.inl (nI k)), some (.inl x1), some (.inl x2), some (.inl x3), some (.inl (nI u))] [] P = some (none, N') ∧ fS Sdm N N' ∧ (∀ y, y < 8 → N' 31 0 (8 * k + y) = -1 ∧ N' 32 0 (8 * k + y) = -1) ∧ ∀ a b s, (a ≠ 31 ∧ a ≠ 32 ∨ s / 8 ≠ k) → N' a b s = (am_up (am_up (am_up (am_up N 27 0 k x1) 28 0 k x2) 29 0 k x3) 30 0 k (-1)) a b s := by
    intro j
    induction j with
    | zero =>
      intro u P hu hf h ho
      have h8 : ¬ nI u < 8 := nI_nlt (b := 8) (by omega) (by omega)
      exact ⟨P, by rw [eq_Mo_flows_32, if_neg h8], hf, fun y hy => h y (by omega), ho⟩
    | succ j ih =>
      intro u P hu hf h ho
      have h8 : nI u < 8 := nI_lt (b := 8) (by omega) (by omega)
      rw [eq_Mo_flows_32, if_pos h8, z_8mul, z_in (by omega) (by omega), z_if, z_if, z_ix (by omega), nI_1]
      refine ih (u + 1) _ (by omega) (fS_up (fS_up hf rfl) rfl) (fun y hy => ?_) (fun a b s hab => ?_)
      · by_cases e : y = u
        · rw [e]
          exact ⟨am_up_self P 31 0 (8 * k + u) (-1), am_up_self _ 32 0 (8 * k + u) (-1)⟩
        · exact ⟨(am_up_ne (M := P) (a := 31) (b := 0) (c := 8 * k + u) (x := -1) (Or.inr (Or.inr (by omega)))).trans (h y (by omega)).1, (am_up_ne (M := am_up P 31 0 (8 * k + u) (-1)) (a := 32) (b := 0) (c := 8 * k + u) (x := -1) (Or.inr (Or.inr (by omega)))).trans (h y (by omega)).2⟩
      · rw [am_up_ne (by rcases hab with w | w; exact Or.inl w.2; exact Or.inr (Or.inr (by omega))), am_up_ne (by rcases hab with w | w; exact Or.inl w.1; exact Or.inr (Or.inr (by omega)))]
        exact ho a b s hab
  obtain ⟨N', k1, k2, k3, k4⟩ := loop 8 0 (am_up (am_up (am_up (am_up N 27 0 k x1) 28 0 k x2) 29 0 k x3) 30 0 k (-1)) rfl (fS_up (fS_up (fS_up (fS_up fS_rfl rfl) rfl) rfl) rfl) (fun y hy => absurd hy (by omega)) (fun _ _ _ _ => rfl)
  refine ⟨N', ?_, k2, ?_⟩
  · rw [rq_Mo_flows, z_in hk (by omega), z_if, z_if, z_if, z_if, z_ix (by omega)]
    exact k1
  obtain ⟨r1, r2, r3⟩ := hr
  refine ⟨(k4 25 0 0 (Or.inl (by decide))).trans r1, fun x hx => (k4 26 0 x (Or.inl (by decide))).trans (r2 x hx), fun j hj => ?_⟩
  obtain ⟨⟨b0, b1, b2, b3⟩, b4⟩ := r3 j hj
  by_cases e : j = k
  · subst e
    refine ⟨⟨?_, ?_, ?_, ?_⟩, fun u hu => ⟨?_, ?_⟩⟩
    · rw [k4 27 0 j (Or.inl (by decide))]
      show _ = if j = j then x1 else _
      rw [if_pos rfl]
      exact am_up_self N 27 0 j x1
    · rw [k4 28 0 j (Or.inl (by decide))]
      show _ = if j = j then x2 else _
      rw [if_pos rfl]
      exact am_up_self (am_up N 27 0 j x1) 28 0 j x2
    · rw [k4 29 0 j (Or.inl (by decide))]
      show _ = if j = j then x3 else _
      rw [if_pos rfl]
      exact am_up_self (am_up (am_up N 27 0 j x1) 28 0 j x2) 29 0 j x3
    · rw [k4 30 0 j (Or.inl (by decide))]
      show _ = if j = j then -1 else _
      rw [if_pos rfl]
      exact am_up_self _ 30 0 j (-1)
    · rw [(k3 u hu).1]
      show _ = if j = j then -1 else _
      rw [if_pos rfl]
    · rw [(k3 u hu).2]
      show _ = if j = j then -1 else _
      rw [if_pos rfl]
  · have h4 : ∀ a, (a ≠ 31 ∧ a ≠ 32) → N' a 0 j = N a 0 j := fun a ha => by
      rw [k4 a 0 j (Or.inl ha), am_up_ne (Or.inr (Or.inr e)), am_up_ne (Or.inr (Or.inr e)), am_up_ne (Or.inr (Or.inr e)), am_up_ne (Or.inr (Or.inr e))]
    have h5 : ∀ u, u < 8 → N' 31 0 (8 * j + u) = N 31 0 (8 * j + u) := fun u hu => k4 31 0 _ (Or.inr (by omega))
    have h6 : ∀ u, u < 8 → N' 32 0 (8 * j + u) = N 32 0 (8 * j + u) := fun u hu => k4 32 0 _ (Or.inr (by omega))
    refine ⟨⟨?_, ?_, ?_, ?_⟩, fun u hu => ⟨?_, ?_⟩⟩
    · show _ = if j = k then x1 else A 4 j 0
      rw [if_neg e, h4 27 (by decide)]; exact b0
    · show _ = if j = k then x2 else A 4 j 1
      rw [if_neg e, h4 28 (by decide)]; exact b1
    · show _ = if j = k then x3 else A 4 j 2
      rw [if_neg e, h4 29 (by decide)]; exact b2
    · show _ = if j = k then -1 else A 4 j 3
      rw [if_neg e, h4 30 (by decide)]; exact b3
    · show _ = if j = k then -1 else A 5 j u
      rw [if_neg e, h5 u hu]; exact (b4 u hu).1
    · show _ = if j = k then -1 else A 6 j u
      rw [if_neg e, h6 u hu]; exact (b4 u hu).2
theorem m_begins {n : Int32} (hr : rm A N) : ∃ N', am_run (am_I2 E) mI_Mo_begins [.inr (.inl (some (25, 0))), .inl n] N = some (none, N') ∧ fS Sdm N N' ∧ rm (bgA A n) N' := by
  have rooms : ∀ j i P, i + j = 64 → fS Sdm N P → (∀ y, y < i → P 26 0 y = 0) → (∀ a b s, a ≠ 26 → P a b s = (am_up N 25 0 0 n) a b s) → ∃ N', am_ex (am_I2 E) mI_Mo_begins 7 [some (.inr (.inl (some (25, 0)))), some (.inl n), some (.inl (nI i))] [] P = am_ex (am_I2 E) mI_Mo_begins 28 [some (.inr (.inl (some (25, 0)))), some (.inl n), some (.inl (nI 0))] [] N' ∧ fS Sdm N N' ∧ (∀ y, y < 64 → N' 26 0 y = 0) ∧ ∀ a b s, a ≠ 26 → N' a b s = (am_up N 25 0 0 n) a b s := by
    intro j
    induction j with
    | zero =>
      intro i P hi hf h ho
      have h8 : ¬ nI i < 64 := nI_nlt (b := 64) (by omega) (by omega)
      exact ⟨P, by rw [eq_Mo_begins_7, if_neg h8]; rfl, hf, fun y hy => h y (by omega), ho⟩
    | succ j ih =>
      intro i P hi hf h ho
      have h8 : nI i < 64 := nI_lt (b := 64) (by omega) (by omega)
      rw [eq_Mo_begins_7, if_pos h8, z_in (by omega) (by omega), z_if, z_ix (by omega), nI_1]
      refine ih (i + 1) _ (by omega) (fS_up hf rfl) (fun y hy => ?_) (fun a b s hab => ?_)
      · by_cases e : y = i
        · rw [e]; exact am_up_self P 26 0 i 0
        · exact (am_up_ne (M := P) (a := 26) (b := 0) (c := i) (x := 0) (Or.inr (Or.inr e))).trans (h y (by omega))
      · rw [am_up_ne (Or.inl hab)]
        exact ho a b s hab
  obtain ⟨P0, k1, k2, k3, k4⟩ := rooms 64 0 (am_up N 25 0 0 n) rfl (fS_up fS_rfl rfl) (fun y hy => absurd hy (by omega)) (fun _ _ _ _ => rfl)
  -- the net that P0 tells
  have hr0 : ∃ A1 : am_M, A1 1 0 0 = n ∧ (∀ x, x < 64 → A1 2 0 x = 0) ∧ rm A1 P0 := by
    refine ⟨fun a b c => match a with
      | 1 => n
      | 2 => 0
      | _ => A a b c, rfl, fun _ _ => rfl, (k4 25 0 0 (by decide)), k3, fun k hk => ?_⟩
    obtain ⟨⟨b0, b1, b2, b3⟩, b4⟩ := hr.2.2 k hk
    exact ⟨⟨(k4 27 0 k (by decide)).trans b0, (k4 28 0 k (by decide)).trans b1, (k4 29 0 k (by decide)).trans b2, (k4 30 0 k (by decide)).trans b3⟩, fun u hu => ⟨(k4 31 0 _ (by decide)).trans (b4 u hu).1, (k4 32 0 _ (by decide)).trans (b4 u hu).2⟩⟩
  obtain ⟨A1, a1, a2, a3⟩ := hr0
  obtain ⟨P1, l1, l2, l3⟩ := m_flows (E := E) (k := 0) (x1 := 0) (x2 := 1) (x3 := 1) (by omega) a3
  obtain ⟨P2, l4, l5, l6⟩ := m_flows (E := E) (k := 1) (x1 := 0) (x2 := 1) (x3 := 1) (by omega) l3
  obtain ⟨P3, l7, l8, l9⟩ := m_flows (E := E) (k := 2) (x1 := 0) (x2 := 1) (x3 := 1) (by omega) l6
  have st : ∀ i P P', i < 3 → am_run (am_I2 E) mI_Mo_flows [.inr (.inl (some (25, 0))), .inl (nI i), .inl 0, .inl 1, .inl 1] P = some (none, P') → am_ex (am_I2 E) mI_Mo_begins 28 [some (.inr (.inl (some (25, 0)))), some (.inl n), some (.inl (nI i))] [] P = am_ex (am_I2 E) mI_Mo_begins 28 [some (.inr (.inl (some (25, 0)))), some (.inl n), some (.inl (nI (i + 1)))] [] P' := by
    intro i P P' hi h
    have h3 : nI i < 3 := nI_lt (b := 3) (by omega) (by omega)
    rw [eq_Mo_begins_28, if_pos h3, h, z_bV, nI_1]
  refine ⟨P3, ?_, fS_tr (fS_tr (fS_tr k2 l2) l5) l8, rm_cong (three a1 a2) l9⟩
  rw [rq_Mo_begins]
  refine Eq.trans k1 ((st 0 P0 P1 (by omega) l1).trans ((st 1 P1 P2 (by omega) l4).trans ((st 2 P2 P3 (by omega) l7).trans ?_)))
  rw [eq_Mo_begins_28, if_neg (by decide)]
end
