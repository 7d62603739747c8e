/-! tokens -/
def kd (b : Nat) : Nat := if 97 ≤ b ∧ b ≤ 122 then 0 else if 48 ≤ b ∧ b ≤ 57 then 1 else 2
theorem kd_lt (b : Nat) : kd b < 3 := by
  unfold kd
  split
  · omega
  · split <;> omega
theorem kd_0 {b : Nat} : kd b = 0 ↔ 97 ≤ b ∧ b ≤ 122 := by
  unfold kd
  split
  · rename_i h; exact ⟨fun _ => h, fun _ => rfl⟩
  · rename_i h
    split
    · exact ⟨fun w => (by cases w), fun w => absurd w h⟩
    · exact ⟨fun w => (by cases w), fun w => absurd w h⟩
theorem kd_1 {b : Nat} : kd b = 1 ↔ 48 ≤ b ∧ b ≤ 57 := by
  unfold kd
  split
  · rename_i h
    exact ⟨fun w => (by cases w), fun w => by omega⟩
  · split
    · rename_i h; exact ⟨fun _ => h, fun _ => rfl⟩
    · rename_i h; exact ⟨fun w => (by cases w), fun w => absurd w h⟩
/-- spaces are passed over -/
def spN (X : Nat → Nat) (l : Nat) : Nat → Nat → Nat
  | 0, p => p
  | j + 1, p => if p < l then (if X p = 32 then spN X l j (p + 1) else p) else p
/-- letters of one kind -/
def rnN (X : Nat → Nat) (l k : Nat) : Nat → Nat → Nat
  | 0, p => p
  | j + 1, p => if p < l then (if kd (X p) = k then rnN X l k j (p + 1) else p) else p
theorem spN_e {X : Nat → Nat} {l j p : Nat} (h : ¬ p < l) : spN X l j p = p := by
  cases j with
  | zero => rfl
  | succ j => exact if_neg h
theorem rnN_e {X : Nat → Nat} {l k j p : Nat} (h : ¬ p < l) : rnN X l k j p = p := by
  cases j with
  | zero => rfl
  | succ j => exact if_neg h
theorem spN_le {X : Nat → Nat} {l : Nat} : ∀ {j p : Nat}, p ≤ l → p ≤ spN X l j p ∧ spN X l j p ≤ l := by
  intro j
  induction j with
  | zero => intro p hp; exact ⟨Nat.le_refl p, hp⟩
  | succ j ih =>
    intro p hp
    show p ≤ (if p < l then (if X p = 32 then spN X l j (p + 1) else p) else p) ∧ (if p < l then (if X p = 32 then spN X l j (p + 1) else p) else p) ≤ l
    by_cases h : p < l
    · rw [if_pos h]
      by_cases h2 : X p = 32
      · rw [if_pos h2]
        have := ih (p := p + 1) (by omega)
        omega
      · rw [if_neg h2]; omega
    · rw [if_neg h]; omega
theorem rnN_le {X : Nat → Nat} {l k : Nat} : ∀ {j p : Nat}, p ≤ l → p ≤ rnN X l k j p ∧ rnN X l k j p ≤ l := by
  intro j
  induction j with
  | zero => intro p hp; exact ⟨Nat.le_refl p, hp⟩
  | succ j ih =>
    intro p hp
    show p ≤ (if p < l then (if kd (X p) = k then rnN X l k j (p + 1) else p) else p) ∧ (if p < l then (if kd (X p) = k then rnN X l k j (p + 1) else p) else p) ≤ l
    by_cases h : p < l
    · rw [if_pos h]
      by_cases h2 : kd (X p) = k
      · rw [if_pos h2]
        have := ih (p := p + 1) (by omega)
        omega
      · rw [if_neg h2]; omega
    · rw [if_neg h]; omega
/-- a token behind a place: where it begins, of what kind it is, where it ends -/
def tS (X : Nat → Nat) (l p : Nat) : Nat := spN X l l p
def eK (X : Nat → Nat) (l s : Nat) : Nat := if s < l then kd (X s) else 3
def eE (X : Nat → Nat) (l s : Nat) : Nat := if s < l then (if kd (X s) = 2 then s + 1 else rnN X l (kd (X s)) l (s + 1)) else s
def tK (X : Nat → Nat) (l p : Nat) : Nat := eK X l (tS X l p)
def tE (X : Nat → Nat) (l p : Nat) : Nat := eE X l (tS X l p)
theorem tS_le {X : Nat → Nat} {l p : Nat} (hp : p ≤ l) : tS X l p ≤ l := (spN_le hp).2
theorem tE_le {X : Nat → Nat} {l p : Nat} (hp : p ≤ l) : tS X l p ≤ tE X l p ∧ tE X l p ≤ l ∧ (tS X l p < l → tS X l p < tE X l p) := by
  have h := tS_le (X := X) hp
  unfold tE eE
  by_cases hs : tS X l p < l
  · rw [if_pos hs]
    by_cases h2 : kd (X (tS X l p)) = 2
    · rw [if_pos h2]; omega
    · rw [if_neg h2]
      have := rnN_le (X := X) (l := l) (k := kd (X (tS X l p))) (j := l) (p := tS X l p + 1) (by omega)
      omega
  · rw [if_neg hs]; omega
theorem tK_3 {X : Nat → Nat} {l p : Nat} (hp : p ≤ l) : tK X l p = 3 ↔ tS X l p = l := by
  have h := tS_le (X := X) hp
  unfold tK eK
  by_cases hs : tS X l p < l
  · rw [if_pos hs]
    have := kd_lt (X (tS X l p))
    constructor
    · intro w; omega
    · intro w; omega
  · rw [if_neg hs]
    exact ⟨fun _ => by omega, fun _ => rfl⟩
/-- the text in the class, in the reference -/
def tx (X : Nat → Nat) (l : Nat) (M : am_M) : Prop := M 20 0 2 = nI l ∧ ∀ x, x < 200 → M 21 0 x = nI (X x)
def rx (X : Nat → Nat) (l : Nat) (M : am_M) : Prop := M 25 0 22 = nI l ∧ ∀ x, x < 200 → M 39 0 x = nI (X x)
def S20 (a s : Nat) : Bool := match a with
  | 20 => match s with
    | 3 => true
    | 4 => true
    | 5 => true
    | _ => false
  | _ => false
def S23 (a s : Nat) : Bool := match a with
  | 25 => match s with
    | 23 => true
    | 24 => true
    | _ => false
  | _ => false
section
variable {E : am_E} {M N : am_M} {X : Nat → Nat} {l : Nat}
theorem tx_S {N : am_M} (h : fS S20 M N) (ht : tx X l M) : tx X l N := ⟨(h 20 0 2 rfl).trans ht.1, fun x hx => (h 21 0 x rfl).trans (ht.2 x hx)⟩
theorem rx_S {N : am_M} (h : fS S23 M N) (ht : rx X l M) : rx X l N := ⟨(h 25 0 22 rfl).trans ht.1, fun x hx => (h 39 0 x rfl).trans (ht.2 x hx)⟩
theorem c_let_s {p : Nat} (hl : l ≤ 200) (ht : tx X l M) (hp : p < l) : am_run (am_I2 E) mI_Re_letterAt [.inr (.inl (some (20, 0))), .inl (nI p)] M = some (some (.inl (nI (X p))), M) := by
  rw [rq_Re_letterAt, ht.1, if_pos (nI_lt hp (by omega)), c_isPlace_s (y := 200) (n := 200) rfl (by omega) (by decide), z_bI, if_neg z_ne10, z_in (by omega) (by omega), z_if, z_ix (by omega), ht.2 p (by omega)]
theorem c_let_n {p : Nat} (hl : l ≤ 200) (ht : tx X l M) (hp : l ≤ p) (hp2 : p < 1000) : am_run (am_I2 E) mI_Re_letterAt [.inr (.inl (some (20, 0))), .inl (nI p)] M = some (some (.inl (-1)), M) := by
  rw [rq_Re_letterAt, ht.1, if_neg (nI_nlt hp (by omega))]
theorem c_kindOf {b : Nat} (hb : b < 256) : am_run (am_I2 E) mI_Re_kindOf [.inl (nI b)] M = some (some (.inl (nI (kd b))), M) := by
  rw [rq_Re_kindOf, if_neg (nI_m1 (by omega))]
  by_cases h1 : b < 97
  · have e1 : nI b < 97 := nI_lt (b := 97) h1 (by omega)
    rw [if_pos e1]
    by_cases h2 : b < 48
    · have e2 : nI b < 48 := nI_lt (b := 48) h2 (by omega)
      have hk : kd b = 2 := by unfold kd; rw [if_neg (by omega), if_neg (by omega)]
      rw [if_pos e2, hk]; rfl
    · have e2 : ¬ nI b < 48 := nI_nlt (b := 48) (by omega) (by omega)
      rw [if_neg e2]
      by_cases h3 : b ≤ 57
      · have e3 : nI b ≤ 57 := nI_le (b := 57) h3 (by omega)
        have hk : kd b = 1 := kd_1.mpr ⟨by omega, h3⟩
        rw [if_pos e3, hk]; rfl
      · have e3 : ¬ nI b ≤ 57 := nI_ge (b := b) (a := 57) (by omega) (by omega)
        have hk : kd b = 2 := by unfold kd; rw [if_neg (by omega), if_neg (by omega)]
        rw [if_neg e3, hk]; rfl
  · have e1 : ¬ nI b < 97 := nI_nlt (b := 97) (by omega) (by omega)
    rw [if_neg e1]
    by_cases h4 : b ≤ 122
    · have e4 : nI b ≤ 122 := nI_le (b := 122) h4 (by omega)
      have hk : kd b = 0 := kd_0.mpr ⟨by omega, h4⟩
      rw [if_pos e4, hk]; rfl
    · have e4 : ¬ nI b ≤ 122 := nI_ge (b := b) (a := 122) (by omega) (by omega)
      have e2 : ¬ nI b < 48 := nI_nlt (b := 48) (by omega) (by omega)
      have e3 : ¬ nI b ≤ 57 := nI_ge (b := b) (a := 57) (by omega) (by omega)
      have hk : kd b = 2 := by unfold kd; rw [if_neg (by omega), if_neg (by omega)]
      rw [if_neg e4, if_neg e2, if_neg e3, hk]; rfl
theorem c_kindOf_e : am_run (am_I2 E) mI_Re_kindOf [.inl (-1)] M = some (some (.inl 3), M) := by
  rw [rq_Re_kindOf, if_pos rfl]
theorem c_run {k : Nat} (hl : l ≤ 200) (hX : ∀ x, x < 200 → X x < 256) (hk : k < 3) (hk2 : k ≠ 2) : ∀ j e N, l ≤ e + j → e ≤ l → tx X l N → N 20 0 3 = nI k → N 20 0 5 = nI e → ∃ N', am_ex (am_I2 E) mI_Re_nextToken 87 [some (.inr (.inl (some (20, 0))))] [] N = some (none, N') ∧ (∀ a w s, (a ≠ 20 ∨ s ≠ 5) → N' a w s = N a w s) ∧ N' 20 0 5 = nI (rnN X l k j e) := by
  intro j
  have hne : ¬ nI k = 2 := fun w => hk2 ((nI_eq (b := 2) (by omega) (by omega)).mp w)
  induction j with
  | zero =>
    intro e N he he2 ht h3 h5
    have : e = l := by omega
    subst this
    refine ⟨N, ?_, fun _ _ _ _ => rfl, h5⟩
    rw [eq_Re_nextToken_87, h3, if_neg hne, h5, ht.1, if_neg (nI_nlt (by omega) (by omega))]
  | succ j ih =>
    intro e N he he2 ht h3 h5
    by_cases hel : e < l
    · rw [eq_Re_nextToken_87, h3, if_neg hne, h5, ht.1, if_pos (nI_lt hel (by omega)), c_let_s hl ht hel, z_bI, c_kindOf (hX e (by omega)), z_bI, h3]
      have hr : rnN X l k (j + 1) e = if kd (X e) = k then rnN X l k j (e + 1) else e := if_pos hel
      rw [hr]
      have hkl := kd_lt (X e)
      by_cases hke : kd (X e) = k
      · rw [if_pos (by rw [hke]), if_pos hke, h5, nI_1]
        obtain ⟨N', k1, k2, k3⟩ := ih (e + 1) (am_up N 20 0 5 (nI (e + 1))) (by omega) (by omega) ht h3 rfl
        refine ⟨N', k1, fun a w s h => ?_, k3⟩
        rw [k2 a w s h]
        exact am_up_ne (by rcases h with h | h; exact Or.inl h; exact Or.inr (Or.inr h))
      · rw [if_neg (fun w => hke ((nI_eq (by omega) (by omega)).mp w)), if_neg hke]
        exact ⟨N, rfl, fun _ _ _ _ => rfl, h5⟩
    · rw [rnN_e hel]
      refine ⟨N, ?_, fun _ _ _ _ => rfl, h5⟩
      rw [eq_Re_nextToken_87, h3, if_neg hne, h5, ht.1, if_neg (nI_nlt (by omega) (by omega))]
theorem c_nextToken {q : Nat} (hl : l ≤ 200) (hX : ∀ x, x < 200 → X x < 256) (ht : tx X l M) (hq : q ≤ l) (h5 : M 20 0 5 = nI q) : ∃ N, am_run (am_I2 E) mI_Re_nextToken [.inr (.inl (some (20, 0)))] M = some (none, N) ∧ fS S20 M N ∧ N 20 0 3 = nI (tK X l q) ∧ N 20 0 4 = nI (tS X l q) ∧ N 20 0 5 = nI (tE X l q) := by
  have loop : ∀ j p N, l ≤ p + j → p ≤ l → fS S20 M N → N 20 0 4 = nI p → ∃ N', am_ex (am_I2 E) mI_Re_nextToken 8 [some (.inr (.inl (some (20, 0))))] [] N = some (none, N') ∧ fS S20 M N' ∧ N' 20 0 3 = nI (eK X l (spN X l j p)) ∧ N' 20 0 4 = nI (spN X l j p) ∧ N' 20 0 5 = nI (eE X l (spN X l j p)) := by
    intro j
    have fin : ∀ p N, p = l → fS S20 M N → N 20 0 4 = nI p → ∃ N', am_ex (am_I2 E) mI_Re_nextToken 8 [some (.inr (.inl (some (20, 0))))] [] N = some (none, N') ∧ fS S20 M N' ∧ N' 20 0 3 = nI (eK X l p) ∧ N' 20 0 4 = nI p ∧ N' 20 0 5 = nI (eE X l p) := by
      intro p N hp hf h4
      subst hp
      have htN := tx_S hf ht
      have hk : eK X p p = 3 := if_neg (by omega)
      have he : eE X p p = p := if_neg (by omega)
      rw [eq_Re_nextToken_8, h4, htN.1, if_neg (nI_nlt (by omega) (by omega)), c_let_n hl htN (Nat.le_refl p) (by omega), z_bI, c_kindOf_e, z_bI, if_pos rfl, hk, he]
      exact ⟨_, rfl, fS_up (fS_up hf rfl) rfl, rfl, h4, h4⟩
    induction j with
    | zero =>
      intro p N hp hp2 hf h4
      exact fin p N (by omega) hf h4
    | succ j ih =>
      intro p N hp hp2 hf h4
      have htN := tx_S hf ht
      by_cases hpl : p < l
      · have hs : spN X l (j + 1) p = if X p = 32 then spN X l j (p + 1) else p := if_pos hpl
        have hXp := hX p (by omega)
        rw [eq_Re_nextToken_8, h4, htN.1, if_pos (nI_lt hpl (by omega)), c_let_s hl htN hpl, z_bI, hs]
        by_cases h32 : X p = 32
        · rw [if_pos (by rw [h32]; rfl), if_pos h32, h4, nI_1]
          exact ih (p + 1) _ (by omega) (by omega) (fS_up hf rfl) rfl
        · have h32' : ¬ nI (X p) = 32 := fun w => h32 ((nI_eq (b := 32) (by omega) (by omega)).mp w)
          have hkl := kd_lt (X p)
          have h3' : ¬ nI (kd (X p)) = 3 := fun w => by have := (nI_eq (b := 3) (by omega) (by omega)).mp w; omega
          have hk : eK X l p = kd (X p) := if_pos hpl
          have he : eE X l p = if kd (X p) = 2 then p + 1 else rnN X l (kd (X p)) l (p + 1) := if_pos hpl
          rw [if_neg h32', if_neg h32, h4, c_let_s hl htN hpl, z_bI, c_kindOf hXp, z_bI, if_neg h3', h4, nI_1, hk, he]
          have hfu : fS S20 M (am_up (am_up (am_up N 20 0 3 (nI (kd (X p)))) 20 0 5 (nI p)) 20 0 5 (nI (p + 1))) := fS_up (fS_up (fS_up hf rfl) rfl) rfl
          by_cases hk2 : kd (X p) = 2
          · rw [eq_Re_nextToken_87, if_pos (show (am_up (am_up (am_up N 20 0 3 (nI (kd (X p)))) 20 0 5 (nI p)) 20 0 5 (nI (p + 1))) 20 0 3 = 2 by show nI (kd (X p)) = 2; rw [hk2]; rfl), if_pos hk2]
            exact ⟨_, rfl, hfu, rfl, h4, rfl⟩
          · rw [if_neg hk2]
            obtain ⟨N', k1, k2, k3⟩ := c_run (E := E) (X := X) (l := l) (k := kd (X p)) hl hX hkl hk2 l (p + 1) _ (by omega) (by omega) (tx_S hfu ht) (show (am_up (am_up (am_up N 20 0 3 (nI (kd (X p)))) 20 0 5 (nI p)) 20 0 5 (nI (p + 1))) 20 0 3 = nI (kd (X p)) from rfl) rfl
            refine ⟨N', k1, fun a w s e => ?_, (k2 20 0 3 (Or.inr (by decide))).trans rfl, (k2 20 0 4 (Or.inr (by decide))).trans h4, k3⟩
            rw [k2 a w s (by
              by_cases ea : a = 20
              · subst ea
                exact Or.inr (fun es => by subst es; cases e)
              · exact Or.inl ea)]
            exact hfu a w s e
      · rw [spN_e hpl]
        exact fin p N (by omega) hf h4
  obtain ⟨N, k1, k2, k3, k4, k5⟩ := loop l q (am_up M 20 0 4 (nI q)) (by omega) hq (fS_up fS_rfl rfl) rfl
  refine ⟨N, ?_, k2, k3, k4, k5⟩
  rw [rq_Re_nextToken, h5]
  exact k1
theorem m_isSmall {b : Nat} (hb : b < 256) : am_run (am_I2 E) mI_Mo_isSmall [.inl (nI b)] M = some (some (.inl (aI (decide (kd b = 0)))), M) := by
  rw [rq_Mo_isSmall]
  by_cases h : kd b = 0
  · have h2 := kd_0.mp h
    have e1 : ¬ nI b < 97 := nI_nlt (b := 97) (by omega) (by omega)
    have e2 : nI b ≤ 122 := nI_le (b := 122) h2.2 (by omega)
    rw [m_in_s (a := 97) (b := 122) (A := 97) (B := 122) rfl rfl e1 e2, z_bI, z_z1, z_if, decide_eq_true h]
    rfl
  · have h2 : nI b < 97 ∨ 122 < nI b := by
      have h3 : ¬ (97 ≤ b ∧ b ≤ 122) := fun w => h (kd_0.mpr w)
      by_cases h4 : b < 97
      · exact Or.inl (nI_lt (b := 97) h4 (by omega))
      · exact Or.inr (nI_lt (a := 122) (by omega) (by omega))
    rw [m_in_n (a := 97) (b := 122) (A := 97) (B := 122) rfl rfl h2, z_bI, z_z0, z_if, decide_eq_false h]
    rfl
theorem m_isDigit {b : Nat} (hb : b < 256) : am_run (am_I2 E) mI_Mo_isDigit [.inl (nI b)] M = some (some (.inl (aI (decide (kd b = 1)))), M) := by
  rw [rq_Mo_isDigit]
  by_cases h : kd b = 1
  · have h2 := kd_1.mp h
    have e1 : ¬ nI b < 48 := nI_nlt (b := 48) (by omega) (by omega)
    have e2 : nI b ≤ 57 := nI_le (b := 57) h2.2 (by omega)
    rw [m_in_s (a := 48) (b := 57) (A := 48) (B := 57) rfl rfl e1 e2, z_bI, z_z1, z_if, decide_eq_true h]
    rfl
  · have h2 : nI b < 48 ∨ 57 < nI b := by
      have h3 : ¬ (48 ≤ b ∧ b ≤ 57) := fun w => h (kd_1.mpr w)
      by_cases h4 : b < 48
      · exact Or.inl (nI_lt (b := 48) h4 (by omega))
      · exact Or.inr (nI_lt (a := 57) (by omega) (by omega))
    rw [m_in_n (a := 48) (b := 57) (A := 48) (B := 57) rfl rfl h2, z_bI, z_z0, z_if, decide_eq_false h]
    rfl
theorem m_run0 (hl : l ≤ 200) (hX : ∀ x, x < 200 → X x < 256) : ∀ j e N, l ≤ e + j → e ≤ l → rx X l N → N 25 0 24 = nI e → ∃ N', am_ex (am_I2 E) mI_Mo_nextToken 100 [some (.inr (.inl (some (25, 0))))] [] N = some (none, N') ∧ (∀ a w s, (a ≠ 25 ∨ s ≠ 24) → N' a w s = N a w s) ∧ N' 25 0 24 = nI (rnN X l 0 j e) := by
  intro j
  induction j with
  | zero =>
    intro e N he he2 ht h5
    have : e = l := by omega
    subst this
    refine ⟨N, ?_, fun _ _ _ _ => rfl, h5⟩
    rw [eq_Mo_nextToken_100, h5, ht.1, if_neg (nI_nlt (by omega) (by omega))]
  | succ j ih =>
    intro e N he he2 ht h5
    by_cases hel : e < l
    · have hr : rnN X l 0 (j + 1) e = if kd (X e) = 0 then rnN X l 0 j (e + 1) else e := if_pos hel
      rw [eq_Mo_nextToken_100, h5, ht.1, if_pos (nI_lt hel (by omega)), z_in (by omega) (by omega), z_if, z_ix (by omega), ht.2 e (by omega), m_isSmall (hX e (by omega)), z_bI, hr]
      by_cases hke : kd (X e) = 0
      · rw [decide_eq_true hke, aI_t, if_neg z_ne10, if_pos hke, h5, nI_1]
        obtain ⟨N', k1, k2, k3⟩ := ih (e + 1) (am_up N 25 0 24 (nI (e + 1))) (by omega) (by omega) ht rfl
        refine ⟨N', k1, fun a w s h => ?_, k3⟩
        rw [k2 a w s h]
        exact am_up_ne (by rcases h with h | h; exact Or.inl h; exact Or.inr (Or.inr h))
      · rw [decide_eq_false hke, aI_f, if_pos rfl, if_neg hke]
        exact ⟨N, rfl, fun _ _ _ _ => rfl, h5⟩
    · rw [rnN_e hel]
      refine ⟨N, ?_, fun _ _ _ _ => rfl, h5⟩
      rw [eq_Mo_nextToken_100, h5, ht.1, if_neg (nI_nlt (by omega) (by omega))]
theorem m_run1 (hl : l ≤ 200) (hX : ∀ x, x < 200 → X x < 256) : ∀ j e N, l ≤ e + j → e ≤ l → rx X l N → N 25 0 24 = nI e → ∃ N', am_ex (am_I2 E) mI_Mo_nextToken 165 [some (.inr (.inl (some (25, 0))))] [] N = some (none, N') ∧ (∀ a w s, (a ≠ 25 ∨ s ≠ 24) → N' a w s = N a w s) ∧ N' 25 0 24 = nI (rnN X l 1 j e) := by
  intro j
  induction j with
  | zero =>
    intro e N he he2 ht h5
    have : e = l := by omega
    subst this
    refine ⟨N, ?_, fun _ _ _ _ => rfl, h5⟩
    rw [eq_Mo_nextToken_165, h5, ht.1, if_neg (nI_nlt (by omega) (by omega))]
  | succ j ih =>
    intro e N he he2 ht h5
    by_cases hel : e < l
    · have hr : rnN X l 1 (j + 1) e = if kd (X e) = 1 then rnN X l 1 j (e + 1) else e := if_pos hel
      rw [eq_Mo_nextToken_165, h5, ht.1, if_pos (nI_lt hel (by omega)), z_in (by omega) (by omega), z_if, z_ix (by omega), ht.2 e (by omega), m_isDigit (hX e (by omega)), z_bI, hr]
      by_cases hke : kd (X e) = 1
      · rw [decide_eq_true hke, aI_t, if_neg z_ne10, if_pos hke, h5, nI_1]
        obtain ⟨N', k1, k2, k3⟩ := ih (e + 1) (am_up N 25 0 24 (nI (e + 1))) (by omega) (by omega) ht rfl
        refine ⟨N', k1, fun a w s h => ?_, k3⟩
        rw [k2 a w s h]
        exact am_up_ne (by rcases h with h | h; exact Or.inl h; exact Or.inr (Or.inr h))
      · rw [decide_eq_false hke, aI_f, if_pos rfl, if_neg hke]
        exact ⟨N, rfl, fun _ _ _ _ => rfl, h5⟩
    · rw [rnN_e hel]
      refine ⟨N, ?_, fun _ _ _ _ => rfl, h5⟩
      rw [eq_Mo_nextToken_165, h5, ht.1, if_neg (nI_nlt (by omega) (by omega))]
theorem m_nextToken {q : Nat} (hl : l ≤ 200) (hX : ∀ x, x < 200 → X x < 256) (ht : rx X l M) (hq : q ≤ l) (h5 : M 25 0 24 = nI q) : ∃ N, am_run (am_I2 E) mI_Mo_nextToken [.inr (.inl (some (25, 0)))] M = some (none, N) ∧ fS S23 M N ∧ N 25 0 23 = nI (tS X l q) ∧ N 25 0 24 = nI (tE X l q) := by
  have loop : ∀ j p N, l ≤ p + j → p ≤ l → fS S23 M N → N 25 0 23 = nI p → ∃ N', am_ex (am_I2 E) mI_Mo_nextToken 8 [some (.inr (.inl (some (25, 0))))] [] N = some (none, N') ∧ fS S23 M N' ∧ N' 25 0 23 = nI (spN X l j p) ∧ N' 25 0 24 = nI (eE X l (spN X l j p)) := by
    intro j
    have fin : ∀ p N, p = l → fS S23 M N → N 25 0 23 = nI p → ∃ N', am_ex (am_I2 E) mI_Mo_nextToken 8 [some (.inr (.inl (some (25, 0))))] [] N = some (none, N') ∧ fS S23 M N' ∧ N' 25 0 23 = nI p ∧ N' 25 0 24 = nI (eE X l p) := by
      intro p N hp hf h4
      subst hp
      have htN := rx_S hf ht
      have he : eE X p p = p := if_neg (by omega)
      have hnl : ¬ nI p < nI p := nI_nlt (by omega) (by omega)
      rw [eq_Mo_nextToken_8, h4, htN.1, if_neg hnl, if_neg hnl, if_neg hnl, if_neg hnl, he]
      exact ⟨_, rfl, fS_up hf rfl, h4, rfl⟩
    induction j with
    | zero =>
      intro p N hp hp2 hf h4
      exact fin p N (by omega) hf h4
    | succ j ih =>
      intro p N hp hp2 hf h4
      have htN := rx_S hf ht
      by_cases hpl : p < l
      · have hs : spN X l (j + 1) p = if X p = 32 then spN X l j (p + 1) else p := if_pos hpl
        have hXp := hX p (by omega)
        have hlt : nI p < nI l := nI_lt hpl (by omega)
        rw [eq_Mo_nextToken_8, h4, htN.1, if_pos hlt, z_in (by omega) (by omega), z_if, z_ix (by omega), htN.2 p (by omega), hs]
        by_cases h32 : X p = 32
        · rw [if_pos (by rw [h32]; rfl), if_pos h32, nI_1]
          exact ih (p + 1) _ (by omega) (by omega) (fS_up hf rfl) rfl
        · have h32' : ¬ nI (X p) = 32 := fun w => h32 ((nI_eq (b := 32) (by omega) (by omega)).mp w)
          have hkl := kd_lt (X p)
          have he : eE X l p = if kd (X p) = 2 then p + 1 else rnN X l (kd (X p)) l (p + 1) := if_pos hpl
          have hfu : fS S23 M (am_up N 25 0 24 (nI (p + 1))) := fS_up hf rfl
          have htu := rx_S hfu ht
          have hfin : ∀ N', (∀ a w s, (a ≠ 25 ∨ s ≠ 24) → N' a w s = (am_up N 25 0 24 (nI (p + 1))) a w s) → fS S23 M N' := fun N' h a w s e => by
            rw [h a w s (by
              by_cases ea : a = 25
              · subst ea
                exact Or.inr (fun es => by subst es; cases e)
              · exact Or.inl ea)]
            exact hfu a w s e
          have h4u : (am_up N 25 0 24 (nI (p + 1))) 25 0 23 = nI p := h4
          rw [if_neg h32', if_neg h32, if_pos hlt, if_pos hlt, z_if, nI_1, m_isSmall hXp, z_bI, h4u, htu.1, if_pos hlt, z_in (by omega) (by omega), z_if, z_ix (by omega), htu.2 p (by omega), m_isDigit hXp, z_bI, he]
          by_cases hk0 : kd (X p) = 0
          · rw [decide_eq_true hk0, aI_t, if_neg z_ne10, if_neg (by omega), hk0]
            obtain ⟨N', k1, k2, k3⟩ := m_run0 (E := E) (X := X) (l := l) hl hX l (p + 1) _ (by omega) (by omega) htu rfl
            exact ⟨N', k1, hfin N' k2, (k2 25 0 23 (Or.inr (by decide))).trans h4, k3⟩
          · rw [decide_eq_false hk0, aI_f, if_pos rfl]
            by_cases hk1 : kd (X p) = 1
            · rw [decide_eq_true hk1, aI_t, if_neg z_ne10, if_neg (by omega), hk1]
              obtain ⟨N', k1, k2, k3⟩ := m_run1 (E := E) (X := X) (l := l) hl hX l (p + 1) _ (by omega) (by omega) htu rfl
              exact ⟨N', k1, hfin N' k2, (k2 25 0 23 (Or.inr (by decide))).trans h4, k3⟩
            · rw [decide_eq_false hk1, aI_f, if_pos rfl, if_pos (by omega)]
              exact ⟨_, rfl, hfu, h4, rfl⟩
      · rw [spN_e hpl]
        exact fin p N (by omega) hf h4
  obtain ⟨N, k1, k2, k3, k4⟩ := loop l q (am_up M 25 0 23 (nI q)) (by omega) hq (fS_up fS_rfl rfl) rfl
  refine ⟨N, ?_, k2, k3, k4⟩
  rw [rq_Mo_nextToken, h5]
  exact k1
end
