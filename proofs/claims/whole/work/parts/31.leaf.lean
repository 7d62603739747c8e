/-! small methods of class and reference, over the memory -/
theorem z_in {u n : Nat} (h : u < n) (hn : n < 2 ^ 31) : am_in (nI u) n = true := by
  unfold am_in
  have h1 : ¬ nI u < 0 := nI_pos (by omega)
  rw [nI_clamp (by omega)]
  simp [h1, h]
theorem z_ix {u : Nat} (h : u < 2 ^ 31) : am_ix (nI u) = u := nI_clamp h
theorem z_if {α : Type} (x : Option α) : am_if true x = x := rfl
theorem z_bI {α β : Type} (v : Int32) (h : α) (k : Int32 → α → Option β) : am_bI (some (some (.inl v), h)) k = k v h := rfl
theorem z_bV {α β : Type} (h : α) (k : α → Option β) : am_bV (some (none, h)) k = k h := rfl
theorem z_bR {α β : Type} (v : Option (Nat × Nat)) (h : α) (k : Option (Nat × Nat) → α → Option β) : am_bR (some (some (.inr (.inl v)), h)) k = k v h := rfl
theorem z_ne10 : ¬ (1 : Int32) = 0 := by decide
theorem z_z0 : am_z 0 = true := by decide
theorem z_z1 : am_z 1 = true := by decide
theorem z_out {x : Int32} {n : Nat} (h : x < 0 ∨ nI n ≤ x) (hn : n < 2 ^ 31) : ¬ (¬ x < 0 ∧ x < nI n) := by
  rintro ⟨h1, h2⟩
  rcases h with h | h
  · exact h1 h
  · exact absurd h2 (Int32.not_lt.mpr h)
/-- out of bounds, as a test of the class sees it -/
def ob (x : Int32) (n : Nat) : Prop := x < 0 ∨ nI n ≤ x
theorem ob_or (x : Int32) {n : Nat} (hn : n < 2 ^ 31) : ob x n ∨ ∃ j, j < n ∧ x = nI j := by
  rcases pk_ix x hn with h | h | h
  · exact Or.inl (Or.inl h)
  · exact Or.inl (Or.inr h)
  · exact Or.inr h
theorem ob_m1 (n : Nat) : ob (-1) n := Or.inl (by decide)
theorem i64_lt (x y : Int32) : x.toInt64 < y.toInt64 ↔ x < y := by
  rw [Int64.lt_iff_toInt_lt, Int32.lt_iff_toInt_lt, Int32.toInt_toInt64, Int32.toInt_toInt64]
section
variable {E : am_E} {M : am_M}
theorem m_in (v a b : Int64) : am_run (am_I2 E) mI_Mo_in [.inr (.inr v), .inr (.inr a), .inr (.inr b)] M = some (some (.inl (if v < a then 0 else if b < v then 0 else 1)), M) := rfl
theorem c_isPlace_n {x y : Int32} {n : Nat} (hy : y = nI n) (h : ob x n) : am_run (am_I2 E) mI_Mx_isPlace [.inl x, .inl y] M = some (some (.inl 0), M) := by
  subst hy
  rw [rq_Mx_isPlace]
  by_cases h0 : x < 0
  · rw [if_pos h0]
  · rw [if_neg h0, if_neg]
    rcases h with h | h
    · exact absurd h h0
    · exact Int32.not_lt.mpr h
theorem c_isPlace_s {y : Int32} {n u : Nat} (hy : y = nI n) (hu : u < n) (hn : n < 2 ^ 31) : am_run (am_I2 E) mI_Mx_isPlace [.inl (nI u), .inl y] M = some (some (.inl 1), M) := by
  subst hy
  rw [rq_Mx_isPlace, if_neg (nI_pos (by omega)), if_pos (nI_lt hu hn)]
theorem c_flowAt_n {x : Int32} (h : ob x 3) : am_run (am_I2 E) mI_Ne_flowAt [.inr (.inl (some (1, 0))), .inl x] M = some (some (.inr (.inl none)), M) := by
  rw [rq_Ne_flowAt, c_isPlace_n (y := 3) (n := 3) rfl h, z_bI, if_pos rfl]
theorem c_flowAt_s {k : Nat} (h : k < 3) : am_run (am_I2 E) mI_Ne_flowAt [.inr (.inl (some (1, 0))), .inl (nI k)] M = some (some (.inr (.inl (some (4, k)))), M) := by
  rw [rq_Ne_flowAt, c_isPlace_s (y := 3) (n := 3) rfl h (by decide), z_bI, if_neg z_ne10, z_in h (by decide), z_if, z_ix (by omega)]
theorem c_isNode_n {x : Int32} {n : Nat} (hN : M 1 0 0 = nI n) (h : ob x n) : am_run (am_I2 E) mI_Ne_isNode [.inr (.inl (some (1, 0))), .inl x] M = some (some (.inl 0), M) := by
  rw [rq_Ne_isNode, hN]
  by_cases h0 : x < 0
  · rw [if_pos h0]
  · rw [if_neg h0, if_neg]
    rcases h with h | h
    · exact absurd h h0
    · exact Int32.not_lt.mpr h
theorem c_isNode_s {u n : Nat} (hN : M 1 0 0 = nI n) (hn : n ≤ 8) (h : u < n) : am_run (am_I2 E) mI_Ne_isNode [.inr (.inl (some (1, 0))), .inl (nI u)] M = some (some (.inl 1), M) := by
  have h8 : nI u < 8 := nI_lt (b := 8) (by omega) (by decide)
  rw [rq_Ne_isNode, hN, if_neg (nI_pos (by omega)), if_pos (nI_lt h (by omega)), if_pos h8]
theorem m_isNode_n {x : Int32} {n : Nat} (hN : M 25 0 0 = nI n) (hn : 2 ≤ n ∧ n ≤ 8) (h : ob x n) : am_run (am_I2 E) mI_Mo_isNode [.inr (.inl (some (25, 0))), .inl x] M = some (some (.inl 0), M) := by
  rw [rq_Mo_isNode, m_in, z_bI, hN]
  have e1 : (nI n - 1 : Int32) = nI (n - 1) := by
    have := nI_pred (n - 1)
    rw [show n - 1 + 1 = n by omega] at this
    exact this
  rw [e1]
  have hx : (if x.toInt64 < Int64.ofNat 0 then (0 : Int32) else if (nI (n - 1)).toInt64 < x.toInt64 then 0 else 1) = 0 := by
    rcases h with h | h
    · rw [if_pos]
      have := (i64_lt x 0).mpr h
      exact this
    · by_cases h0 : x.toInt64 < Int64.ofNat 0
      · rw [if_pos h0]
      · rw [if_neg h0, if_pos]
        rw [i64_lt]
        have : nI (n - 1) < nI n := nI_lt (by omega) (by omega)
        exact Int32.lt_of_lt_of_le this h
  rw [hx, z_z0, z_if]
theorem m_isNode_s {u n : Nat} (hN : M 25 0 0 = nI n) (hn : 2 ≤ n ∧ n ≤ 8) (h : u < n) : am_run (am_I2 E) mI_Mo_isNode [.inr (.inl (some (25, 0))), .inl (nI u)] M = some (some (.inl 1), M) := by
  rw [rq_Mo_isNode, m_in, z_bI, hN]
  have e1 : (nI n - 1 : Int32) = nI (n - 1) := by
    have := nI_pred (n - 1)
    rw [show n - 1 + 1 = n by omega] at this
    exact this
  have hx : (if (nI u).toInt64 < Int64.ofNat 0 then (0 : Int32) else if (nI n - 1).toInt64 < (nI u).toInt64 then 0 else 1) = 1 := by
    rw [if_neg, if_neg]
    · rw [i64_lt, e1]
      exact nI_nlt (by omega) (by omega)
    · intro w
      have := (i64_lt (nI u) 0).mp w
      exact nI_pos (by omega) this
  rw [hx, z_z1, z_if]
theorem m_isFlow_n {x : Int32} (h : ob x 3) : am_run (am_I2 E) mI_Mo_isFlow [.inl x] M = some (some (.inl 0), M) := by
  rw [rq_Mo_isFlow, m_in, z_bI]
  have hx : (if x.toInt64 < Int64.ofNat 0 then (0 : Int32) else if (2 : Int64) < x.toInt64 then 0 else 1) = 0 := by
    rcases h with h | h
    · rw [if_pos]
      have := (i64_lt x 0).mpr h
      exact this
    · by_cases h0 : x.toInt64 < Int64.ofNat 0
      · rw [if_pos h0]
      · rw [if_neg h0, if_pos]
        have h2 : nI 2 < x := Int32.lt_of_lt_of_le (show nI 2 < nI 3 by decide) h
        exact (i64_lt (nI 2) x).mpr h2
  rw [hx, z_z0, z_if]
theorem m_isFlow_s {k : Nat} (h : k < 3) : am_run (am_I2 E) mI_Mo_isFlow [.inl (nI k)] M = some (some (.inl 1), M) := by
  have hx : ∀ k, k < 3 → (if (nI k).toInt64 < Int64.ofNat 0 then (0 : Int32) else if (2 : Int64) < (nI k).toInt64 then 0 else 1) = 1 := by decide
  rw [rq_Mo_isFlow, m_in, z_bI, hx k h, z_z1, z_if]
theorem z_mul8 (u v : Nat) : nI u * 8 + nI v = nI (u * 8 + v) := by
  have : nI u * 8 = nI (u * 8) := pk_mul u 8
  rw [this, nI_add]
theorem z_8mul (u v : Nat) : 8 * nI u + nI v = nI (8 * u + v) := by
  have : 8 * nI u = nI (8 * u) := pk_mul 8 u
  rw [this, nI_add]
theorem c_roomAt_s {u v n : Nat} (hN : M 1 0 0 = nI n) (hn : n ≤ 8) (hu : u < n) (hv : v < n) : am_run (am_I2 E) mI_Ne_roomAt [.inr (.inl (some (1, 0))), .inl (nI u), .inl (nI v)] M = some (some (.inl (M 2 0 (8 * u + v))), M) := by
  rw [rq_Ne_roomAt, c_isNode_s hN hn hu, z_bI, if_neg z_ne10, c_isNode_s hN hn hv, z_bI, if_neg z_ne10, z_mul8, z_in (by omega) (by decide), z_if, z_ix (by omega), Nat.mul_comm u 8]
theorem c_roomAt_n {u n : Nat} {x : Int32} (hN : M 1 0 0 = nI n) (hn : n ≤ 8) (hu : u < n) (hx : ob x n) : am_run (am_I2 E) mI_Ne_roomAt [.inr (.inl (some (1, 0))), .inl (nI u), .inl x] M = some (some (.inl 0), M) := by
  rw [rq_Ne_roomAt, c_isNode_s hN hn hu, z_bI, if_neg z_ne10, c_isNode_n hN hx, z_bI, if_pos rfl]
theorem c_setRoom {u v n : Nat} {x : Int32} (hN : M 1 0 0 = nI n) (hn : n ≤ 8) (hu : u < n) (hv : v < n) : am_run (am_I2 E) mI_Ne_setRoom [.inr (.inl (some (1, 0))), .inl (nI u), .inl (nI v), .inl x] M = some (none, am_up M 2 0 (8 * u + v) x) := by
  rw [rq_Ne_setRoom, c_isNode_s hN hn hu, z_bI, if_neg z_ne10, c_isNode_s hN hn hv, z_bI, if_neg z_ne10, z_mul8, z_in (by omega) (by decide), z_if, z_ix (by omega), Nat.mul_comm u 8]
theorem c_oldAt {k u : Nat} (hu : u < 8) : am_run (am_I2 E) mI_Fl_oldAt [.inr (.inl (some (4, k))), .inl (nI u)] M = some (some (.inl (M 5 k u)), M) := by
  rw [rq_Fl_oldAt, c_isPlace_s (y := 8) (n := 8) rfl hu (by decide), z_bI, if_neg z_ne10, z_in hu (by decide), z_if, z_ix (by omega)]
theorem c_newAt {k u : Nat} (hu : u < 8) : am_run (am_I2 E) mI_Fl_newAt [.inr (.inl (some (4, k))), .inl (nI u)] M = some (some (.inl (M 6 k u)), M) := by
  rw [rq_Fl_newAt, c_isPlace_s (y := 8) (n := 8) rfl hu (by decide), z_bI, if_neg z_ne10, z_in hu (by decide), z_if, z_ix (by omega)]
/-- the rule of a node by a set -/
def rl (o w : Nat → Int32) (s : Int32) (u : Nat) : Int32 := if bt s u = true then w u else o u
theorem c_ruleAt {k u : Nat} {s : Int32} (hu : u < 8) : am_run (am_I2 E) mI_Fl_ruleAt [.inr (.inl (some (4, k))), .inl (nI u), .inl s] M = some (some (.inl (rl (M 5 k) (M 6 k) s u)), M) := by
  rw [rq_Fl_ruleAt, c_isPlace_s (y := 8) (n := 8) rfl hu (by decide), z_bI, if_neg z_ne10, z_in hu (by decide), z_if, z_if, z_ix (by omega)]
  unfold rl
  cases hb : bt s u with
  | false => rw [if_pos ((bt_ne0 hu).mpr hb), if_neg (by decide)]
  | true => rw [if_neg (fun w => by have := (bt_ne0 hu).mp w; rw [hb] at this; cases this), if_pos rfl]
theorem m_has {s : Int32} {u : Nat} (hu : u < 8) : am_run (am_I2 E) mI_Mo_has [.inl s, .inl (nI u)] M = some (some (.inl (if bt s u = true then 1 else 0)), M) := by
  rw [rq_Mo_has]
  cases hb : bt s u with
  | false => rw [if_neg (fun w => by have := (bt_shr hu).mp w; rw [hb] at this; cases this), if_neg (by decide)]
  | true => rw [if_pos ((bt_shr hu).mpr hb), if_pos rfl]
theorem m_ruleBy {k u : Nat} {s : Int32} (hk : k < 3) (hu : u < 8) : am_run (am_I2 E) mI_Mo_ruleBy [.inr (.inl (some (25, 0))), .inl (nI k), .inl (nI u), .inl s] M = some (some (.inl (rl (fun u => M 31 0 (8 * k + u)) (fun u => M 32 0 (8 * k + u)) s u)), M) := by
  rw [rq_Mo_ruleBy, m_has hu, z_bI, z_8mul, z_in (by omega) (by decide), z_if, z_if, z_ix (by omega)]
  unfold rl
  cases hb : bt s u with
  | false => simp
  | true => simp
/-- movers of two rows of rules -/
def mvN (o w : Nat → Int32) : Nat → Nat
  | 0 => 0
  | u + 1 => if o u = w u then mvN o w u else mvN o w u ||| 2 ^ u
def mv (o w : Nat → Int32) : Nat := mvN o w 8
theorem mvN_lt (o w : Nat → Int32) : ∀ u, mvN o w u < 2 ^ u := by
  intro u
  induction u with
  | zero => simp [mvN]
  | succ u ih =>
    unfold mvN
    split
    · exact Nat.lt_of_lt_of_le ih (Nat.pow_le_pow_right (by omega) (by omega))
    · exact Nat.or_lt_two_pow (Nat.lt_of_lt_of_le ih (Nat.pow_le_pow_right (by omega) (by omega))) (Nat.pow_lt_pow_right (by omega) (by omega))
theorem mv_lt (o w : Nat → Int32) : mv o w < 256 := mvN_lt o w 8
theorem mvN_bit (o w : Nat → Int32) : ∀ u v, (mvN o w u).testBit v = (decide (v < u) && decide (o v ≠ w v)) := by
  intro u
  induction u with
  | zero => intro v; simp [mvN]
  | succ u ih =>
    intro v
    unfold mvN
    split
    · rename_i h
      rw [ih v]
      by_cases e : v = u
      · subst e; simp [h]
      · by_cases h2 : v < u
        · simp [h2, show v < u + 1 by omega]
        · simp [h2, show ¬ v < u + 1 by omega]
    · rename_i h
      rw [Nat.testBit_or, ih v, Nat.testBit_two_pow]
      by_cases e : v = u
      · subst e; simp [h]
      · by_cases h2 : v < u
        · simp [h2, show v < u + 1 by omega, Ne.symm e]
        · simp [h2, show ¬ v < u + 1 by omega, Ne.symm e]
theorem mv_bit (o w : Nat → Int32) (v : Nat) : (mv o w).testBit v = (decide (v < 8) && decide (o v ≠ w v)) := mvN_bit o w 8 v
theorem c_movers {k : Nat} : am_run (am_I2 E) mI_Fl_movers [.inr (.inl (some (4, k)))] M = some (some (.inl (nI (mv (M 5 k) (M 6 k)))), M) := by
  rw [rq_Fl_movers]
  have key : ∀ j u, u + j = 8 → am_ex (am_I2 E) mI_Fl_movers 4 [some (.inr (.inl (some (4, k)))), some (.inl (nI (mvN (M 5 k) (M 6 k) u))), some (.inl (nI u))] [] M = some (some (.inl (nI (mv (M 5 k) (M 6 k)))), M) := by
    intro j
    induction j with
    | zero =>
      intro u hu
      have h8 : ¬ nI u < 8 := nI_nlt (b := 8) (by omega) (by omega)
      rw [eq_Fl_movers_4, if_neg h8, show u = 8 by omega]
      rfl
    | succ j ih =>
      intro u hu
      have h8 : nI u < 8 := nI_lt (b := 8) (by omega) (by decide)
      rw [eq_Fl_movers_4, if_pos h8, z_in (by omega) (by decide), z_if, z_if, z_ix (by omega), nI_shl (by omega), nI_or, nI_1]
      have h1 := ih (u + 1) (by omega)
      unfold mvN at h1
      split
      · rename_i h; rw [if_pos h] at h1; exact h1
      · rename_i h; rw [if_neg h] at h1; exact h1
  exact key 8 0 (by omega)
theorem m_movers {k : Nat} (hk : k < 3) : am_run (am_I2 E) mI_Mo_movers [.inr (.inl (some (25, 0))), .inl (nI k)] M = some (some (.inl (nI (mv (fun u => M 31 0 (8 * k + u)) (fun u => M 32 0 (8 * k + u))))), M) := by
  rw [rq_Mo_movers]
  have key : ∀ j u, u + j = 8 → am_ex (am_I2 E) mI_Mo_movers 4 [some (.inr (.inl (some (25, 0)))), some (.inl (nI k)), some (.inl (nI (mvN (fun u => M 31 0 (8 * k + u)) (fun u => M 32 0 (8 * k + u)) u))), some (.inl (nI u))] [] M = some (some (.inl (nI (mv (fun u => M 31 0 (8 * k + u)) (fun u => M 32 0 (8 * k + u))))), M) := by
    intro j
    induction j with
    | zero =>
      intro u hu
      have h8 : ¬ nI u < 8 := nI_nlt (b := 8) (by omega) (by omega)
      rw [eq_Mo_movers_4, if_neg h8, show u = 8 by omega]
      rfl
    | succ j ih =>
      intro u hu
      have h8 : nI u < 8 := nI_lt (b := 8) (by omega) (by decide)
      have h0 : ∀ x : Nat, nI x ||| 0 = nI x := fun x => by
        have : nI x ||| nI 0 = nI x := by rw [nI_or, Nat.or_zero]
        exact this
      rw [eq_Mo_movers_4, if_pos h8, z_8mul, z_in (by omega) (by decide), z_if, z_if, z_ix (by omega), nI_shl (by omega), nI_or, h0, nI_1]
      have h1 := ih (u + 1) (by omega)
      unfold mvN at h1
      split
      · rename_i h; rw [if_pos h] at h1; exact h1
      · rename_i h; rw [if_neg h] at h1; exact h1
  exact key 8 0 (by omega)
end
