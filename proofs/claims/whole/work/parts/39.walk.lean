/-! walks -/
/-- nothing is changed but cells of some kinds -/
def fS (S : Nat → Nat → Bool) (M N : am_M) : Prop := ∀ a w s, S a s = false → N a w s = M a w s
theorem fS_rfl {S : Nat → Nat → Bool} {M : am_M} : fS S M M := fun _ _ _ _ => rfl
theorem fS_tr {S : Nat → Nat → Bool} {M N K : am_M} (h : fS S M N) (h2 : fS S N K) : fS S M K := fun k w s e => (h2 k w s e).trans (h k w s e)
theorem fS_mono {S T : Nat → Nat → Bool} {M N : am_M} (hT : ∀ a s, S a s = true → T a s = true) (h : fS S M N) : fS T M N := fun k w s e => h k w s (by
  cases e2 : S k s with
  | false => rfl
  | true => rw [hT k s e2] at e; cases e)
theorem fS_up {S : Nat → Nat → Bool} {M N : am_M} {a b c : Nat} {x : Int32} (h : fS S M N) (hs : S a c = true) : fS S M (am_up N a b c x) := by
  intro a' w s e
  rw [← h a' w s e]
  apply am_up_ne
  by_cases h1 : a' = a
  · by_cases h2 : s = c
    · subst h1; subst h2
      rw [hs] at e
      cases e
    · exact Or.inr (Or.inr h2)
  · exact Or.inl h1
def S9 (a _s : Nat) : Bool := match a with
  | 9 => true
  | 10 => true
  | _ => false
def S44 (a s : Nat) : Bool := match a with
  | 44 => true
  | 25 => match s with
    | 33 => true
    | 34 => true
    | 35 => true
    | _ => false
  | _ => false
/-- a rule as a node -/
def rN (x : Int32) : Option Nat := if x = -1 then none else some x.toNatClampNeg
def st (o w R : Nat → Int32) (s : Int32) (u : Nat) : Option Nat := match rN (rl o w s u) with
  | none => none
  | some v => if R (8 * u + v) = 0 then none else some v
def wk (f : Nat → Option Nat) : Nat → Nat → Nat → List Nat
  | 0, _, u => [u]
  | j + 1, e, u => match f u with
    | none => [u]
    | some v => if e.testBit v = true then [u] else u :: wk f j (e ||| 2 ^ v) v
/-- next in a list -/
def nx : List Nat → Nat → Option Nat
  | a :: b :: l, x => if x = a then some b else nx (b :: l) x
  | _, _ => none
def mt : List Nat → Nat
  | [] => 0
  | a :: l => 2 ^ a ||| mt l
def la : List Nat → Nat
  | [] => 0
  | [a] => a
  | _ :: b :: l => la (b :: l)
def oI (x : Option Nat) : Int32 := match x with
  | none => -1
  | some v => nI v
theorem wk_none {f : Nat → Option Nat} {j e u : Nat} (h : f u = none) : wk f j e u = [u] := by
  cases j with
  | zero => rfl
  | succ j => unfold wk; rw [h]
theorem wk_met {f : Nat → Option Nat} {j e u v : Nat} (h : f u = some v) (hv : e.testBit v = true) : wk f j e u = [u] := by
  cases j with
  | zero => rfl
  | succ j => unfold wk; rw [h]; show (if e.testBit v = true then [u] else _) = _; rw [if_pos hv]
theorem wk_go {f : Nat → Option Nat} {j e u v : Nat} (h : f u = some v) (hv : e.testBit v = false) : wk f (j + 1) e u = u :: wk f j (e ||| 2 ^ v) v := by
  show (match f u with
    | none => [u]
    | some v => if e.testBit v = true then [u] else u :: wk f j (e ||| 2 ^ v) v) = _
  rw [h]
  show (if e.testBit v = true then [u] else _) = _
  rw [hv, if_neg (by decide)]
theorem wk_head (f : Nat → Option Nat) (j e u : Nat) : ∃ l, wk f j e u = u :: l := by
  cases j with
  | zero => exact ⟨[], rfl⟩
  | succ j =>
    cases h : f u with
    | none => exact ⟨[], wk_none h⟩
    | some v =>
      cases hv : e.testBit v with
      | true => exact ⟨[], wk_met h hv⟩
      | false => exact ⟨_, wk_go h hv⟩
theorem nx_go {f : Nat → Option Nat} {j e u v x : Nat} (h : f u = some v) (hv : e.testBit v = false) : nx (wk f (j + 1) e u) x = if x = u then some v else nx (wk f j (e ||| 2 ^ v) v) x := by
  rw [wk_go h hv]
  obtain ⟨l, hl⟩ := wk_head f j (e ||| 2 ^ v) v
  rw [hl]
  rfl
theorem la_go {f : Nat → Option Nat} {j e u v : Nat} (h : f u = some v) (hv : e.testBit v = false) : la (wk f (j + 1) e u) = la (wk f j (e ||| 2 ^ v) v) := by
  rw [wk_go h hv]
  obtain ⟨l, hl⟩ := wk_head f j (e ||| 2 ^ v) v
  rw [hl]
  rfl
/-- nodes of a walk were not met before, but for the first -/
theorem wk_new {f : Nat → Option Nat} : ∀ {j e u : Nat}, ∀ x, x ∈ wk f j e u → x = u ∨ e.testBit x = false := by
  intro j
  induction j with
  | zero => intro e u x hx; exact Or.inl (by simpa [wk] using hx)
  | succ j ih =>
    intro e u x hx
    cases h : f u with
    | none => rw [wk_none h] at hx; exact Or.inl (by simpa using hx)
    | some v =>
      cases hv : e.testBit v with
      | true => rw [wk_met h hv] at hx; exact Or.inl (by simpa using hx)
      | false =>
        rw [wk_go h hv] at hx
        rcases List.mem_cons.mp hx with hx | hx
        · exact Or.inl hx
        · right
          rcases ih x hx with w | w
          · rw [w]; exact hv
          · rw [Nat.testBit_or] at w
            cases he : e.testBit x with
            | false => rfl
            | true => rw [he] at w; cases w
theorem nx_mem {l : List Nat} {x v : Nat} (h : nx l x = some v) : x ∈ l ∧ v ∈ l := by
  induction l with
  | nil => cases h
  | cons a l ih =>
    cases l with
    | nil => cases h
    | cons b l =>
      have h2 : (if x = a then some b else nx (b :: l) x) = some v := h
      by_cases e : x = a
      · rw [if_pos e] at h2
        cases h2
        exact ⟨by simp [e], by simp⟩
      · rw [if_neg e] at h2
        have := ih h2
        exact ⟨List.mem_cons_of_mem _ this.1, List.mem_cons_of_mem _ this.2⟩
theorem mt_bit {l : List Nat} {x : Nat} : (mt l).testBit x = true ↔ x ∈ l := by
  induction l with
  | nil => simp [mt]
  | cons a l ih =>
    unfold mt
    rw [Nat.testBit_or, Bool.or_eq_true, ih, Nat.testBit_two_pow, List.mem_cons, decide_eq_true_eq]
    constructor
    · rintro (h | h)
      · exact Or.inl h.symm
      · exact Or.inr h
    · rintro (h | h)
      · exact Or.inl h.symm
      · exact Or.inr h
theorem wk_lt {f : Nat → Option Nat} {n : Nat} (hf : ∀ u v, f u = some v → v < n) : ∀ {j e u : Nat}, u < n → ∀ x, x ∈ wk f j e u → x < n := by
  intro j
  induction j with
  | zero => intro e u hu x hx; rw [show x = u by simpa [wk] using hx]; exact hu
  | succ j ih =>
    intro e u hu x hx
    cases h : f u with
    | none => rw [wk_none h] at hx; rw [show x = u by simpa using hx]; exact hu
    | some v =>
      cases hv : e.testBit v with
      | true => rw [wk_met h hv] at hx; rw [show x = u by simpa using hx]; exact hu
      | false =>
        rw [wk_go h hv] at hx
        rcases List.mem_cons.mp hx with hx | hx
        · rw [hx]; exact hu
        · exact ih (hf u v h) x hx
theorem mt_go {f : Nat → Option Nat} {j e u v : Nat} (h : f u = some v) (hv : e.testBit v = false) (he : e.testBit u = true) : e ||| mt (wk f (j + 1) e u) = (e ||| 2 ^ v) ||| mt (wk f j (e ||| 2 ^ v) v) := by
  rw [wk_go h hv]
  apply bit_ext
  intro x
  obtain ⟨l, hl⟩ := wk_head f j (e ||| 2 ^ v) v
  rw [hl]
  simp only [mt, Nat.testBit_or, Nat.testBit_two_pow]
  by_cases e1 : u = x
  · subst e1; simp [he]
  · simp only [e1, decide_false, Bool.false_or]
    cases e.testBit x <;> cases decide (v = x) <;> rfl
section
variable {E : am_E} {M B : am_M} {c : Nat}
theorem rok_N {n g u : Nat} {x : Int32} (h : rok n g u x) (hn : n ≤ 8) : (x = -1 ∧ rN x = none) ∨ ∃ v, v < n ∧ v ≠ u ∧ u < n ∧ u ≠ g ∧ x = nI v ∧ rN x = some v := by
  rcases h with rfl | ⟨v, h1, h2, h3, h4, rfl⟩
  · exact Or.inl ⟨rfl, rfl⟩
  · refine Or.inr ⟨v, h1, h2, h3, h4, rfl, ?_⟩
    unfold rN
    rw [if_neg (nI_m1 (by omega)), nI_clamp (by omega)]
theorem rok_rl {n g u : Nat} {o w : Nat → Int32} {s : Int32} (h : rok n g u (o u) ∧ rok n g u (w u)) : rok n g u (rl o w s u) := by
  unfold rl
  split
  · exact h.2
  · exact h.1
/-- the walk of a flow by a set, told by the class's cells -/
def wkC (B : am_M) (k : Nat) (x : Int32) (s : Nat) : List Nat := wk (st (B 5 k) (B 6 k) (B 2 0) x) 8 (2 ^ s) s
def aI (b : Bool) : Int32 := if b = true then 1 else 0
theorem c_follow {n s g z k : Nat} {x : Int32} (hN : iN n B) (hR : iR B) (hG : iG n s g z k B) (hf : fr B M) : ∃ N, am_run (am_I2 E) mI_Pa_follow [.inr (.inl (some (9, 0))), .inr (.inl (some (1, 0))), .inr (.inl (some (4, k))), .inl x] M = some (none, N) ∧ fS S9 M N ∧ N 9 0 0 = nI (2 ^ s ||| mt (wkC B k x s)) ∧ N 9 0 1 = nI (la (wkC B k x s)) ∧ N 9 0 2 = aI (decide (la (wkC B k x s) = g)) ∧ ∀ u, u < 8 → N 10 0 u = oI (nx (wkC B k x s) u) := by
  obtain ⟨hn, hN1, hN2⟩ := hN
  obtain ⟨g0, g1, g2, g3, g4, g5⟩ := hG
  -- the loop of hops
  have loop : ∀ j e u N u6, u < n → e < 256 → e.testBit u = true → j ≤ 8 → fS S9 M N → N 9 0 0 = nI e → ∃ N', am_ex (am_I2 E) mI_Pa_follow 41 [some (.inr (.inl (some (9, 0)))), some (.inr (.inl (some (1, 0)))), some (.inr (.inl (some (4, k)))), some (.inl x), some (.inl (nI u)), some (.inl (nI (8 - j))), u6] [] N = some (none, N') ∧ fS S9 M N' ∧ N' 9 0 0 = nI (e ||| mt (wk (st (B 5 k) (B 6 k) (B 2 0) x) j e u)) ∧ N' 9 0 1 = nI (la (wk (st (B 5 k) (B 6 k) (B 2 0) x) j e u)) ∧ N' 9 0 2 = aI (decide (la (wk (st (B 5 k) (B 6 k) (B 2 0) x) j e u) = g)) ∧ ∀ y, y < 8 → N' 10 0 y = (match nx (wk (st (B 5 k) (B 6 k) (B 2 0) x) j e u) y with | none => N 10 0 y | some v => nI v) := by
    intro j
    induction j with
    | zero =>
      intro e u N u6 hu he heu hj hfN hm
      have eg : N 4 k 1 = nI g := (hfN 4 k 1 rfl).trans ((hf 4 k 1 rfl).trans g2.1)
      have h8 : ¬ nI (8 - 0) < 8 := by decide
      refine ⟨am_up (am_up N 9 0 1 (nI u)) 9 0 2 (aI (decide (u = g))), ?_, fS_up (fS_up hfN rfl) rfl, ?_, rfl, rfl, fun y hy => rfl⟩
      · rw [eq_Pa_follow_41, if_neg h8, eg]
        by_cases e : u = g
        · rw [if_pos (by rw [e])]; simp [aI, e]
        · rw [if_neg (fun w => e ((nI_eq (by omega) (by omega)).mp w))]; simp [aI, e]
      · show N 9 0 0 = _
        rw [hm]
        congr 1
        apply bit_ext
        intro i
        simp only [wk, mt, Nat.testBit_or, Nat.testBit_two_pow, Nat.zero_testBit, Bool.or_false]
        by_cases e : u = i
        · subst e; simp [heu]
        · simp [e]
    | succ j ih =>
      intro e u N u6 hu he heu hj hfN hm
      have eg : N 4 k 1 = nI g := (hfN 4 k 1 rfl).trans ((hf 4 k 1 rfl).trans g2.1)
      have eN : N 1 0 0 = nI n := (hfN 1 0 0 rfl).trans ((hf 1 0 0 rfl).trans hN1)
      have e5 : N 5 k = B 5 k := funext (fun y => (hfN 5 k y rfl).trans (hf 5 k y rfl))
      have e6 : N 6 k = B 6 k := funext (fun y => (hfN 6 k y rfl).trans (hf 6 k y rfl))
      have e2 : ∀ y, N 2 0 y = B 2 0 y := fun y => (hfN 2 0 y rfl).trans (hf 2 0 y rfl)
      have h8 : nI (8 - (j + 1)) < 8 := nI_lt (b := 8) (by omega) (by omega)
      have hstop : wk (st (B 5 k) (B 6 k) (B 2 0) x) (j + 1) e u = [u] → ∃ N', (if nI u = N 4 k 1 then (some (none, am_up (am_up N 9 0 1 (nI u)) 9 0 2 1) : Option (Option am_V × am_M)) else some (none, am_up (am_up N 9 0 1 (nI u)) 9 0 2 0)) = some (none, N') ∧ fS S9 M N' ∧ N' 9 0 0 = nI (e ||| mt (wk (st (B 5 k) (B 6 k) (B 2 0) x) (j + 1) e u)) ∧ N' 9 0 1 = nI (la (wk (st (B 5 k) (B 6 k) (B 2 0) x) (j + 1) e u)) ∧ N' 9 0 2 = aI (decide (la (wk (st (B 5 k) (B 6 k) (B 2 0) x) (j + 1) e u) = g)) ∧ ∀ y, y < 8 → N' 10 0 y = (match nx (wk (st (B 5 k) (B 6 k) (B 2 0) x) (j + 1) e u) y with | none => N 10 0 y | some v => nI v) := by
        intro hw
        rw [hw, eg]
        refine ⟨am_up (am_up N 9 0 1 (nI u)) 9 0 2 (aI (decide (u = g))), ?_, fS_up (fS_up hfN rfl) rfl, ?_, rfl, rfl, fun y hy => rfl⟩
        · by_cases e : u = g
          · rw [if_pos (by rw [e])]; simp [aI, e]
          · rw [if_neg (fun w => e ((nI_eq (by omega) (by omega)).mp w))]; simp [aI, e]
        · show N 9 0 0 = _
          rw [hm]
          congr 1
          apply bit_ext
          intro i
          simp only [mt, Nat.testBit_or, Nat.testBit_two_pow, Nat.zero_testBit, Bool.or_false]
          by_cases e : u = i
          · subst e; simp [heu]
          · simp [e]
      rw [eq_Pa_follow_41, if_pos h8, c_isNode_s eN hn.2 hu, z_bI, if_neg z_ne10, c_ruleAt (by omega), z_bI, e5, e6]
      rcases rok_N (rok_rl (s := x) ((g5 u (by omega)).2)) hn.2 with ⟨h1, h2⟩ | ⟨v, hv, hvu, -, hug, h1, h2⟩
      · rw [h1, c_roomAt_n eN hn.2 hu (ob_m1 n), z_bI, if_pos rfl]
        apply hstop
        apply wk_none
        unfold st
        rw [h2]
      · obtain ⟨r, hr, r1, -⟩ := hR (8 * u + v) (by omega)
        have hst : st (B 5 k) (B 6 k) (B 2 0) x u = if r = 0 then none else some v := by
          unfold st
          rw [h2]
          show (if B 2 0 (8 * u + v) = 0 then none else some v) = _
          rw [r1]
          by_cases e : r = 0
          · subst e; rfl
          · rw [if_neg e, if_neg (nI_ne0 (by omega) (by omega))]
        rw [h1, c_roomAt_s eN hn.2 hu hv, z_bI, e2, r1]
        by_cases e0 : r = 0
        · rw [e0, if_pos (by decide)]
          rw [if_pos e0] at hst
          exact hstop (wk_none hst)
        · rw [if_neg (nI_ne0 (by omega) (by omega))]
          rw [if_neg e0] at hst
          rw [hm]
          cases hb : e.testBit v with
          | true =>
            have hne : ¬ nI e &&& (1 : Int32) <<< (nI v &&& 31) = 0 := fun w => by
              have := (bt_ne0 (by omega)).mp w
              rw [bt_nI _ _ (by omega), hb] at this
              cases this
            rw [if_neg hne]
            exact hstop (wk_met hst hb)
          | false =>
            rw [if_pos ((bt_ne0 (by omega)).mpr (by rw [bt_nI _ _ (by omega)]; exact hb)), z_in (by omega) (by omega), z_if, z_ix (by omega), nI_shl (by omega), nI_or]
            have e8 : nI (8 - (j + 1)) + 1 = nI (8 - j) := by rw [nI_1, show 8 - (j + 1) + 1 = 8 - j by omega]
            rw [e8]
            have hv8 : (2 ^ v) < 256 := Nat.lt_of_lt_of_le (Nat.pow_lt_pow_right (by omega) (show v < 8 by omega)) (by decide)
            obtain ⟨N', k1, k2, k3, k4, k5, k6⟩ := ih (e ||| 2 ^ v) v (am_up (am_up N 10 0 u (nI v)) 9 0 0 (nI (e ||| 2 ^ v))) (some (.inl (nI v))) hv (or_lt he hv8) (by rw [Nat.testBit_or, Nat.testBit_two_pow]; simp) (by omega) (fS_up (fS_up hfN rfl) rfl) rfl
            refine ⟨N', k1, k2, ?_, ?_, ?_, fun y hy => ?_⟩
            · rw [k3, mt_go hst hb heu]
            · rw [k4, la_go hst hb]
            · rw [k5, la_go hst hb]
            · rw [k6 y hy, nx_go hst hb]
              by_cases ey : y = u
              · subst ey
                rw [if_pos rfl]
                cases hx : nx (wk (st (B 5 k) (B 6 k) (B 2 0) x) j (e ||| 2 ^ v) v) y with
                | none => exact am_up_self N 10 0 y (nI v)
                | some q =>
                  exfalso
                  rcases wk_new y (nx_mem hx).1 with w | w
                  · exact hvu w.symm
                  · rw [Nat.testBit_or, heu] at w; cases w
              · rw [if_neg ey]
                cases hx : nx (wk (st (B 5 k) (B 6 k) (B 2 0) x) j (e ||| 2 ^ v) v) y with
                | none => exact am_up_ne (M := N) (a := 10) (b := 0) (c := u) (x := nI v) (Or.inr (Or.inr ey))
                | some q => rfl
  -- the loop that clears
  have clear : ∀ j i N, i + j = 8 → fS S9 M N → (∀ y, y < i → N 10 0 y = -1) → ∃ N', am_ex (am_I2 E) mI_Pa_follow 3 [some (.inr (.inl (some (9, 0)))), some (.inr (.inl (some (1, 0)))), some (.inr (.inl (some (4, k)))), some (.inl x), some (.inl (nI i)), none, none] [] N = am_ex (am_I2 E) mI_Pa_follow 41 [some (.inr (.inl (some (9, 0)))), some (.inr (.inl (some (1, 0)))), some (.inr (.inl (some (4, k)))), some (.inl x), some (.inl (nI s)), some (.inl 0), none] [] N' ∧ fS S9 M N' ∧ N' 9 0 0 = nI (2 ^ s) ∧ ∀ y, y < 8 → N' 10 0 y = -1 := by
    intro j
    induction j with
    | zero =>
      intro i N hi hfN hy
      have h8 : ¬ nI i < 8 := nI_nlt (b := 8) (by omega) (by omega)
      have es : N 4 k 0 = nI s := (hfN 4 k 0 rfl).trans ((hf 4 k 0 rfl).trans g1.1)
      refine ⟨am_up N 9 0 0 (nI (2 ^ s)), ?_, fS_up hfN rfl, rfl, fun y h => hy y (by omega)⟩
      rw [eq_Pa_follow_3, if_neg h8, es, nI_shl (by omega)]
    | succ j ih =>
      intro i N hi hfN hy
      have h8 : nI i < 8 := nI_lt (b := 8) (by omega) (by omega)
      rw [eq_Pa_follow_3, if_pos h8, z_in (by omega) (by omega), z_if, z_ix (by omega), nI_1]
      refine ih (i + 1) _ (by omega) (fS_up hfN rfl) (fun y h => ?_)
      by_cases e : y = i
      · subst e; exact am_up_self N 10 0 y (-1)
      · exact (am_up_ne (M := N) (a := 10) (b := 0) (c := i) (x := -1) (Or.inr (Or.inr e))).trans (hy y (by omega))
  obtain ⟨N1, k1, k2, k3, k4⟩ := clear 8 0 M rfl fS_rfl (fun y h => absurd h (by omega))
  have hs8 : (2 ^ s) < 256 := Nat.lt_of_lt_of_le (Nat.pow_lt_pow_right (by omega) (show s < 8 by omega)) (by decide)
  obtain ⟨N2, l1, l2, l3, l4, l5, l6⟩ := loop 8 (2 ^ s) s N1 none g0.1 hs8 (by rw [Nat.testBit_two_pow]; simp) (by omega) k2 k3
  refine ⟨N2, ?_, l2, l3, l4, l5, fun u hu => ?_⟩
  · rw [rq_Pa_follow]
    exact k1.trans l1
  · rw [l6 u hu]
    show (match nx (wkC B k x s) u with | none => N1 10 0 u | some v => nI v) = _
    cases nx (wkC B k x s) u with
    | none => exact k4 u hu
    | some v => rfl
end
