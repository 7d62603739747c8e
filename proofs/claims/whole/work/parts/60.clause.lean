/-! clauses: how they are read, as numbers; the class reads them -/
def cnt (w : Nat) : Nat := match w with
  | 0 => 1
  | 1 => 3
  | 2 => 4
  | 3 => 2
  | _ => 3
/-- the number at a place fits -/
def chk (w nn : Nat) (ss gg : Nat → Nat) (i : Nat) (vs : Nat → Nat) (v : Nat) : Bool := match w with
  | 0 => decide (2 ≤ v ∧ v ≤ 8)
  | 1 => match i with
    | 0 => decide (v < nn)
    | 1 => decide (v < nn) && !decide (v = vs 0)
    | _ => true
  | 2 => match i with
    | 0 => decide (v < 3)
    | 1 => decide (v < nn)
    | 2 => decide (v < nn) && !decide (v = vs 1)
    | _ => decide (1 ≤ v)
  | 3 => match i with
    | 0 => decide (v < 3)
    | _ => decide (v < nn) && (!decide (v = ss (vs 0)) && !decide (v = gg (vs 0)))
  | _ => match i with
    | 0 => decide (v < 3)
    | 1 => decide (v < nn) && !decide (v = gg (vs 0))
    | _ => decide (v < nn) && !decide (v = vs 1)
def nb (X : Nat → Nat) (l q : Nat) : Option Nat := if tK X l q = 1 then (if tE X l q - tS X l q = 1 then some (X (tS X l q) - 48) else none) else none
theorem nb_some {X : Nat → Nat} {l q v : Nat} (h : nb X l q = some v) : tS X l q < l ∧ tK X l q = 1 ∧ tE X l q - tS X l q = 1 ∧ 48 ≤ X (tS X l q) ∧ X (tS X l q) ≤ 57 ∧ v = X (tS X l q) - 48 ∧ v ≤ 9 := by
  unfold nb at h
  by_cases h1 : tK X l q = 1
  · rw [if_pos h1] at h
    by_cases h2 : tE X l q - tS X l q = 1
    · rw [if_pos h2] at h
      have h3 := Option.some.inj h
      have h4 : tS X l q < l := by
        rcases Nat.lt_or_ge (tS X l q) l with w | w
        · exact w
        · unfold tK eK at h1
          rw [if_neg (by omega)] at h1
          cases h1
      have h5 : kd (X (tS X l q)) = 1 := by
        unfold tK eK at h1
        rw [if_pos h4] at h1
        exact h1
      have h6 := kd_1.mp h5
      exact ⟨h4, h1, h2, h6.1, h6.2, h3.symm, by omega⟩
    · rw [if_neg h2] at h; cases h
  · rw [if_neg h1] at h; cases h
def rdN (X : Nat → Nat) (l : Nat) (C : Nat → (Nat → Nat) → Nat → Bool) : Nat → Nat → Nat → (Nat → Nat) → Bool × (Nat × (Nat → Nat))
  | 0, _, q, vs => (true, q, vs)
  | j + 1, i, q, vs => match nb X l q with
    | none => (false, q, vs)
    | some v => if C i vs v = true then rdN X l C j (i + 1) (tE X l q) (fun x => if x = i then v else vs x) else (false, q, vs)
theorem rdN_n {X : Nat → Nat} {l : Nat} {C : Nat → (Nat → Nat) → Nat → Bool} {j i q : Nat} {vs : Nat → Nat} (h : nb X l q = none) : rdN X l C (j + 1) i q vs = (false, q, vs) := by
  show (match nb X l q with
    | none => (false, q, vs)
    | some v => _) = _
  rw [h]
theorem rdN_s {X : Nat → Nat} {l : Nat} {C : Nat → (Nat → Nat) → Nat → Bool} {j i q v : Nat} {vs : Nat → Nat} (h : nb X l q = some v) : rdN X l C (j + 1) i q vs = if C i vs v = true then rdN X l C j (i + 1) (tE X l q) (fun x => if x = i then v else vs x) else (false, q, vs) := by
  show (match nb X l q with
    | none => (false, q, vs)
    | some v => if C i vs v = true then rdN X l C j (i + 1) (tE X l q) (fun x => if x = i then v else vs x) else (false, q, vs)) = _
  rw [h]
theorem rdN_le {X : Nat → Nat} {l : Nat} {C : Nat → (Nat → Nat) → Nat → Bool} : ∀ {j i q : Nat} {vs : Nat → Nat}, q ≤ l → (rdN X l C j i q vs).2.1 ≤ l := by
  intro j
  induction j with
  | zero => intro i q vs hq; exact hq
  | succ j ih =>
    intro i q vs hq
    cases h : nb X l q with
    | none => rw [rdN_n h]; exact hq
    | some v =>
      rw [rdN_s h]
      split
      · exact ih (tE_le hq).2.1
      · exact hq
theorem rdN_keep {X : Nat → Nat} {l : Nat} {C : Nat → (Nat → Nat) → Nat → Bool} : ∀ {j i q : Nat} {vs : Nat → Nat}, ∀ x, x < i → (rdN X l C j i q vs).2.2 x = vs x := by
  intro j
  induction j with
  | zero => intro i q vs x _; rfl
  | succ j ih =>
    intro i q vs x hx
    cases h : nb X l q with
    | none => rw [rdN_n h]
    | some v =>
      rw [rdN_s h]
      split
      · rw [ih x (by omega)]
        exact if_neg (by omega)
      · rfl
theorem chk_congr {w nn i v : Nat} {ss gg vs vs' : Nat → Nat} (h : ∀ y, y < i → vs y = vs' y) : chk w nn ss gg i vs v = chk w nn ss gg i vs' v := by
  rcases w with _ | _ | _ | _ | w
  · rfl
  · rcases i with _ | _ | i
    · rfl
    · show (decide (v < nn) && !decide (v = vs 0)) = _
      rw [h 0 (by omega)]; rfl
    · rfl
  · rcases i with _ | _ | _ | i
    · rfl
    · rfl
    · show (decide (v < nn) && !decide (v = vs 1)) = _
      rw [h 1 (by omega)]; rfl
    · rfl
  · rcases i with _ | i
    · rfl
    · show (decide (v < nn) && (!decide (v = ss (vs 0)) && !decide (v = gg (vs 0)))) = _
      rw [h 0 (by omega)]; rfl
  · rcases i with _ | _ | i
    · rfl
    · show (decide (v < nn) && !decide (v = gg (vs 0))) = _
      rw [h 0 (by omega)]; rfl
    · show (decide (v < nn) && !decide (v = vs 1)) = _
      rw [h 1 (by omega)]; rfl
/-- what was read fits -/
theorem rdN_ok {X : Nat → Nat} {l w nn : Nat} {ss gg : Nat → Nat} : ∀ {j i q : Nat} {vs : Nat → Nat}, (rdN X l (chk w nn ss gg) j i q vs).1 = true → ∀ x, i ≤ x → x < i + j → chk w nn ss gg x (rdN X l (chk w nn ss gg) j i q vs).2.2 ((rdN X l (chk w nn ss gg) j i q vs).2.2 x) = true ∧ (rdN X l (chk w nn ss gg) j i q vs).2.2 x ≤ 9 := by
  intro j
  induction j with
  | zero => intro i q vs _ x h1 h2; omega
  | succ j ih =>
    intro i q vs hok x h1 h2
    cases h : nb X l q with
    | none => rw [rdN_n h] at hok; cases hok
    | some v =>
      rw [rdN_s h] at hok ⊢
      by_cases hc : chk w nn ss gg i vs v = true
      · rw [if_pos hc] at hok ⊢
        by_cases e : x = i
        · subst e
          have hk : ∀ y, y < x + 1 → (rdN X l (chk w nn ss gg) j (x + 1) (tE X l q) (fun y => if y = x then v else vs y)).2.2 y = if y = x then v else vs y := fun y hy => rdN_keep y hy
          have hx := hk x (by omega)
          rw [if_pos rfl] at hx
          rw [hx]
          refine ⟨?_, (nb_some h).2.2.2.2.2.2⟩
          rw [← hc]
          exact chk_congr (fun y hy => by rw [hk y (by omega), if_neg (by omega)])
        · exact ih hok x (by omega) (by omega)
      · rw [if_neg hc] at hok; cases hok
def clw (X : Nat → Nat) (l q : Nat) : Option Nat := wA X (tS X l q) (tE X l q)
def clr (X : Nat → Nat) (l nn : Nat) (ss gg : Nat → Nat) (q : Nat) : Bool × (Nat × (Nat → Nat)) := match clw X l q with
  | none => (false, q, fun _ => 0)
  | some w => rdN X l (chk w nn ss gg) (cnt w) 0 (tE X l q) (fun _ => 0)
def clk (X : Nat → Nat) (l q : Nat) : Nat := (clw X l q).getD 0
theorem clr_n {X : Nat → Nat} {l nn q : Nat} {ss gg : Nat → Nat} (h : clw X l q = none) : clr X l nn ss gg q = (false, q, fun _ => 0) := by
  unfold clr; rw [h]
theorem clr_s {X : Nat → Nat} {l nn q w : Nat} {ss gg : Nat → Nat} (h : clw X l q = some w) : clr X l nn ss gg q = rdN X l (chk w nn ss gg) (cnt w) 0 (tE X l q) (fun _ => 0) := by
  unfold clr; rw [h]
theorem clr_le {X : Nat → Nat} {l nn q : Nat} {ss gg : Nat → Nat} (hq : q ≤ l) : (clr X l nn ss gg q).2.1 ≤ l := by
  cases h : clw X l q with
  | none => rw [clr_n h]; exact hq
  | some w => rw [clr_s h]; exact rdN_le (tE_le hq).2.1
theorem clr_w {X : Nat → Nat} {l nn q : Nat} {ss gg : Nat → Nat} (h : (clr X l nn ss gg q).1 = true) : clw X l q = some (clk X l q) ∧ clk X l q < 6 := by
  cases hw : clw X l q with
  | none => rw [clr_n hw] at h; cases h
  | some w =>
    have : clk X l q = w := by unfold clk; rw [hw]; rfl
    rw [this]
    exact ⟨rfl, wA_lt hw⟩
def uN (w : Nat) (vs : Nat → Nat) (nn : Nat) : Nat := if w = 0 then vs 0 else nn
def uS (w : Nat) (vs ss : Nat → Nat) (k : Nat) : Nat := if w = 0 then 0 else if w = 2 then (if k = vs 0 then vs 1 else ss k) else ss k
def uG (w : Nat) (vs gg : Nat → Nat) (k : Nat) : Nat := if w = 0 then 1 else if w = 2 then (if k = vs 0 then vs 2 else gg k) else gg k
def bd (nn : Nat) (ss gg : Nat → Nat) : Prop := (2 ≤ nn ∧ nn ≤ 8) ∧ ∀ k, k < 3 → ss k < 8 ∧ gg k < 8
/-- a clause that was read -/
def okC (nn : Nat) (ss gg : Nat → Nat) (w : Nat) (vs : Nat → Nat) : Prop := w < 6 ∧ ∀ x, x < cnt w → chk w nn ss gg x vs (vs x) = true ∧ vs x ≤ 9
theorem clr_ok {X : Nat → Nat} {l nn q : Nat} {ss gg : Nat → Nat} (h : (clr X l nn ss gg q).1 = true) : okC nn ss gg (clk X l q) (clr X l nn ss gg q).2.2 := by
  obtain ⟨h1, h2⟩ := clr_w h
  refine ⟨h2, fun x hx => ?_⟩
  rw [clr_s h1] at h ⊢
  exact rdN_ok h x (by omega) (by omega)
theorem okC_0 {nn w : Nat} {ss gg vs : Nat → Nat} (h : okC nn ss gg w vs) (h2 : 2 ≤ w) : vs 0 < 3 := by
  obtain ⟨h6, hx⟩ := h
  have hc : ∀ w, w < 6 → 0 < cnt w := by decide
  have := (hx 0 (hc w h6)).1
  have hw : w = 2 ∨ w = 3 ∨ w = 4 ∨ w = 5 := by omega
  rcases hw with rfl | rfl | rfl | rfl <;> exact of_decide_eq_true this
theorem bd_u {nn w : Nat} {ss gg vs : Nat → Nat} (hb : bd nn ss gg) (h : okC nn ss gg w vs) : bd (uN w vs nn) (uS w vs ss) (uG w vs gg) := by
  obtain ⟨hb1, hb2⟩ := hb
  unfold uN uS uG
  by_cases e0 : w = 0
  · subst e0
    have h0 : decide (2 ≤ vs 0 ∧ vs 0 ≤ 8) = true := (h.2 0 (by decide)).1
    refine ⟨?_, fun k hk => ⟨?_, ?_⟩⟩
    · rw [if_pos rfl]; exact of_decide_eq_true h0
    · show (if 0 = 0 then 0 else _) < 8
      rw [if_pos rfl]; omega
    · show (if 0 = 0 then 1 else _) < 8
      rw [if_pos rfl]; omega
  · refine ⟨by rw [if_neg e0]; exact hb1, fun k hk => ?_⟩
    show (if w = 0 then 0 else if w = 2 then (if k = vs 0 then vs 1 else ss k) else ss k) < 8 ∧ (if w = 0 then 1 else if w = 2 then (if k = vs 0 then vs 2 else gg k) else gg k) < 8
    rw [if_neg e0, if_neg e0]
    by_cases e2 : w = 2
    · subst e2
      have h1 : decide (vs 1 < nn) = true := (h.2 1 (by decide)).1
      have h2 : (decide (vs 2 < nn) && !decide (vs 2 = vs 1)) = true := (h.2 2 (by decide)).1
      rw [Bool.and_eq_true] at h2
      have h1' := of_decide_eq_true h1
      have h2' := of_decide_eq_true h2.1
      rw [if_pos rfl, if_pos rfl]
      by_cases ek : k = vs 0
      · rw [if_pos ek, if_pos ek]; omega
      · rw [if_neg ek, if_neg ek]; exact hb2 k hk
    · rw [if_neg e2, if_neg e2]; exact hb2 k hk
/-- the whole text: where its fault is, and the clauses ahead of it -/
def PA (X : Nat → Nat) (l : Nat) : Nat → Nat → Nat → (Nat → Nat) → (Nat → Nat) → Option Nat × List (Nat × (Nat → Nat))
  | 0, _, _, _, _ => (some 0, [])
  | j + 1, q, nn, ss, gg =>
    if (clr X l nn ss gg q).1 = true then
      (if tS X l (clr X l nn ss gg q).2.1 = l then (none, [(clk X l q, (clr X l nn ss gg q).2.2)])
       else if j = 0 then (some (tS X l (clr X l nn ss gg q).2.1), [(clk X l q, (clr X l nn ss gg q).2.2)])
       else if X (tS X l (clr X l nn ss gg q).2.1) = 59 then ((PA X l j (tE X l (clr X l nn ss gg q).2.1) (uN (clk X l q) (clr X l nn ss gg q).2.2 nn) (uS (clk X l q) (clr X l nn ss gg q).2.2 ss) (uG (clk X l q) (clr X l nn ss gg q).2.2 gg)).1, (clk X l q, (clr X l nn ss gg q).2.2) :: (PA X l j (tE X l (clr X l nn ss gg q).2.1) (uN (clk X l q) (clr X l nn ss gg q).2.2 nn) (uS (clk X l q) (clr X l nn ss gg q).2.2 ss) (uG (clk X l q) (clr X l nn ss gg q).2.2 gg)).2)
       else (some (tS X l (clr X l nn ss gg q).2.1), [(clk X l q, (clr X l nn ss gg q).2.2)]))
    else (some (tS X l (clr X l nn ss gg q).2.1), [])
def tT (X : Nat → Nat) (l q : Nat) (N : am_M) : Prop := N 20 0 3 = nI (tK X l q) ∧ N 20 0 4 = nI (tS X l q) ∧ N 20 0 5 = nI (tE X l q)
def tD (nn : Nat) (ss gg : Nat → Nat) (N : am_M) : Prop := N 20 0 8 = nI nn ∧ ∀ k, k < 3 → N 23 0 k = nI (ss k) ∧ N 24 0 k = nI (gg k)
def tc (c a s : Nat) : Bool := match a with
  | 20 => match s with
    | 3 => true
    | 4 => true
    | 5 => true
    | _ => false
  | 22 => decide (5 * c ≤ s) && decide (s < 5 * c + 5)
  | _ => false
def tf (c a s : Nat) : Bool := match a with
  | 20 => match s with
    | 3 => true
    | 4 => true
    | 5 => true
    | 7 => true
    | 8 => true
    | _ => false
  | 22 => decide (5 * c ≤ s) && decide (s < 5 * c + 5)
  | 23 => true
  | 24 => true
  | _ => false
theorem S20_c {c : Nat} : ∀ a s, S20 a s = true → tc c a s = true := by
  intro a s h
  unfold S20 at h
  split at h
  · split at h
    · rfl
    · rfl
    · rfl
    · cases h
  · cases h
theorem tc_f {c : Nat} : ∀ a s, tc c a s = true → tf c a s = true := by
  intro a s h
  unfold tc at h
  split at h
  · split at h
    · rfl
    · rfl
    · rfl
    · cases h
  · exact h
  · cases h
theorem tc_22 {c s : Nat} (h : 5 * c ≤ s ∧ s < 5 * c + 5) : tc c 22 s = true := by
  show (decide (5 * c ≤ s) && decide (s < 5 * c + 5)) = true
  rw [decide_eq_true h.1, decide_eq_true h.2]; rfl
section
variable {E : am_E} {M N : am_M} {X : Nat → Nat} {l : Nat}
theorem c_clauseAt {x : Nat} (hx : x < 120) : am_run (am_I2 E) mI_Re_clauseAt [.inr (.inl (some (20, 0))), .inl (nI x)] M = some (some (.inl (M 22 0 x)), M) := by
  rw [rq_Re_clauseAt, c_isPlace_s (y := 120) (n := 120) rfl hx (by decide), z_bI, if_neg z_ne10, z_in hx (by omega), z_if, z_ix (by omega)]
theorem c_goalOf {k : Nat} (hk : k < 3) : am_run (am_I2 E) mI_Re_goalOf [.inr (.inl (some (20, 0))), .inl (nI k)] M = some (some (.inl (M 24 0 k)), M) := by
  rw [rq_Re_goalOf, c_isPlace_s (y := 3) (n := 3) rfl hk (by decide), z_bI, if_neg z_ne10, z_in hk (by omega), z_if, z_ix (by omega)]
theorem c_sourceOf {k : Nat} (hk : k < 3) : am_run (am_I2 E) mI_Re_sourceOf [.inr (.inl (some (20, 0))), .inl (nI k)] M = some (some (.inl (M 23 0 k)), M) := by
  rw [rq_Re_sourceOf, c_isPlace_s (y := 3) (n := 3) rfl hk (by decide), z_bI, if_neg z_ne10, z_in hk (by omega), z_if, z_ix (by omega)]
theorem c_numberFits {c w i nn v : Nat} {ss gg vs : Nat → Nat} (hc : c < 24) (hw : w < 6) (hi : i < cnt w) (hv : v ≤ 9) (hb : bd nn ss gg) (hD : tD nn ss gg M) (h0 : M 22 0 (5 * c) = nI w) (hvs : ∀ x, x < i → M 22 0 (5 * c + 1 + x) = nI (vs x)) (hvs9 : ∀ x, x < i → vs x ≤ 9) (hi1 : M 22 0 (5 * c + 1 + i) = nI v) (h3 : 2 ≤ w → 1 ≤ i → vs 0 < 3) : am_run (am_I2 E) mI_Re_numberFits [.inr (.inl (some (20, 0))), .inl (nI (5 * c)), .inl (nI (i + 1))] M = some (some (.inl (aI (chk w nn ss gg i vs v))), M) := by
  have hcnt : ∀ w, w < 6 → cnt w ≤ 4 := by decide
  have hc4 := hcnt w hw
  obtain ⟨hb1, hb2⟩ := hb
  have a1 : nI (5 * c) + 1 = nI (5 * c + 1) := nI_1 _
  have a2 : nI (5 * c) + nI (i + 1) = nI (5 * c + 1 + i) := by rw [nI_add]; congr 1; omega
  have a3 : nI (5 * c + 1 + i) - 1 = nI (5 * c + i) := by
    have := nI_pred (5 * c + i)
    rw [show 5 * c + i + 1 = 5 * c + 1 + i by omega] at this
    exact this
  have hz : ∀ b : Bool, am_z (aI b) = true := by decide
  have to59 : am_run (am_I2 E) mI_Re_numberFits [.inr (.inl (some (20, 0))), .inl (nI (5 * c)), .inl (nI (i + 1))] M = am_ex (am_I2 E) mI_Re_numberFits 59 [some (.inr (.inl (some (20, 0)))), some (.inl (nI (5 * c))), some (.inl (nI (i + 1))), some (.inl (nI w)), some (.inl (M 22 0 (5 * c + 1))), some (.inl (nI v)), some (.inl (aI (decide (v < nn)))), none, none, none] [.inl (aI (!decide (nI v = M 22 0 (5 * c + i))))] M := by
    rw [rq_Re_numberFits, c_clauseAt (by omega), z_bI, a1, c_clauseAt (by omega), z_bI, a2, c_clauseAt (by omega), z_bI, h0, hi1, hD.1]
    have s38 : ∀ b : Bool, am_ex (am_I2 E) mI_Re_numberFits 38 [some (.inr (.inl (some (20, 0)))), some (.inl (nI (5 * c))), some (.inl (nI (i + 1))), some (.inl (nI w)), some (.inl (M 22 0 (5 * c + 1))), some (.inl (nI v)), none, none, none, none] [.inl (aI b)] M = am_ex (am_I2 E) mI_Re_numberFits 59 [some (.inr (.inl (some (20, 0)))), some (.inl (nI (5 * c))), some (.inl (nI (i + 1))), some (.inl (nI w)), some (.inl (M 22 0 (5 * c + 1))), some (.inl (nI v)), some (.inl (aI b)), none, none, none] [.inl (aI (!decide (nI v = M 22 0 (5 * c + i))))] M := by
      intro b
      rw [eq_Re_numberFits_38, a2, a3, c_clauseAt (by omega), z_bI]
      by_cases e : nI v = M 22 0 (5 * c + i)
      · rw [if_pos e, decide_eq_true e]; rfl
      · rw [if_neg e, decide_eq_false e]; rfl
    by_cases e : v < nn
    · rw [if_pos (nI_lt e (by omega)), decide_eq_true e]
      exact s38 true
    · rw [if_neg (nI_nlt (by omega) (by omega)), decide_eq_false e]
      exact s38 false
  rw [to59, eq_Re_numberFits_59]
  have hv10 : v = 0 ∨ v = 1 ∨ v = 2 ∨ v = 3 ∨ v = 4 ∨ v = 5 ∨ v = 6 ∨ v = 7 ∨ v = 8 ∨ v = 9 := by omega
  have un : ∀ x, x < i → 1 ≤ i → x + 1 = i → decide (nI v = M 22 0 (5 * c + i)) = decide (v = vs x) := by
    intro x hx _ hxi
    have := hvs x hx
    rw [show 5 * c + 1 + x = 5 * c + i by omega] at this
    rw [this]
    have h9 := hvs9 x hx
    exact decide_eq_decide.mpr (nI_eq (by omega) (by omega))
  have pair : ∀ (a b : Bool), (if aI a = 0 then (some (some (.inl 0), M) : Option (Option am_V × am_M)) else if aI b = 0 then some (some (.inl 0), M) else some (some (.inl 1), M)) = some (some (.inl (aI (a && b))), M) := by
    intro a b
    cases a <;> cases b <;> rfl
  have hfst : 1 ≤ i → M 22 0 (5 * c + 1) = nI (vs 0) := fun h => hvs 0 (by omega)
  have lt3 : (if nI v < 3 then (some (some (.inl 1), M) : Option (Option am_V × am_M)) else some (some (.inl 0), M)) = some (some (.inl (aI (decide (v < 3)))), M) := by
    rcases hv10 with rfl | rfl | rfl | rfl | rfl | rfl | rfl | rfl | rfl | rfl <;> rfl
  have hw6 : w = 0 ∨ w = 1 ∨ w = 2 ∨ w = 3 ∨ w = 4 ∨ w = 5 := by omega
  -- goals and sources
  have gs : 2 ≤ w → 1 ≤ i → ∀ (k3 : Int32) (b : Bool), (k3 = 3 ∧ b = true ∨ k3 ≠ 3 ∧ b = false) → (am_bI (am_run (am_I2 E) mI_Re_goalOf [.inr (.inl (some (20, 0))), .inl (M 22 0 (5 * c + 1))] M) (fun v4 M4 => if nI v = v4 then (am_bI (am_run (am_I2 E) mI_Re_sourceOf [.inr (.inl (some (20, 0))), .inl (M 22 0 (5 * c + 1))] M4) (fun v5 M5 => if nI v = v5 then (if aI (decide (v < nn)) = 0 then (some (some (.inl 0), M5)) else (if 1 = 0 then (if k3 = 3 then (if 1 = 0 then (some (some (.inl 1), M5)) else (some (some (.inl 0), M5))) else (some (some (.inl 1), M5))) else (some (some (.inl 0), M5)))) else (if aI (decide (v < nn)) = 0 then (some (some (.inl 0), M5)) else (if 1 = 0 then (if k3 = 3 then (if 0 = 0 then (some (some (.inl 1), M5)) else (some (some (.inl 0), M5))) else (some (some (.inl 1), M5))) else (some (some (.inl 0), M5)))))) else (am_bI (am_run (am_I2 E) mI_Re_sourceOf [.inr (.inl (some (20, 0))), .inl (M 22 0 (5 * c + 1))] M4) (fun v6 M6 => if nI v = v6 then (if aI (decide (v < nn)) = 0 then (some (some (.inl 0), M6)) else (if 0 = 0 then (if k3 = 3 then (if 1 = 0 then (some (some (.inl 1), M6)) else (some (some (.inl 0), M6))) else (some (some (.inl 1), M6))) else (some (some (.inl 0), M6)))) else (if aI (decide (v < nn)) = 0 then (some (some (.inl 0), M6)) else (if 0 = 0 then (if k3 = 3 then (if 0 = 0 then (some (some (.inl 1), M6)) else (some (some (.inl 0), M6))) else (some (some (.inl 1), M6))) else (some (some (.inl 0), M6))))))) : Option (Option am_V × am_M)) = some (some (.inl (aI (decide (v < nn) && ((!b || !decide (v = ss (vs 0))) && !decide (v = gg (vs 0)))))), M) := by
    intro h2 h1 k3 b hk
    have hv03 := h3 h2 h1
    rw [hfst h1, c_goalOf hv03, z_bI, c_sourceOf hv03, z_bI, z_bI, (hD.2 _ hv03).1, (hD.2 _ hv03).2]
    have hs8 := (hb2 _ hv03).1
    have hg8 := (hb2 _ hv03).2
    have e1 : (nI v = nI (gg (vs 0))) ↔ v = gg (vs 0) := nI_eq (by omega) (by omega)
    have e2 : (nI v = nI (ss (vs 0))) ↔ v = ss (vs 0) := nI_eq (by omega) (by omega)
    simp only [e1, e2]
    rcases hk with ⟨k1, k2⟩ | ⟨k1, k2⟩
    · subst k1; subst k2
      by_cases x1 : v = gg (vs 0) <;> by_cases x2 : v = ss (vs 0) <;> by_cases x3 : v < nn <;> simp [x1, x2, x3, aI]
    · subst k2
      by_cases x1 : v = gg (vs 0)
      · rw [if_pos x1, decide_eq_true x1]
        by_cases x2 : v = ss (vs 0)
        · rw [if_pos x2, decide_eq_true x2]
          generalize decide (v < nn) = b3
          cases b3 <;> simp [aI, k1]
        · rw [if_neg x2, decide_eq_false x2]
          generalize decide (v < nn) = b3
          cases b3 <;> simp [aI, k1]
      · rw [if_neg x1, decide_eq_false x1]
        by_cases x2 : v = ss (vs 0)
        · rw [if_pos x2, decide_eq_true x2]
          generalize decide (v < nn) = b3
          cases b3 <;> simp [aI, k1]
        · rw [if_neg x2, decide_eq_false x2]
          generalize decide (v < nn) = b3
          cases b3 <;> simp [aI, k1]
  rcases hw6 with rfl | rfl | rfl | rfl | rfl | rfl
  · have hi0 : i = 0 := by have : cnt 0 = 1 := rfl; omega
    subst hi0
    rw [if_pos (by decide)]
    show _ = (some (some (.inl (aI (decide (2 ≤ v ∧ v ≤ 8)))), M) : Option (Option am_V × am_M))
    rcases hv10 with rfl | rfl | rfl | rfl | rfl | rfl | rfl | rfl | rfl | rfl <;> rfl
  · have hi3 : i = 0 ∨ i = 1 ∨ i = 2 := by have : cnt 1 = 3 := rfl; omega
    rw [if_neg (by decide), if_pos (by decide)]
    rcases hi3 with rfl | rfl | rfl
    · rw [if_pos (by decide), hz, z_if]
      rfl
    · rw [if_neg (by decide), if_pos (by decide), pair, un 0 (by omega) (by omega) rfl]
      rfl
    · rw [if_neg (by decide), if_neg (by decide), if_pos (show nI v ≤ 9 from nI_le (b := 9) hv (by omega))]
      rfl
  · have hi4 : i = 0 ∨ i = 1 ∨ i = 2 ∨ i = 3 := by have : cnt 2 = 4 := rfl; omega
    rw [if_neg (by decide), if_neg (by decide)]
    rcases hi4 with rfl | rfl | rfl | rfl
    · rw [if_pos (by decide), lt3]
      rfl
    · rw [if_neg (by decide), if_pos (by decide), if_neg (by decide), if_neg (by decide), if_pos (by decide), hz, z_if]
      rfl
    · rw [if_neg (by decide), if_pos (by decide), if_neg (by decide), if_pos (by decide), pair, un 1 (by omega) (by omega) rfl]
      rfl
    · rw [if_neg (by decide), if_pos (by decide), if_pos (by decide)]
      show _ = (some (some (.inl (aI (decide (1 ≤ v)))), M) : Option (Option am_V × am_M))
      rcases hv10 with rfl | rfl | rfl | rfl | rfl | rfl | rfl | rfl | rfl | rfl <;> rfl
  · have hi2 : i = 0 ∨ i = 1 := by have : cnt 3 = 2 := rfl; omega
    rw [if_neg (by decide), if_neg (by decide)]
    rcases hi2 with rfl | rfl
    · rw [if_pos (by decide), lt3]
      rfl
    · rw [if_neg (by decide), if_neg (by decide), if_neg (by decide), if_neg (by decide)]
      refine Eq.trans (gs (by omega) (by omega) (nI 3) true (Or.inl ⟨rfl, rfl⟩)) ?_
      show _ = (some (some (.inl (aI (decide (v < nn) && (!decide (v = ss (vs 0)) && !decide (v = gg (vs 0)))))), M) : Option (Option am_V × am_M))
      rfl
  · have hi3 : i = 0 ∨ i = 1 ∨ i = 2 := by have : cnt 4 = 3 := rfl; omega
    rw [if_neg (by decide), if_neg (by decide)]
    rcases hi3 with rfl | rfl | rfl
    · rw [if_pos (by decide), lt3]
      rfl
    · rw [if_neg (by decide), if_neg (by decide), if_neg (by decide), if_neg (by decide)]
      refine Eq.trans (gs (by omega) (by omega) (nI 4) false (Or.inr ⟨by decide, rfl⟩)) ?_
      show _ = (some (some (.inl (aI (decide (v < nn) && !decide (v = gg (vs 0))))), M) : Option (Option am_V × am_M))
      rfl
    · rw [if_neg (by decide), if_neg (by decide), if_pos (by decide), pair, un 1 (by omega) (by omega) rfl]
      rfl
  · have hi3 : i = 0 ∨ i = 1 ∨ i = 2 := by have : cnt 5 = 3 := rfl; omega
    rw [if_neg (by decide), if_neg (by decide)]
    rcases hi3 with rfl | rfl | rfl
    · rw [if_pos (by decide), lt3]
      rfl
    · rw [if_neg (by decide), if_neg (by decide), if_neg (by decide), if_neg (by decide)]
      refine Eq.trans (gs (by omega) (by omega) (nI 5) false (Or.inr ⟨by decide, rfl⟩)) ?_
      show _ = (some (some (.inl (aI (decide (v < nn) && !decide (v = gg (vs 0))))), M) : Option (Option am_V × am_M))
      rfl
    · rw [if_neg (by decide), if_neg (by decide), if_pos (by decide), pair, un 1 (by omega) (by omega) rfl]
      rfl
end
