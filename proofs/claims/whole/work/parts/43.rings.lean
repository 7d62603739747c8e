/-! rings; room on a walk -/
noncomputable def pb (P : Prop) : Bool := @decide P (Classical.propDecidable P)
theorem pb_t {P : Prop} (h : P) : pb P = true := @decide_eq_true P (Classical.propDecidable P) h
theorem pb_f {P : Prop} (h : ¬ P) : pb P = false := @decide_eq_false P (Classical.propDecidable P) h
theorem pb_congr {P Q : Prop} (h : P ↔ Q) : pb P = pb Q := by rw [propext h]
theorem aI_t : aI true = 1 := rfl
theorem aI_f : aI false = 0 := rfl
def it (r : Nat → Option Nat) : Nat → Nat → Option Nat
  | 0, u => some u
  | k + 1, u => match r u with
    | none => none
    | some v => it r k v
theorem it_1 (r : Nat → Option Nat) (u : Nat) : it r 1 u = r u := by
  show (match r u with | none => none | some v => some v) = r u
  cases r u <;> rfl
theorem it_n {r : Nat → Option Nat} {k u : Nat} (h : r u = none) : it r (k + 1) u = none := by
  show (match r u with | none => none | some v => it r k v) = none
  rw [h]
theorem it_s {r : Nat → Option Nat} {k u v : Nat} (h : r u = some v) : it r (k + 1) u = it r k v := by
  show (match r u with | none => none | some v => it r k v) = _
  rw [h]
theorem it_add_n {r : Nat → Option Nat} {k m u : Nat} (h : it r k u = none) : it r (k + m) u = none := by
  induction k generalizing u with
  | zero => cases h
  | succ k ih =>
    rw [show k + 1 + m = (k + m) + 1 by omega]
    cases e : r u with
    | none => exact it_n e
    | some v => rw [it_s e] at h ⊢; exact ih h
theorem it_add_s {r : Nat → Option Nat} {k m u a : Nat} (h : it r k u = some a) : it r (k + m) u = it r m a := by
  induction k generalizing u with
  | zero => cases h; rw [Nat.zero_add]
  | succ k ih =>
    rw [show k + 1 + m = (k + m) + 1 by omega]
    cases e : r u with
    | none => rw [it_n e] at h; cases h
    | some v => rw [it_s e] at h ⊢; exact ih h
def Rg (r : Nat → Option Nat) (n : Nat) : Prop := ∃ u k, u < n ∧ 1 ≤ k ∧ k ≤ 8 ∧ it r k u = some u
/-- who goes in a ring never ends -/
theorem ring_go {r : Nat → Option Nat} {u k : Nat} (hk : 1 ≤ k) (h : it r k u = some u) : ∀ m, it r m u ≠ none := by
  have h1 : ∀ j, it r (j * k) u = some u := by
    intro j
    induction j with
    | zero => rw [Nat.zero_mul]; rfl
    | succ j ih => rw [Nat.succ_mul, it_add_s ih]; exact h
  intro m hm
  have h2 : it r (m + (m * k - m)) u = none := it_add_n hm
  have h3 : m ≤ m * k := Nat.le_mul_of_pos_right m hk
  rw [show m + (m * k - m) = m * k by omega, h1 m] at h2
  cases h2
def rr (B : am_M) (k : Nat) (x : Int32) (u : Nat) : Option Nat := rN (rl (B 5 k) (B 6 k) x u)
section
variable {E : am_E} {M B : am_M} {c : Nat}
theorem rr_cell {n s g z k u : Nat} {x : Int32} (hn : n ≤ 8) (hG : iG n s g z k B) (hu : u < 8) : rl (B 5 k) (B 6 k) x u = oI (rr B k x u) ∧ ∀ v, rr B k x u = some v → v < n ∧ u < n := by
  obtain ⟨g0, g1, g2, g3, g4, g5⟩ := hG
  unfold rr
  rcases rok_N (rok_rl (s := x) ((g5 u hu).2)) hn with ⟨h1, h2⟩ | ⟨v, hv, -, hu2, -, h1, h2⟩
  · rw [h2]
    exact ⟨h1, fun v w => by cases w⟩
  · rw [h2]
    exact ⟨h1, fun v' w => by cases w; exact ⟨hv, hu2⟩⟩
theorem c_ringless {n s g z k : Nat} {x : Int32} (hn : n ≤ 8) (hG : iG n s g z k B) (hf : fr B M) : am_run (am_I2 E) mI_Ju_isRingless [.inr (.inl (some (8, 0))), .inr (.inl (some (4, k))), .inl x] M = some (some (.inl (aI (pb (¬ Rg (rr B k x) n)))), M) := by
  rw [rq_Ju_isRingless]
  have e5 : M 5 k = B 5 k := funext (fun y => hf 5 k y rfl)
  have e6 : M 6 k = B 6 k := funext (fun y => hf 6 k y rfl)
  have inner : ∀ j tr (at' : Option Nat) fi i, 8 ≤ pcN tr 8 + j → (∀ a, at' = some a → a < 8) → fi < 256 → tr < 256 → (∀ u, tr.testBit u = true → ∃ m, 1 ≤ m ∧ m ≤ pcN tr 8 ∧ it (rr B k x) m u = at') → (∀ u, fi.testBit u = true → ∃ m, it (rr B k x) m u = none) → (tr = 0 → at' = some i) → (Rg (rr B k x) n ∧ am_ex (am_I2 E) mI_Ju_isRingless 22 [some (.inr (.inl (some (8, 0)))), some (.inr (.inl (some (4, k)))), some (.inl x), some (.inl (nI fi)), some (.inl (nI i)), some (.inl (nI tr)), some (.inl (oI at')), some (.inl (nI (pcN tr 8)))] [] M = some (some (.inl 0), M)) ∨ ∃ tr' u5 u6 u7, tr' < 256 ∧ (∀ u, tr.testBit u = true → tr'.testBit u = true) ∧ (∀ u, (fi ||| tr').testBit u = true → ∃ m, it (rr B k x) m u = none) ∧ (tr = 0 → (fi ||| tr').testBit i = true) ∧ am_ex (am_I2 E) mI_Ju_isRingless 22 [some (.inr (.inl (some (8, 0)))), some (.inr (.inl (some (4, k)))), some (.inl x), some (.inl (nI fi)), some (.inl (nI i)), some (.inl (nI tr)), some (.inl (oI at')), some (.inl (nI (pcN tr 8)))] [] M = am_ex (am_I2 E) mI_Ju_isRingless 5 [some (.inr (.inl (some (8, 0)))), some (.inr (.inl (some (4, k)))), some (.inl x), some (.inl (nI (fi ||| tr'))), some (.inl (nI (i + 1))), u5, u6, u7] [] M := by
    intro j
    induction j with
    | zero =>
      intro tr at' fi i hj ha hfi htr hT hF h0
      have hp8 := pcN_le1 tr 8
      have h8 : nI (pcN tr 8) ≤ 8 := nI_le (b := 8) hp8 (by omega)
      rw [eq_Ju_isRingless_22, if_pos h8]
      cases hat : at' with
      | none =>
        right
        refine ⟨tr, some (.inl (nI tr)), some (.inl (-1)), some (.inl (nI (pcN tr 8))), htr, fun u hu => hu, fun u hu => ?_, fun w => ?_, ?_⟩
        · rw [Nat.testBit_or, Bool.or_eq_true] at hu
          rcases hu with hu | hu
          · exact hF u hu
          · obtain ⟨m, -, -, hm⟩ := hT u hu
            exact ⟨m, hm.trans hat⟩
        · have := h0 w; rw [hat] at this; cases this
        · rw [oI_none, if_pos rfl, nI_or, nI_1]
      | some a =>
        have ha8 := ha a hat
        have htra : tr.testBit a = true := pcN_full (by omega) ha8
        obtain ⟨m, hm1, hm2, hm⟩ := hT a htra
        rw [oI_some, if_neg (nI_m1 (by omega))]
        cases hfa : fi.testBit a with
        | true =>
          exfalso
          obtain ⟨q, hq⟩ := hF a hfa
          exact ring_go hm1 (hm.trans hat) q hq
        | false =>
          left
          have hne : ¬ nI tr &&& (1 : Int32) <<< (nI a &&& 31) = 0 := fun w => by
            have := (bt_ne0 (by omega)).mp w
            rw [bt_nI _ _ (by omega), htra] at this
            cases this
          refine ⟨⟨a, m, ?_, hm1, by omega, hm.trans hat⟩, ?_⟩
          · obtain ⟨-, h2⟩ := rr_cell (x := x) hn hG ha8
            cases e : rr B k x a with
            | none =>
              have := it_n (k := m - 1) e
              rw [show m - 1 + 1 = m by omega, hm, hat] at this
              cases this
            | some v => exact (h2 v e).2
          · rw [if_pos ((bt_ne0 (by omega)).mpr (by rw [bt_nI _ _ (by omega)]; exact hfa)), if_neg hne]
    | succ j ih =>
      intro tr at' fi i hj ha hfi htr hT hF h0
      have hp8 := pcN_le1 tr 8
      have h8 : nI (pcN tr 8) ≤ 8 := nI_le (b := 8) hp8 (by omega)
      rw [eq_Ju_isRingless_22, if_pos h8]
      cases hat : at' with
      | none =>
        right
        refine ⟨tr, some (.inl (nI tr)), some (.inl (-1)), some (.inl (nI (pcN tr 8))), htr, fun u hu => hu, fun u hu => ?_, fun w => ?_, ?_⟩
        · rw [Nat.testBit_or, Bool.or_eq_true] at hu
          rcases hu with hu | hu
          · exact hF u hu
          · obtain ⟨m, -, -, hm⟩ := hT u hu
            exact ⟨m, hm.trans hat⟩
        · have := h0 w; rw [hat] at this; cases this
        · rw [oI_none, if_pos rfl, nI_or, nI_1]
      | some a =>
        have ha8 := ha a hat
        rw [oI_some, if_neg (nI_m1 (by omega))]
        cases hfa : fi.testBit a with
        | true =>
          have hne : ¬ nI fi &&& (1 : Int32) <<< (nI a &&& 31) = 0 := fun w => by
            have := (bt_ne0 (by omega)).mp w
            rw [bt_nI _ _ (by omega), hfa] at this
            cases this
          right
          refine ⟨tr, some (.inl (nI tr)), some (.inl (nI a)), some (.inl (nI (pcN tr 8))), htr, fun u hu => hu, fun u hu => ?_, fun w => ?_, ?_⟩
          · rw [Nat.testBit_or, Bool.or_eq_true] at hu
            rcases hu with hu | hu
            · exact hF u hu
            · obtain ⟨m, -, -, hm⟩ := hT u hu
              obtain ⟨q, hq⟩ := hF a hfa
              exact ⟨m + q, (it_add_s (hm.trans hat)).trans hq⟩
          · have := h0 w; rw [hat] at this; cases this
            rw [Nat.testBit_or, hfa]; rfl
          · rw [if_neg hne, nI_or, nI_1]
        | false =>
          rw [if_pos ((bt_ne0 (by omega)).mpr (by rw [bt_nI _ _ (by omega)]; exact hfa))]
          cases htra : tr.testBit a with
          | true =>
            obtain ⟨m, hm1, hm2, hm⟩ := hT a htra
            left
            have hne : ¬ nI tr &&& (1 : Int32) <<< (nI a &&& 31) = 0 := fun w => by
              have := (bt_ne0 (by omega)).mp w
              rw [bt_nI _ _ (by omega), htra] at this
              cases this
            refine ⟨⟨a, m, ?_, hm1, by omega, hm.trans hat⟩, ?_⟩
            · obtain ⟨-, h2⟩ := rr_cell (x := x) hn hG ha8
              cases e : rr B k x a with
              | none =>
                have := it_n (k := m - 1) e
                rw [show m - 1 + 1 = m by omega, hm, hat] at this
                cases this
              | some v => exact (h2 v e).2
            · rw [if_neg hne]
          | false =>
            have hpn := pcN_new htra 8
            rw [if_pos ha8] at hpn
            have ha2 : (2 ^ a) < 256 := Nat.lt_of_lt_of_le (Nat.pow_lt_pow_right (by omega) ha8) (by decide)
            obtain ⟨hc1, hc2⟩ := rr_cell (x := x) hn hG ha8
            rw [if_pos ((bt_ne0 (by omega)).mpr (by rw [bt_nI _ _ (by omega)]; exact htra)), c_ruleAt ha8, z_bI, e5, e6, hc1, nI_shl ha8, nI_or, nI_1]
            have hih := ih (tr ||| 2 ^ a) (rr B k x a) fi i (by omega) (fun v hv => by have := (hc2 v hv).1; omega) hfi (or_lt htr ha2) (fun u hu => by
              rw [Nat.testBit_or, Bool.or_eq_true] at hu
              rcases hu with hu | hu
              · obtain ⟨m, hm1, hm2, hm⟩ := hT u hu
                exact ⟨m + 1, by omega, by omega, by rw [it_add_s (hm.trans hat), it_1]⟩
              · rw [Nat.testBit_two_pow, decide_eq_true_eq] at hu
                subst hu
                exact ⟨1, by omega, by omega, it_1 _ _⟩) hF (fun w => by
                exfalso
                have := congrArg (fun q => q.testBit a) w
                simp only [Nat.testBit_or, Nat.testBit_two_pow, Nat.zero_testBit, decide_true, Bool.or_true] at this
                cases this)
            rw [hpn] at hih
            rcases hih with ⟨r1, r2⟩ | ⟨tr', u5, u6, u7, q1, q2, q3, q4, q5⟩
            · exact Or.inl ⟨r1, r2⟩
            · right
              refine ⟨tr', u5, u6, u7, q1, fun u hu => q2 u (by rw [Nat.testBit_or, hu]; rfl), q3, fun w => ?_, q5⟩
              have hai := h0 w
              rw [hat] at hai
              rw [← Option.some.inj hai, Nat.testBit_or, q2 a (by rw [Nat.testBit_or, Nat.testBit_two_pow]; simp), Bool.or_true]
  have outer : ∀ j i fi u5 u6 u7, i + j = 8 → fi < 256 → (∀ u, fi.testBit u = true → ∃ m, it (rr B k x) m u = none) → (∀ u, u < i → fi.testBit u = true) → am_ex (am_I2 E) mI_Ju_isRingless 5 [some (.inr (.inl (some (8, 0)))), some (.inr (.inl (some (4, k)))), some (.inl x), some (.inl (nI fi)), some (.inl (nI i)), u5, u6, u7] [] M = some (some (.inl (aI (pb (¬ Rg (rr B k x) n)))), M) := by
    intro j
    induction j with
    | zero =>
      intro i fi u5 u6 u7 hi hfi hF hall
      have h8 : ¬ nI i < 8 := nI_nlt (b := 8) (by omega) (by omega)
      rw [eq_Ju_isRingless_5, if_neg h8, pb_t]
      · rfl
      · rintro ⟨u, m, hu, hm1, hm2, hm⟩
        obtain ⟨q, hq⟩ := hF u (hall u (by omega))
        exact ring_go hm1 hm q hq
    | succ j ih =>
      intro i fi u5 u6 u7 hi hfi hF hall
      have h8 : nI i < 8 := nI_lt (b := 8) (by omega) (by omega)
      rw [eq_Ju_isRingless_5, if_pos h8]
      rcases inner 8 0 (some i) fi i (by omega) (fun a ha => by cases ha; omega) hfi (by omega) (fun u hu => by rw [Nat.zero_testBit] at hu; cases hu) hF (fun _ => rfl) with ⟨r1, r2⟩ | ⟨tr', v5, v6, v7, q1, q2, q3, q4, q5⟩
      · rw [pb_f (fun w => w r1)]
        exact r2
      · refine Eq.trans q5 (ih (i + 1) (fi ||| tr') v5 v6 v7 (by omega) (or_lt hfi q1) q3 (fun u hu => ?_))
        by_cases e : u = i
        · subst e; exact q4 rfl
        · rw [Nat.testBit_or, hall u (by omega)]; rfl
  exact outer 8 0 0 none none none rfl (by omega) (fun u hu => by rw [Nat.zero_testBit] at hu; cases hu) (fun u hu => absurd hu (by omega))
theorem m_ring {n s g z k : Nat} {x : Int32} (hk : k < 3) (hN : iN n B) (hG : iG n s g z k B) (hf : fr B M) : am_run (am_I2 E) mI_Mo_isRing [.inr (.inl (some (25, 0))), .inl (nI k), .inl x] M = some (some (.inl (aI (pb (Rg (rr B k x) n)))), M) := by
  have hn := hN.1
  have eN : M 25 0 0 = nI n := (hf 25 0 0 rfl).trans hN.2.2
  have rule : ∀ u, u < 8 → am_run (am_I2 E) mI_Mo_ruleBy [.inr (.inl (some (25, 0))), .inl (nI k), .inl (nI u), .inl x] M = some (some (.inl (oI (rr B k x u))), M) := by
    intro u hu
    have e31 : M 31 0 (8 * k + u) = B 5 k u := (hf 31 0 _ rfl).trans (hG.2.2.2.2.2 u hu).1.1.symm
    have e32 : M 32 0 (8 * k + u) = B 6 k u := (hf 32 0 _ rfl).trans (hG.2.2.2.2.2 u hu).1.2.symm
    rw [m_ruleBy hk hu, rl_congr (o := fun u => M 31 0 (8 * k + u)) (w := fun u => M 32 0 (8 * k + u)) (o' := B 5 k) (w' := B 6 k) x ⟨e31, e32⟩, (rr_cell (x := x) hn.2 hG hu).1]
  rw [rq_Mo_isRing]
  have inner : ∀ j i u (b : Bool), i + j = 8 → u < n → ∃ u5 u6, am_ex (am_I2 E) mI_Mo_isRing 27 [some (.inr (.inl (some (25, 0)))), some (.inl (nI k)), some (.inl x), some (.inl (aI b)), some (.inl (nI u)), some (.inl (oI (it (rr B k x) (i + 1) u))), some (.inl (nI i))] [] M = am_ex (am_I2 E) mI_Mo_isRing 5 [some (.inr (.inl (some (25, 0)))), some (.inl (nI k)), some (.inl x), some (.inl (aI (b || pb (∃ m, i + 1 ≤ m ∧ m ≤ 8 ∧ it (rr B k x) m u = some u)))), some (.inl (nI (u + 1))), u5, u6] [] M := by
    intro j
    induction j with
    | zero =>
      intro i u b hi hu
      have h8 : ¬ nI i < 8 := nI_nlt (b := 8) (by omega) (by omega)
      rw [eq_Mo_isRing_27, if_neg h8, nI_1, pb_f (fun w => by obtain ⟨m, h1, h2, -⟩ := w; omega), Bool.or_false]
      exact ⟨_, _, rfl⟩
    | succ j ih =>
      intro i u b hi hu
      have h8 : nI i < 8 := nI_lt (b := 8) (by omega) (by omega)
      rw [eq_Mo_isRing_27, if_pos h8]
      cases hat : it (rr B k x) (i + 1) u with
      | none =>
        rw [oI_none, if_pos rfl, nI_1, pb_f (fun w => by
          obtain ⟨m, h1, h2, h3⟩ := w
          have := it_add_n (m := m - (i + 1)) hat
          rw [show i + 1 + (m - (i + 1)) = m by omega, h3] at this
          cases this), Bool.or_false]
        exact ⟨_, _, rfl⟩
      | some a =>
        have ha : a < 8 := by
          have : ∀ m u, u < 8 → ∀ a, it (rr B k x) m u = some a → a < 8 := by
            intro m
            induction m with
            | zero => intro u hu a h; cases h; exact hu
            | succ m ihm =>
              intro u hu a h
              cases e : rr B k x u with
              | none => rw [it_n e] at h; cases h
              | some v =>
                rw [it_s e] at h
                exact ihm v (by have := ((rr_cell (x := x) hn.2 hG hu).2 v e).1; omega) a h
          exact this (i + 1) u (by omega) a hat
        have hnext : oI (rr B k x a) = oI (it (rr B k x) (i + 1 + 1) u) := by rw [it_add_s hat, it_1]
        rw [oI_some, if_neg (nI_m1 (by omega)), rule a ha, z_bI, z_bI, nI_1, hnext]
        have fold : ∀ b' : Bool, b' = (b || decide (a = u)) → ∃ u5 u6, am_ex (am_I2 E) mI_Mo_isRing 27 [some (.inr (.inl (some (25, 0)))), some (.inl (nI k)), some (.inl x), some (.inl (aI b')), some (.inl (nI u)), some (.inl (oI (it (rr B k x) (i + 1 + 1) u))), some (.inl (nI (i + 1)))] [] M = am_ex (am_I2 E) mI_Mo_isRing 5 [some (.inr (.inl (some (25, 0)))), some (.inl (nI k)), some (.inl x), some (.inl (aI (b || pb (∃ m, i + 1 ≤ m ∧ m ≤ 8 ∧ it (rr B k x) m u = some u)))), some (.inl (nI (u + 1))), u5, u6] [] M := by
          intro b' hb'
          obtain ⟨u5, u6, q⟩ := ih (i + 1) u b' (by omega) hu
          refine ⟨u5, u6, ?_⟩
          rw [q]
          have hb2 : (b' || pb (∃ m, i + 1 + 1 ≤ m ∧ m ≤ 8 ∧ it (rr B k x) m u = some u)) = (b || pb (∃ m, i + 1 ≤ m ∧ m ≤ 8 ∧ it (rr B k x) m u = some u)) := by
            rw [hb', Bool.or_assoc]
            congr 1
            by_cases e : a = u
            · subst e
              rw [decide_eq_true rfl, Bool.true_or, pb_t ⟨i + 1, by omega, by omega, hat⟩]
            · rw [decide_eq_false e, Bool.false_or]
              apply pb_congr
              constructor
              · rintro ⟨m, h1, h2, h3⟩; exact ⟨m, by omega, h2, h3⟩
              · rintro ⟨m, h1, h2, h3⟩
                refine ⟨m, ?_, h2, h3⟩
                by_cases em : m = i + 1
                · rw [em, hat] at h3; exact absurd (Option.some.inj h3) e
                · omega
          rw [hb2]
        cases b with
        | true =>
          rw [aI_t, if_neg z_ne10]
          exact fold true rfl
        | false =>
          rw [aI_f, if_pos rfl]
          by_cases e : a = u
          · rw [if_pos (by rw [e])]
            exact fold true (by rw [decide_eq_true e]; rfl)
          · rw [if_neg (fun w => e ((nI_eq (by omega) (by omega)).mp w))]
            exact fold false (by rw [decide_eq_false e]; rfl)
  have outer : ∀ j u b u5 u6, u + j = n → b = pb (∃ y m, y < u ∧ 1 ≤ m ∧ m ≤ 8 ∧ it (rr B k x) m y = some y) → am_ex (am_I2 E) mI_Mo_isRing 5 [some (.inr (.inl (some (25, 0)))), some (.inl (nI k)), some (.inl x), some (.inl (aI b)), some (.inl (nI u)), u5, u6] [] M = some (some (.inl (aI (pb (Rg (rr B k x) n)))), M) := by
    intro j
    induction j with
    | zero =>
      intro u b u5 u6 hu hb
      have hz : am_z (aI b) = true := by cases b <;> decide
      rw [eq_Mo_isRing_5, eN, if_neg (nI_nlt (by omega) (by omega)), hz, z_if, hb, show u = n by omega]
      rfl
    | succ j ih =>
      intro u b u5 u6 hu hb
      rw [eq_Mo_isRing_5, eN, if_pos (nI_lt (by omega) (by omega)), rule u (by omega), z_bI]
      obtain ⟨v5, v6, q⟩ := inner 8 0 u b rfl (by omega)
      rw [Nat.zero_add, it_1] at q
      refine Eq.trans q (ih (u + 1) _ v5 v6 (by omega) ?_)
      subst hb
      cases hP : pb (∃ y m, y < u + 1 ∧ 1 ≤ m ∧ m ≤ 8 ∧ it (rr B k x) m y = some y) with
      | true =>
        have hP2 : ∃ y m, y < u + 1 ∧ 1 ≤ m ∧ m ≤ 8 ∧ it (rr B k x) m y = some y := @of_decide_eq_true _ (Classical.propDecidable _) hP
        obtain ⟨y, m, hy, h1, h2, h3⟩ := hP2
        by_cases e : y = u
        · subst e
          rw [pb_t (P := ∃ m, 1 ≤ m ∧ m ≤ 8 ∧ it (rr B k x) m y = some y) ⟨m, h1, h2, h3⟩, Bool.or_true]
        · rw [pb_t (P := ∃ y m, y < u ∧ 1 ≤ m ∧ m ≤ 8 ∧ it (rr B k x) m y = some y) ⟨y, m, by omega, h1, h2, h3⟩, Bool.true_or]
      | false =>
        have hP2 : ¬ ∃ y m, y < u + 1 ∧ 1 ≤ m ∧ m ≤ 8 ∧ it (rr B k x) m y = some y := @of_decide_eq_false _ (Classical.propDecidable _) hP
        rw [pb_f (fun w => hP2 (by obtain ⟨y, m, hy, w⟩ := w; exact ⟨y, m, by omega, w⟩)), pb_f (fun w => hP2 (by obtain ⟨m, w⟩ := w; exact ⟨u, m, by omega, w⟩))]
        rfl
  exact outer n 0 false none none (by omega) (by rw [pb_f]; rintro ⟨y, m, hy, -⟩; omega)
end
