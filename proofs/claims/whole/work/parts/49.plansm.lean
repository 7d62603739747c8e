/-! plans of the reference -/
def SQ (a s : Nat) : Bool := match a with
  | 44 => true
  | 47 => true
  | 48 => true
  | 49 => true
  | 25 => match s with
    | 33 => true
    | 34 => true
    | 35 => true
    | _ => false
  | _ => false
theorem SQ_scr : ∀ a s, SQ a s = true → scr a s = true := by
  intro a s h
  unfold SQ at h
  split at h
  · rfl
  · rfl
  · rfl
  · rfl
  · split at h
    · rfl
    · rfl
    · rfl
    · cases h
  · cases h
theorem S44_Q : ∀ a s, S44 a s = true → SQ a s = true := by
  intro a s h
  unfold S44 at h
  split at h
  · rfl
  · split at h
    · rfl
    · rfl
    · rfl
    · cases h
  · cases h
theorem pb_iff {b : Bool} {P : Prop} (h : b = true ↔ P) : b = pb P := by
  by_cases e : P
  · rw [pb_t e]; exact h.mpr e
  · rw [pb_f e]
    cases b with
    | false => rfl
    | true => exact absurd (h.mp rfl) e
theorem pb_true {P : Prop} (h : pb P = true) : P := @of_decide_eq_true _ (Classical.propDecidable _) h
theorem sub_tr {q r x : Nat} (h : q &&& r = q) (h2 : r &&& x = r) : q &&& x = q := by
  have h3 : q &&& x = (q &&& r) &&& x := by rw [h]
  rw [h3, Nat.and_assoc, h2, h]
theorem sub256 {s A : Nat} (hA : A < 256) (hs : sd s A = 0) : s < 256 := lt256 (fun i hi => b8 hA ((sd0_iff.mp hs) i hi))
theorem sd_andl (x A s : Nat) : sd (x &&& A) s = x &&& sd A s := by
  apply bit_ext
  intro i
  rw [sd_bit, Nat.testBit_and, Nat.testBit_and, sd_bit, Bool.and_assoc]
theorem nI_dec {p : Nat} (h : p ≠ 0) : nI p - 1 = nI (p - 1) := by
  have := nI_pred (p - 1)
  rw [show p - 1 + 1 = p by omega] at this
  exact this
theorem oI_eq {x : Option Nat} {j : Nat} (hx : ∀ d, x = some d → d < 2 ^ 31) (hj : j < 2 ^ 31) : oI x = nI j ↔ x = some j := by
  cases x with
  | none =>
    rw [oI_none]
    constructor
    · intro h; exact absurd h.symm (nI_m1 hj)
    · intro h; cases h
  | some d =>
    rw [oI_some]
    constructor
    · intro h; rw [(nI_eq (hx d rfl) hj).mp h]
    · intro h; cases h; rfl
theorem oI_m1 {x : Option Nat} (hx : ∀ d, x = some d → d < 2 ^ 31) : oI x = -1 ↔ x = none := by
  cases x with
  | none => exact ⟨fun _ => rfl, fun _ => rfl⟩
  | some d =>
    rw [oI_some]
    constructor
    · intro h; exact absurd h (nI_m1 (hx d rfl))
    · intro h; cases h
section
variable {E : am_E} {M B : am_M} {c A : Nat} {S : Nat → Bool}
theorem m_isSafe {s r : Nat} (hA : A < 256) (hs : sd s A = 0) (hr : r &&& sd A s = r) (h47 : ∀ y, sd y A = 0 → M 47 0 y = aI (S y)) : am_run (am_I2 E) mI_Mo_isSafe [.inr (.inl (some (25, 0))), .inl (nI s), .inl (nI r)] M = some (some (.inl (aI (pb (∀ q, q &&& r = q → S (s ||| q) = true)))), M) := by
  have hs2 := sub256 hA hs
  have hr2 : r < 256 := by have := sub_le hr; have := sd_lt (a := A) (b := s) hA; omega
  have hz : ∀ b : Bool, am_z (aI b) = true := by decide
  have loop : ∀ j p b, p ≤ j → p &&& r = p → (b = true ↔ (S s = true ∧ ∀ q, q &&& r = q → p < q → S (s ||| q) = true)) → am_ex (am_I2 E) mI_Mo_isSafe 10 [some (.inr (.inl (some (25, 0)))), some (.inl (nI s)), some (.inl (nI r)), some (.inl (aI b)), some (.inl (nI p))] [] M = some (some (.inl (aI (pb (∀ q, q &&& r = q → S (s ||| q) = true)))), M) := by
    have fin : ∀ b, (b = true ↔ (S s = true ∧ ∀ q, q &&& r = q → 0 < q → S (s ||| q) = true)) → am_ex (am_I2 E) mI_Mo_isSafe 10 [some (.inr (.inl (some (25, 0)))), some (.inl (nI s)), some (.inl (nI r)), some (.inl (aI b)), some (.inl (nI 0))] [] M = some (some (.inl (aI (pb (∀ q, q &&& r = q → S (s ||| q) = true)))), M) := by
      intro b hb
      rw [eq_Mo_isSafe_10, if_pos (by decide), hz, z_if]
      rw [pb_iff (b := b) (P := ∀ q, q &&& r = q → S (s ||| q) = true)]
      rw [hb]
      constructor
      · rintro ⟨h1, h2⟩ q hq
        rcases Nat.eq_zero_or_pos q with e | e
        · rw [e, Nat.or_zero]; exact h1
        · exact h2 q hq e
      · intro h
        refine ⟨?_, fun q hq _ => h q hq⟩
        have := h 0 (Nat.zero_and r)
        rw [Nat.or_zero] at this
        exact this
    intro j
    induction j with
    | zero =>
      intro p b hp _ hb
      have : p = 0 := by omega
      subst this
      exact fin b hb
    | succ j ih =>
      intro p b hp hpr hb
      by_cases e0 : p = 0
      · subst e0; exact fin b hb
      · have hp2 := sub_le hpr
        rw [eq_Mo_isSafe_10, if_neg (fun w => e0 ((le0_iff (by omega)).mp w))]
        cases b with
        | false =>
          rw [aI_f, if_pos rfl, z_z0, z_if, pb_f]
          · rfl
          · intro w
            have := hb.mpr ⟨by have := w 0 (Nat.zero_and r); rw [Nat.or_zero] at this; exact this, fun q hq _ => w q hq⟩
            cases this
        | true =>
          obtain ⟨b1, b2⟩ := hb.mp rfl
          obtain ⟨d1, d2, d3⟩ := dnF r hr2 p (by omega) hpr e0
          have hsp := sub_or hs (sub_tr hpr hr)
          have hsp2 := sub256 hA hsp
          rw [aI_t, if_neg z_ne10, nI_or, z_in hsp2 (by omega), z_if, z_ix (by omega), h47 _ hsp, nI_dec e0, nI_and]
          refine ih ((p - 1) &&& r) (S (s ||| p)) (by omega) d2 ⟨fun h => ⟨b1, fun q hq hlt => ?_⟩, fun h => h.2 p hpr d1⟩
          rcases Nat.lt_trichotomy q p with w | w | w
          · have := d3 q hq w; omega
          · rw [w]; exact h
          · exact b2 q hq w
  rw [rq_Mo_isSafe, z_in hs2 (by omega), z_if, z_ix (by omega), h47 s hs]
  refine loop r r (S s) (by omega) (Nat.and_self r) ⟨fun h => ⟨h, fun q hq hlt => ?_⟩, fun h => h.1⟩
  have := sub_le hq
  omega
theorem m_firstOf {s j : Nat} {V : Nat → Option Nat} (hA : A < 256) (hs : sd s A = 0) (h47 : ∀ y, sd y A = 0 → M 47 0 y = aI (S y)) (h48 : ∀ y, sd y A = 0 → M 48 0 y = oI (V y)) (hV : ∀ y d, V y = some d → d < 2 ^ 31) (hj : j < 2 ^ 31) : ∃ v, v < 256 ∧ am_run (am_I2 E) mI_Mo_firstOf [.inr (.inl (some (25, 0))), .inl (nI s), .inl (nI A), .inl (nI j)] M = some (some (.inl (nI v)), M) ∧ ((v = 0 ∧ ∀ r, sf A S s r → V (s ||| r) ≠ some j) ∨ (sf A S s v ∧ V (s ||| v) = some j ∧ ∀ r, sf A S s r → V (s ||| r) = some j → r ≤ v)) := by
  have hs2 := sub256 hA hs
  have hrest := sd_lt (a := A) (b := s) hA
  have loop : ∀ i p, p ≤ i → p &&& sd A s = p → (∀ r, sf A S s r → p < r → V (s ||| r) ≠ some j) → ∃ v, v < 256 ∧ am_ex (am_I2 E) mI_Mo_firstOf 7 [some (.inr (.inl (some (25, 0)))), some (.inl (nI s)), some (.inl (nI A)), some (.inl (nI j)), some (.inl (nI p))] [] M = some (some (.inl (nI v)), M) ∧ ((v = 0 ∧ ∀ r, sf A S s r → V (s ||| r) ≠ some j) ∨ (sf A S s v ∧ V (s ||| v) = some j ∧ ∀ r, sf A S s r → V (s ||| r) = some j → r ≤ v)) := by
    intro i
    have fin : (∀ r, sf A S s r → 0 < r → V (s ||| r) ≠ some j) → ∃ v, v < 256 ∧ am_ex (am_I2 E) mI_Mo_firstOf 7 [some (.inr (.inl (some (25, 0)))), some (.inl (nI s)), some (.inl (nI A)), some (.inl (nI j)), some (.inl (nI 0))] [] M = some (some (.inl (nI v)), M) ∧ ((v = 0 ∧ ∀ r, sf A S s r → V (s ||| r) ≠ some j) ∨ (sf A S s v ∧ V (s ||| v) = some j ∧ ∀ r, sf A S s r → V (s ||| r) = some j → r ≤ v)) := by
      intro h
      refine ⟨0, by omega, ?_, Or.inl ⟨rfl, fun r hr => h r hr hr.1⟩⟩
      rw [eq_Mo_firstOf_7, if_pos (by decide)]
      rfl
    induction i with
    | zero =>
      intro p hp _ h
      have : p = 0 := by omega
      subst this
      exact fin h
    | succ i ih =>
      intro p hp hpr h
      by_cases e0 : p = 0
      · subst e0; exact fin h
      · have hp2 := sub_le hpr
        obtain ⟨d1, d2, d3⟩ := dnF (sd A s) hrest p (by omega) hpr e0
        have hsp := sub_or hs hpr
        have hsp2 := sub256 hA hsp
        have next : V (s ||| p) ≠ some j ∨ ¬ sf A S s p → ∀ r, sf A S s r → (p - 1) &&& sd A s < r → V (s ||| r) ≠ some j := by
          intro hn r hr hlt
          rcases Nat.lt_trichotomy r p with w | w | w
          · have := d3 r hr.2.1 w; omega
          · subst w
            rcases hn with hn | hn
            · exact hn
            · exact absurd hr hn
          · exact h r hr w
        rw [eq_Mo_firstOf_7, if_neg (fun w => e0 ((le0_iff (by omega)).mp w)), nI_or, z_in hsp2 (by omega), z_if, z_ix (by omega), h48 _ hsp, nI_dec e0, nI_and, nI_sd, sd_andl]
        by_cases e1 : V (s ||| p) = some j
        · rw [if_pos ((oI_eq (hV _) hj).mpr e1), m_isSafe (r := p) hA hs hpr h47, z_bI]
          by_cases e2 : ∀ q, q &&& p = q → S (s ||| q) = true
          · rw [pb_t e2, aI_t, if_neg z_ne10]
            refine ⟨p, by omega, rfl, Or.inr ⟨⟨by omega, hpr, e2⟩, e1, fun r hr hv => ?_⟩⟩
            rcases Nat.lt_or_ge p r with w | w
            · exact absurd hv (h r hr w)
            · exact w
          · rw [pb_f e2, aI_f, if_pos rfl]
            exact ih ((p - 1) &&& sd A s) (by omega) d2 (next (Or.inr (fun w => e2 w.2.2)))
        · rw [if_neg (fun w => e1 ((oI_eq (hV _) hj).mp w))]
          exact ih ((p - 1) &&& sd A s) (by omega) d2 (next (Or.inl e1))
  rw [rq_Mo_firstOf, nI_sd]
  refine loop (sd A s) (sd A s) (by omega) (Nat.and_self _) (fun r hr hlt => ?_)
  have := sub_le hr.2.1
  omega
/-- what is the first round by the rounds to come -/
def isFe (A : Nat) (S : Nat → Bool) (e s r : Nat) : Prop := sf A S s r ∧ LL A S e (s ||| r) = some e ∧ ∀ r', sf A S s r' → LL A S e (s ||| r') = some e → r' ≤ r
theorem isFe_F {e s r : Nat} (h : LL A S 8 s = some (e + 1)) (hf : isFe A S e s r) : isF A S s r := by
  have h8 := LL_le h
  exact ⟨e, h, hf.1, LL_mono hf.2.1 8 (by omega), fun r' hr' h' => hf.2.2 r' hr' (LL_at h')⟩
theorem LL_31 {j y d : Nat} (hj : j ≤ 9) (h : LL A S j y = some d) : d < 2 ^ 31 := by
  have := LL_le h
  omega
theorem LL_same {j y : Nat} : LL A S (j + 1) y = some j ↔ LL A S j y = some j := by
  constructor
  · intro h; exact LL_at h
  · intro h; exact LL_s h
theorem m_plans {n k w : Nat} {W : Nat → Nat} (hk : k < 3) (hN : iN n B) (hR : iR B) (hG : iG n (sr B k) (gl B k) (sz B k) k B) (hf : fr B M) (hW : ∀ y, W y ≤ 27) (h46 : ∀ y, y < 64 → M 46 0 y = nI (W y)) (hw1 : B 25 0 8 = nI w) (hw16 : w < 16) (hAe : A = mv (B 5 k) (B 6 k)) (hSe : S = sB B n k w W) : ∃ N, am_run (am_I2 E) mI_Mo_plans [.inr (.inl (some (25, 0))), .inl (nI k)] M = some (none, N) ∧ fS SQ M N ∧ (∀ y, sd y A = 0 → N 48 0 y = oI (LL A S 8 y)) ∧ ∀ y e, sd y A = 0 → LL A S 8 y = some (e + 1) → ∃ r, isF A S y r ∧ N 49 0 y = nI r := by
  have hA : A < 256 := by rw [hAe]; exact mv_lt _ _
  -- layers
  have inner : ∀ j, j < 8 → ∀ i' i N, i + i' = 256 → fS SQ M N → (∀ y, sd y A = 0 → N 47 0 y = aI (S y)) → (∀ y, sd y A = 0 → N 48 0 y = oI (if y < i then LL A S (j + 1) y else LL A S j y)) → (∀ y e, sd y A = 0 → (if y < i then LL A S (j + 1) y else LL A S j y) = some (e + 1) → ∃ r, isFe A S e y r ∧ N 49 0 y = nI r) → ∃ N', am_ex (am_I2 E) mI_Mo_plans 76 [some (.inr (.inl (some (25, 0)))), some (.inl (nI k)), some (.inl (nI A)), some (.inl (nI j)), some (.inl (nI i))] [] N = am_ex (am_I2 E) mI_Mo_plans 67 [some (.inr (.inl (some (25, 0)))), some (.inl (nI k)), some (.inl (nI A)), some (.inl (nI (j + 1))), some (.inl (nI 256))] [] N' ∧ fS SQ M N' ∧ (∀ y, sd y A = 0 → N' 47 0 y = aI (S y)) ∧ (∀ y, sd y A = 0 → N' 48 0 y = oI (LL A S (j + 1) y)) ∧ ∀ y e, sd y A = 0 → LL A S (j + 1) y = some (e + 1) → ∃ r, isFe A S e y r ∧ N' 49 0 y = nI r := by
    intro j hj i'
    induction i' with
    | zero =>
      intro i N hi hfN h47 h48 h49
      have hi2 : i = 256 := by omega
      subst hi2
      have h256 : ¬ nI 256 < 256 := by decide
      refine ⟨N, by rw [eq_Mo_plans_76, if_neg h256, nI_1], hfN, h47, fun y hy => ?_, fun y e hy h => ?_⟩
      · have := h48 y hy
        rw [if_pos (sub256 hA hy)] at this
        exact this
      · refine h49 y e hy ?_
        rw [if_pos (sub256 hA hy)]
        exact h
    | succ i' ih =>
      intro i N hi hfN h47 h48 h49
      have h256 : nI i < 256 := nI_lt (b := 256) (by omega) (by omega)
      have hsd := sd_lt (a := i) (b := A) (by omega)
      rw [eq_Mo_plans_76, if_pos h256, nI_sd, nI_1]
      -- cells other than i stay as they are told
      have keep : ∀ y, y ≠ i → (if y < i + 1 then LL A S (j + 1) y else LL A S j y) = (if y < i then LL A S (j + 1) y else LL A S j y) := by
        intro y hy
        by_cases e : y < i
        · rw [if_pos e, if_pos (by omega)]
        · rw [if_neg e, if_neg (by omega)]
      have at1 : (if i < i + 1 then LL A S (j + 1) i else LL A S j i) = LL A S (j + 1) i := if_pos (by omega)
      have at0 : (if i < i then LL A S (j + 1) i else LL A S j i) = LL A S j i := if_neg (by omega)
      by_cases e : sd i A = 0
      · rw [if_pos (by rw [e]; decide), z_in (by omega) (by omega), z_if, z_ix (by omega), h48 i e, at0]
        rcases LL_or (A := A) (S := S) (j := j) (s := i) with ⟨d, hd⟩ | hd
        · rw [if_neg (fun w => by rw [(oI_m1 (fun d' h' => LL_31 (by omega) h')).mp w] at hd; cases hd)]
          refine ih (i + 1) N (by omega) hfN h47 (fun y hy => ?_) (fun y e' hy h => ?_)
          · by_cases ey : y = i
            · rw [ey, at1, LL_s hd, ← hd, h48 i e, at0]
            · rw [keep y ey]; exact h48 y hy
          · by_cases ey : y = i
            · subst ey
              rw [at1, LL_s hd] at h
              refine h49 y e' hy ?_
              rw [at0, hd]
              exact h
            · rw [keep y ey] at h
              exact h49 y e' hy h
        · rw [if_pos ((oI_m1 (fun d' h' => LL_31 (by omega) h')).mpr hd)]
          obtain ⟨v, hv, q1, q2⟩ := m_firstOf (E := E) (M := N) (S := S) (s := i) (j := j) (V := fun y => if y < i then LL A S (j + 1) y else LL A S j y) hA e h47 h48 (fun y d h => by
            split at h
            · exact LL_31 (by omega) h
            · exact LL_31 (by omega) h) (by omega)
          have hVj : ∀ y, (if y < i then LL A S (j + 1) y else LL A S j y) = some j ↔ LL A S j y = some j := by
            intro y
            split
            · exact LL_same
            · exact Iff.rfl
          rw [q1, z_bI, am_up_self, z_if, z_if, z_if]
          rcases q2 with ⟨rfl, q3⟩ | ⟨q3, q4, q5⟩
          · have hn : LL A S (j + 1) i = none := LL_nf hd (fun w => by
              obtain ⟨r, hr, h⟩ := w
              exact q3 r hr ((hVj _).mpr h))
            rw [if_pos (by decide)]
            refine ih (i + 1) _ (by omega) (fS_up (fS_up hfN rfl) rfl) h47 (fun y hy => ?_) (fun y e' hy h => ?_)
            · by_cases ey : y = i
              · subst ey
                rw [at1, hn]
                exact am_up_self (am_up N 49 0 y (nI 0)) 48 0 y (-1)
              · rw [keep y ey, ← h48 y hy]
                exact am_up_ne (M := am_up N 49 0 i (nI 0)) (a := 48) (b := 0) (c := i) (x := -1) (Or.inr (Or.inr ey))
            · by_cases ey : y = i
              · subst ey
                rw [at1, hn] at h
                cases h
              · rw [keep y ey] at h
                obtain ⟨r, hr1, hr2⟩ := h49 y e' hy h
                refine ⟨r, hr1, ?_⟩
                rw [← hr2]
                exact am_up_ne (M := N) (a := 49) (b := 0) (c := i) (x := nI 0) (Or.inr (Or.inr ey))
          · have hn : LL A S (j + 1) i = some (j + 1) := LL_nt hd ⟨v, q3, (hVj _).mp q4⟩
            rw [if_neg (fun w => by have := (le0_iff (by omega)).mp w; have := q3.1; omega)]
            refine ih (i + 1) _ (by omega) (fS_up (fS_up hfN rfl) rfl) h47 (fun y hy => ?_) (fun y e' hy h => ?_)
            · by_cases ey : y = i
              · subst ey
                rw [at1, hn]
                exact am_up_self (am_up N 49 0 y (nI v)) 48 0 y (nI j + 1) |>.trans (nI_1 j)
              · rw [keep y ey, ← h48 y hy]
                exact am_up_ne (M := am_up N 49 0 i (nI v)) (a := 48) (b := 0) (c := i) (x := nI j + 1) (Or.inr (Or.inr ey))
            · by_cases ey : y = i
              · subst ey
                rw [at1, hn] at h
                have he : j = e' := by have := Option.some.inj h; omega
                subst he
                exact ⟨v, ⟨q3, (hVj _).mp q4, fun r' hr' h' => q5 r' hr' ((hVj _).mpr h')⟩, am_up_self N 49 0 y (nI v)⟩
              · rw [keep y ey] at h
                obtain ⟨r, hr1, hr2⟩ := h49 y e' hy h
                refine ⟨r, hr1, ?_⟩
                rw [← hr2]
                exact am_up_ne (M := N) (a := 49) (b := 0) (c := i) (x := nI v) (Or.inr (Or.inr ey))
      · rw [if_neg (show ¬ nI (sd i A) = 0 from fun w => e ((nI_eq (b := 0) (by omega) (by omega)).mp w))]
        refine ih (i + 1) N (by omega) hfN h47 (fun y hy => ?_) (fun y e' hy h => ?_)
        · rw [keep y (fun w => e (by rw [← w]; exact hy))]; exact h48 y hy
        · rw [keep y (fun w => e (by rw [← w]; exact hy))] at h
          exact h49 y e' hy h
  have layers : ∀ i j N u4, j + i = 8 → fS SQ M N → (∀ y, sd y A = 0 → N 47 0 y = aI (S y)) → (∀ y, sd y A = 0 → N 48 0 y = oI (LL A S j y)) → (∀ y e, sd y A = 0 → LL A S j y = some (e + 1) → ∃ r, isFe A S e y r ∧ N 49 0 y = nI r) → ∃ N', am_ex (am_I2 E) mI_Mo_plans 67 [some (.inr (.inl (some (25, 0)))), some (.inl (nI k)), some (.inl (nI A)), some (.inl (nI j)), u4] [] N = some (none, N') ∧ fS SQ M N' ∧ (∀ y, sd y A = 0 → N' 48 0 y = oI (LL A S 8 y)) ∧ ∀ y e, sd y A = 0 → LL A S 8 y = some (e + 1) → ∃ r, isFe A S e y r ∧ N' 49 0 y = nI r := by
    intro i
    induction i with
    | zero =>
      intro j N u4 hj hfN h47 h48 h49
      have hj2 : j = 8 := by omega
      subst hj2
      exact ⟨N, by rw [eq_Mo_plans_67, if_neg (by decide)], hfN, h48, h49⟩
    | succ i ih =>
      intro j N u4 hj hfN h47 h48 h49
      have h8 : nI j < 8 := nI_lt (b := 8) (by omega) (by omega)
      rw [eq_Mo_plans_67, if_pos h8]
      obtain ⟨N', k1, k2, k3, k4, k5⟩ := inner j (by omega) 256 0 N rfl hfN h47 (fun y hy => by rw [if_neg (by omega)]; exact h48 y hy) (fun y e hy h => by rw [if_neg (by omega)] at h; exact h49 y e hy h)
      obtain ⟨N2, l1, l2⟩ := ih (j + 1) N' (some (.inl (nI 256))) (by omega) k2 k3 k4 k5
      exact ⟨N2, k1.trans l1, l2⟩
  have start : ∀ j i N, i + j = 256 → fS SQ M N → (∀ y, y < i → sd y A = 0 → N 47 0 y = aI (S y)) → (∀ y, y < i → N 48 0 y = oI (LL A S 0 y)) → ∃ N', am_ex (am_I2 E) mI_Mo_plans 8 [some (.inr (.inl (some (25, 0)))), some (.inl (nI k)), some (.inl (nI A)), some (.inl (nI i)), none] [] N = am_ex (am_I2 E) mI_Mo_plans 67 [some (.inr (.inl (some (25, 0)))), some (.inl (nI k)), some (.inl (nI A)), some (.inl (nI 0)), none] [] N' ∧ fS SQ M N' ∧ (∀ y, y < 256 → sd y A = 0 → N' 47 0 y = aI (S y)) ∧ ∀ y, y < 256 → N' 48 0 y = oI (LL A S 0 y) := by
    intro j
    induction j with
    | zero =>
      intro i N hi hfN h47 h48
      have hi2 : i = 256 := by omega
      subst hi2
      exact ⟨N, by rw [eq_Mo_plans_8, if_neg (by decide)]; rfl, hfN, h47, h48⟩
    | succ j ih =>
      intro i N hi hfN h47 h48
      have h256 : nI i < 256 := nI_lt (b := 256) (by omega) (by omega)
      have hsd := sd_lt (a := i) (b := A) (by omega)
      have hin : am_in (nI i) 256 = true := z_in (by omega) (by omega)
      have hix : am_ix (nI i) = i := z_ix (by omega)
      have hLL : oI (LL A S 0 i) = if i = A then 0 else -1 := by
        show oI (if i = A then some 0 else none) = _
        split <;> rfl
      have hAi : (nI i = nI A) ↔ i = A := nI_eq (by omega) (by omega)
      have step : ∀ (P : am_M) (b : Bool), fS SQ M P → (∀ y, P 47 0 y = N 47 0 y) → (∀ y, P 48 0 y = N 48 0 y) → (sd i A = 0 → b = S i) → ∃ N', am_ex (am_I2 E) mI_Mo_plans 8 [some (.inr (.inl (some (25, 0)))), some (.inl (nI k)), some (.inl (nI A)), some (.inl (nI (i + 1))), none] [] (am_up (am_up P 47 0 i (aI b)) 48 0 i (oI (LL A S 0 i))) = am_ex (am_I2 E) mI_Mo_plans 67 [some (.inr (.inl (some (25, 0)))), some (.inl (nI k)), some (.inl (nI A)), some (.inl (nI 0)), none] [] N' ∧ fS SQ M N' ∧ (∀ y, y < 256 → sd y A = 0 → N' 47 0 y = aI (S y)) ∧ ∀ y, y < 256 → N' 48 0 y = oI (LL A S 0 y) := by
        intro P b hfP p47 p48 hb
        refine ih (i + 1) _ (by omega) (fS_up (fS_up hfP rfl) rfl) (fun y hy hyA => ?_) (fun y hy => ?_)
        · by_cases ey : y = i
          · subst ey
            rw [← hb hyA]
            exact am_up_self P 47 0 y (aI b)
          · rw [← h47 y (by omega) hyA, ← p47 y]
            exact am_up_ne (M := P) (a := 47) (b := 0) (c := i) (x := aI b) (Or.inr (Or.inr ey))
        · by_cases ey : y = i
          · subst ey
            exact am_up_self _ 48 0 y _
          · rw [← h48 y (by omega), ← p48 y]
            exact am_up_ne (M := am_up P 47 0 i (aI b)) (a := 48) (b := 0) (c := i) (x := oI (LL A S 0 i)) (Or.inr (Or.inr ey))
      rw [eq_Mo_plans_8, if_pos h256, nI_sd, nI_1, hin, hix]
      simp only [z_z0, z_z1, Bool.and_self, z_if, hAi]
      by_cases e : sd i A = 0
      · rw [if_pos (by rw [e]; decide)]
        have hfB : fr B N := fS_tr hf (fS_mono SQ_scr hfN)
        obtain ⟨N2, l1, l2⟩ := m_isSound (E := E) (B := B) (M := N) (x := nI i) hk hN hR hG hfB hW (fun y hy => (hfN 46 0 y rfl).trans (h46 y hy)) hw1 hw16
        have hSi : S i = decide (sd w (hw B n k (nI i) W) = 0) := by rw [hSe]; rfl
        rw [l1, z_bI, ← hSi]
        have hs := step N2 (S i) (fS_tr hfN (fS_mono S44_Q l2)) (fun y => l2 47 0 y rfl) (fun y => l2 48 0 y rfl) (fun _ => rfl)
        rw [hLL] at hs
        cases hb : S i with
        | true =>
          rw [hb] at hs
          rw [aI_t, if_neg z_ne10]
          by_cases eA : i = A
          · rw [if_pos eA] at hs ⊢; exact hs
          · rw [if_neg eA] at hs ⊢; exact hs
        | false =>
          rw [hb] at hs
          rw [aI_f, if_pos rfl]
          by_cases eA : i = A
          · rw [if_pos eA] at hs ⊢; exact hs
          · rw [if_neg eA] at hs ⊢; exact hs
      · rw [if_neg (show ¬ nI (sd i A) = 0 from fun w => e ((nI_eq (b := 0) (by omega) (by omega)).mp w))]
        have hs := step N false hfN (fun _ => rfl) (fun _ => rfl) (fun h => absurd h e)
        rw [hLL] at hs
        by_cases eA : i = A
        · rw [if_pos eA] at hs ⊢; exact hs
        · rw [if_neg eA] at hs ⊢; exact hs
  obtain ⟨N1, k1, k2, k3, k4⟩ := start 256 0 M rfl fS_rfl (fun y h => absurd h (by omega)) (fun y h => absurd h (by omega))
  obtain ⟨N2, l1, l2, l3, l4⟩ := layers 8 0 N1 none rfl k2 (fun y hy => k3 y (sub256 hA hy) hy) (fun y hy => k4 y (sub256 hA hy)) (fun y e hy h => by
    have := LL_le h
    omega)
  refine ⟨N2, ?_, l2, l3, fun y e hy h => ?_⟩
  · rw [rq_Mo_plans, m_movers hk, mvr hf hG, z_bI, ← hAe]
    exact k1.trans l1
  · obtain ⟨r, hr1, hr2⟩ := l4 y e hy h
    exact ⟨r, isFe_F h hr1, hr2⟩
end
