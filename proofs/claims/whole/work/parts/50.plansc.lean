/-! plans of the class -/
def SC (a _s : Nat) : Bool := match a with
  | 14 => true
  | 15 => true
  | 16 => true
  | _ => false
def SR (a _s : Nat) : Bool := match a with
  | 9 => true
  | 10 => true
  | 13 => true
  | 14 => true
  | 15 => true
  | 16 => true
  | _ => false
def SP (a _s : Nat) : Bool := match a with
  | 9 => true
  | 10 => true
  | 11 => true
  | 12 => true
  | 13 => true
  | 14 => true
  | 15 => true
  | 16 => true
  | _ => false
theorem SC_R : ∀ a s, SC a s = true → SR a s = true := by
  intro a s h
  unfold SC at h
  split at h
  · rfl
  · rfl
  · rfl
  · cases h
theorem S9_R : ∀ a s, S9 a s = true → SR a s = true := by
  intro a s h
  unfold S9 at h
  split at h
  · rfl
  · rfl
  · cases h
theorem SR_P : ∀ a s, SR a s = true → SP a s = true := by
  intro a s h
  unfold SR at h
  split at h
  · rfl
  · rfl
  · rfl
  · rfl
  · rfl
  · rfl
  · cases h
theorem S11_P : ∀ a s, S11 a s = true → SP a s = true := by
  intro a s h
  unfold S11 at h
  split at h
  · rfl
  · rfl
  · rfl
  · cases h
theorem SP_scr : ∀ a s, SP a s = true → scr a s = true := by
  intro a s h
  unfold SP at h
  split at h
  · rfl
  · rfl
  · rfl
  · rfl
  · rfl
  · rfl
  · rfl
  · rfl
  · cases h
/-- all parts of a round are sound -/
def gS (S : Nat → Bool) (s q : Nat) : Prop := ∀ z, z &&& q = z → S (s ||| z) = true
theorem sub_bits {p q : Nat} : p &&& q = p ↔ ∀ i, p.testBit i = true → q.testBit i = true := by
  constructor
  · intro h i hi
    have h1 := congrArg (fun x => x.testBit i) h
    simp only [Nat.testBit_and, hi, Bool.true_and] at h1
    exact h1
  · intro h
    apply bit_ext
    intro i
    rw [Nat.testBit_and]
    cases hp : p.testBit i with
    | false => rfl
    | true => rw [h i hp]; rfl
theorem sdp_sub (q u : Nat) : sd q (2 ^ u) &&& q = sd q (2 ^ u) := sub_bits.mpr (fun i hi => by
  rw [sd_bit, Bool.and_eq_true] at hi
  exact hi.1)
theorem sdp_ne {q u : Nat} (h : q.testBit u = true) : sd q (2 ^ u) ≠ q := fun w => by
  have := congrArg (fun x => x.testBit u) w
  simp only [sd_bit, h, Nat.testBit_two_pow, decide_true, Bool.not_true, Bool.and_false] at this
  cases this
theorem gS_step {S : Nat → Bool} {s q : Nat} (hs : S s = true) (hq : q ≠ 0) : gS S s q ↔ (S (s ||| q) = true ∧ ∀ u, q.testBit u = true → gS S s (sd q (2 ^ u))) := by
  constructor
  · intro h
    refine ⟨h q (Nat.and_self q), fun u _ z hz => h z (sub_tr hz (sdp_sub q u))⟩
  · rintro ⟨h1, h2⟩ z hz
    by_cases e : z = q
    · rw [e]; exact h1
    · have hex : ∃ u, q.testBit u = true ∧ z.testBit u = false := by
        apply Classical.byContradiction
        intro hno
        apply e
        apply bit_ext
        intro i
        cases hzi : z.testBit i with
        | true => exact ((sub_bits.mp hz) i hzi).symm
        | false =>
          cases hqi : q.testBit i with
          | false => rfl
          | true => exact absurd ⟨i, hqi, hzi⟩ hno
      obtain ⟨u, hu1, hu2⟩ := hex
      refine h2 u hu1 z (sub_bits.mpr (fun i hi => ?_))
      rw [sd_bit, (sub_bits.mp hz) i hi, Nat.testBit_two_pow]
      by_cases e2 : u = i
      · rw [e2, hi] at hu2; cases hu2
      · simp [e2]
section
variable {E : am_E} {M B : am_M} {c A : Nat} {S : Nat → Bool}
/-- the best of the rounds up to p: fewest rounds and first round in two cells -/
def BS (A : Nat) (S : Nat → Bool) (s p : Nat) (x y : Int32) : Prop := (x = -1 ∧ ∀ r, sf A S s r → r ≤ p → LL A S 8 (s ||| r) = none) ∨ ∃ e r, e ≤ 8 ∧ x = nI (e + 1) ∧ y = nI r ∧ sf A S s r ∧ LL A S 8 (s ||| r) = some e ∧ (∀ r', sf A S s r' → r' ≤ p → ∀ e', LL A S 8 (s ||| r') = some e' → e ≤ e') ∧ ∀ r', sf A S s r' → r' ≤ p → LL A S 8 (s ||| r') = some e → r' ≤ r
theorem BS_end {s : Nat} {x y : Int32} (hA : A < 256) (hs : sd s A = 0) (hne : s ≠ A) (h : BS A S s (sd A s) x y) : x = oI (LL A S 8 s) ∧ ∀ e, LL A S 8 s = some (e + 1) → ∃ r, isF A S s r ∧ y = nI r := by
  rcases h with ⟨h1, h2⟩ | ⟨e, r, -, h1, h2, h3, h4, h5, h6⟩
  · rcases LL_or (A := A) (S := S) (j := 8) (s := s) with ⟨d, hd⟩ | hd
    · exfalso
      cases d with
      | zero => exact hne (LL_0 hd)
      | succ e =>
        obtain ⟨r, hr, hr2⟩ := LL_Q3 hd
        rw [h2 r hr (sub_le hr.2.1)] at hr2
        cases hr2
    · rw [hd]
      exact ⟨h1, fun e w => by cases w⟩
  · rcases LL_or (A := A) (S := S) (j := 8) (s := s) with ⟨d, hd⟩ | hd
    · cases d with
      | zero => exact absurd (LL_0 hd) hne
      | succ e0 =>
        obtain ⟨r0, hr0, hr02⟩ := LL_Q3 hd
        have a1 := h5 r0 hr0 (sub_le hr0.2.1) e0 hr02
        have a2 := LL_Q2 hd h3 h4
        have he : e0 = e := by omega
        subst he
        rw [hd]
        refine ⟨h1, fun e' w => ?_⟩
        have : e0 = e' := by have := Option.some.inj w; omega
        subst this
        exact ⟨r, ⟨e0, hd, h3, h4, fun r' hr' h' => h6 r' hr' (sub_le hr'.2.1) h'⟩, h2⟩
    · rw [LL_Q1 hA hs hd h3] at h4
      cases h4
theorem c_arePartsSafe {s q : Nat} (hq : q < 256) (h14 : ∀ y, y &&& q = y → y ≠ q → M 14 0 y = aI (pb (gS S s y))) : am_run (am_I2 E) mI_Pl_arePartsSafe [.inr (.inl (some (12, 0))), .inl (nI q)] M = some (some (.inl (aI (pb (∀ u, q.testBit u = true → gS S s (sd q (2 ^ u)))))), M) := by
  rw [rq_Pl_arePartsSafe]
  have loop : ∀ j u, u + j = 8 → (∀ v, v < u → q.testBit v = true → gS S s (sd q (2 ^ v))) → am_ex (am_I2 E) mI_Pl_arePartsSafe 2 [some (.inr (.inl (some (12, 0)))), some (.inl (nI q)), some (.inl (nI u))] [] M = some (some (.inl (aI (pb (∀ u, q.testBit u = true → gS S s (sd q (2 ^ u)))))), M) := by
    intro j
    induction j with
    | zero =>
      intro u hu h
      have h8 : ¬ nI u < 8 := nI_nlt (b := 8) (by omega) (by omega)
      rw [eq_Pl_arePartsSafe_2, if_neg h8, pb_t (fun v hv => h v (by have := b8 hq hv; omega) hv)]
      rfl
    | succ j ih =>
      intro u hu h
      have h8 : nI u < 8 := nI_lt (b := 8) (by omega) (by omega)
      rw [eq_Pl_arePartsSafe_2, if_pos h8, nI_1]
      cases hb : q.testBit u with
      | false =>
        rw [if_pos ((bt_ne0 (by omega)).mpr (by rw [bt_nI _ _ (by omega)]; exact hb))]
        refine ih (u + 1) (by omega) (fun v hv hvq => ?_)
        by_cases e : v = u
        · rw [e, hb] at hvq; cases hvq
        · exact h v (by omega) hvq
      | true =>
        have hne : ¬ nI q &&& (1 : Int32) <<< (nI u &&& 31) = 0 := fun w => by
          have := (bt_ne0 (by omega)).mp w
          rw [bt_nI _ _ (by omega), hb] at this
          cases this
        have hlt := sd_lt (a := q) (b := 2 ^ u) hq
        rw [if_neg hne, nI_shl (by omega), nI_sd, z_in hlt (by omega), z_if, z_ix (by omega), h14 _ (sdp_sub q u) (sdp_ne hb)]
        by_cases e : gS S s (sd q (2 ^ u))
        · rw [pb_t e, aI_t, if_neg z_ne10]
          refine ih (u + 1) (by omega) (fun v hv hvq => ?_)
          by_cases e2 : v = u
          · rw [e2]; exact e
          · exact h v (by omega) hvq
        · rw [pb_f e, aI_f, if_pos rfl, pb_f (fun w => e (w u hb))]
          rfl
  exact loop 8 0 (by omega) (fun v hv => absurd hv (by omega))
theorem c_choose {s : Nat} (hA : A < 256) (hs : sd s A = 0) (hne : s ≠ A) (hSs : S s = true) (h12 : M 12 0 3 = nI A) (h13 : ∀ q, q &&& sd A s = q → q ≠ 0 → M 13 0 (s ||| q) = aI (S (s ||| q))) (h15 : ∀ q, q &&& sd A s = q → q ≠ 0 → M 15 0 (s ||| q) = oI (LL A S 8 (s ||| q))) (h15s : M 15 0 s = -1) : ∃ N, am_run (am_I2 E) mI_Pl_chooseFirstRound [.inr (.inl (some (12, 0))), .inl (nI s)] M = some (none, N) ∧ fS SC M N ∧ (∀ y, y ≠ s → N 15 0 y = M 15 0 y ∧ N 16 0 y = M 16 0 y) ∧ N 15 0 s = oI (LL A S 8 s) ∧ ∀ e, LL A S 8 s = some (e + 1) → ∃ r, isF A S s r ∧ N 16 0 s = nI r := by
  have hs2 := sub256 hA hs
  have hrest := sd_lt (a := A) (b := s) hA
  have hor : ∀ q, q &&& sd A s = q → q ≠ 0 → s ||| q ≠ s := by
    intro q hq h0 w
    obtain ⟨i, hi⟩ := ne0_bit h0
    have h1 := (sub_bits.mp hq) i hi
    rw [sd_bit, Bool.and_eq_true] at h1
    have h2 := congrArg (fun x => x.testBit i) w
    simp only [Nat.testBit_or, hi, Bool.or_true] at h2
    rw [← h2] at h1
    cases h1.2
  have loop : ∀ j p i N u5 u6, sd A s ≤ p + j → p &&& sd A s = p → i ≤ p + 1 → fS SC M N → (∀ y, y ≠ s → N 15 0 y = M 15 0 y ∧ N 16 0 y = M 16 0 y) → (∀ q, q &&& sd A s = q → q ≤ p → N 14 0 q = aI (pb (gS S s q))) → BS A S s p (N 15 0 s) (N 16 0 s) → ∃ N', am_ex (am_I2 E) mI_Pl_chooseFirstRound 25 [some (.inr (.inl (some (12, 0)))), some (.inl (nI s)), some (.inl (nI (sd A s))), some (.inl (nI p)), some (.inl (nI i)), u5, u6] [] N = some (none, N') ∧ fS SC M N' ∧ (∀ y, y ≠ s → N' 15 0 y = M 15 0 y ∧ N' 16 0 y = M 16 0 y) ∧ N' 15 0 s = oI (LL A S 8 s) ∧ ∀ e, LL A S 8 s = some (e + 1) → ∃ r, isF A S s r ∧ N' 16 0 s = nI r := by
    intro j
    have fin : ∀ i N u5 u6, fS SC M N → (∀ y, y ≠ s → N 15 0 y = M 15 0 y ∧ N 16 0 y = M 16 0 y) → BS A S s (sd A s) (N 15 0 s) (N 16 0 s) → ∃ N', am_ex (am_I2 E) mI_Pl_chooseFirstRound 25 [some (.inr (.inl (some (12, 0)))), some (.inl (nI s)), some (.inl (nI (sd A s))), some (.inl (nI (sd A s))), some (.inl (nI i)), u5, u6] [] N = some (none, N') ∧ fS SC M N' ∧ (∀ y, y ≠ s → N' 15 0 y = M 15 0 y ∧ N' 16 0 y = M 16 0 y) ∧ N' 15 0 s = oI (LL A S 8 s) ∧ ∀ e, LL A S 8 s = some (e + 1) → ∃ r, isF A S s r ∧ N' 16 0 s = nI r := by
      intro i N u5 u6 hfN hy hB
      obtain ⟨b1, b2⟩ := BS_end hA hs hne hB
      refine ⟨N, ?_, hfN, hy, b1, b2⟩
      rw [eq_Pl_chooseFirstRound_25]
      split
      · rw [if_pos rfl]
      · rfl
    induction j with
    | zero =>
      intro p i N u5 u6 hj hp hi hfN hy h14 hB
      have := sub_le hp
      have : p = sd A s := by omega
      subst this
      exact fin i N u5 u6 hfN hy hB
    | succ j ih =>
      intro p i N u5 u6 hj hp hi hfN hy h14 hB
      have hple := sub_le hp
      by_cases hpe : p = sd A s
      · subst hpe
        exact fin i N u5 u6 hfN hy hB
      · obtain ⟨u1, u2, u3⟩ := nxF_up (sd A s) hrest p (by omega) hp hpe
        have hx := nxF_eq (sd A s) hrest p (by omega) hp
        generalize nxF (sd A s) p = p' at u1 u2 u3 hx
        have hple' := sub_le u2
        have hgap : ∀ q, q &&& sd A s = q → q ≤ p' → q ≤ p ∨ q = p' := by
          intro q hq hqp
          rcases Nat.lt_or_ge p q with w | w
          · right
            rcases Nat.lt_or_ge q p' with w2 | w2
            · exfalso
              refine u3 (q - p - 1) (by omega) ?_
              rw [show p + 1 + (q - p - 1) = q by omega]
              exact hq
            · omega
          · exact Or.inl w
        have h256 : nI i < 256 := nI_lt (b := 256) (by omega) (by omega)
        have hsp := sub_or hs u2
        have hsp2 := sub256 hA hsp
        have e13 : N 13 0 (s ||| p') = aI (S (s ||| p')) := (hfN 13 0 _ rfl).trans (h13 p' u2 (by omega))
        have e15 : N 15 0 (s ||| p') = oI (LL A S 8 (s ||| p')) := ((hy _ (hor p' u2 (by omega))).1).trans (h15 p' u2 (by omega))
        have hparts := c_arePartsSafe (E := E) (M := N) (S := S) (s := s) (q := p') (by omega) (fun y hyq hyne => h14 y (sub_tr hyq u2) (by
          have := sub_le hyq
          rcases hgap y (sub_tr hyq u2) (by omega) with w | w
          · exact w
          · exact absurd w hyne))
        have hgs := gS_step (S := S) (s := s) (q := p') hSs (by omega)
        -- to 77
        have to77 : am_ex (am_I2 E) mI_Pl_chooseFirstRound 25 [some (.inr (.inl (some (12, 0)))), some (.inl (nI s)), some (.inl (nI (sd A s))), some (.inl (nI p)), some (.inl (nI i)), u5, u6] [] N = am_ex (am_I2 E) mI_Pl_chooseFirstRound 77 [some (.inr (.inl (some (12, 0)))), some (.inl (nI s)), some (.inl (nI (sd A s))), some (.inl (nI p')), some (.inl (nI i)), some (.inl (nI (s ||| p'))), u6] [.inl (aI (pb (gS S s p'))), .inl (nI p'), .inr (.inl (some (14, 0)))] N := by
          rw [eq_Pl_chooseFirstRound_25, if_pos h256, if_neg (fun w => hpe ((nI_eq (by omega) (by omega)).mp w)), hx, nI_or, z_in hsp2 (by omega), z_if, z_ix (by omega), e13]
          cases hb : S (s ||| p') with
          | false =>
            rw [aI_f, if_pos rfl, pb_f (P := gS S s p') (fun w => by rw [(hgs.mp w).1] at hb; cases hb)]
            rfl
          | true =>
            rw [aI_t, if_neg z_ne10, hparts, z_bI]
            by_cases e : ∀ u, p'.testBit u = true → gS S s (sd p' (2 ^ u))
            · rw [pb_t e, aI_t, if_neg z_ne10, pb_t (hgs.mpr ⟨hb, e⟩)]
              rfl
            · rw [pb_f e, aI_f, if_pos rfl, pb_f (P := gS S s p') (fun w => e (hgs.mp w).2)]
              rfl
        -- to 103
        have to103 : am_ex (am_I2 E) mI_Pl_chooseFirstRound 77 [some (.inr (.inl (some (12, 0)))), some (.inl (nI s)), some (.inl (nI (sd A s))), some (.inl (nI p')), some (.inl (nI i)), some (.inl (nI (s ||| p'))), u6] [.inl (aI (pb (gS S s p'))), .inl (nI p'), .inr (.inl (some (14, 0)))] N = am_ex (am_I2 E) mI_Pl_chooseFirstRound 103 [some (.inr (.inl (some (12, 0)))), some (.inl (nI s)), some (.inl (nI (sd A s))), some (.inl (nI p')), some (.inl (nI i)), some (.inl (nI (s ||| p'))), u6] [.inl (aI (pb (gS S s p') && (LL A S 8 (s ||| p')).isSome))] (am_up N 14 0 p' (aI (pb (gS S s p')))) := by
          have hz : ∀ b : Bool, am_z (aI b) = true := by decide
          rw [eq_Pl_chooseFirstRound_77, z_in (by omega) (by omega), hz, show (true && true) = true from rfl, z_if, z_if, z_ix (by omega), am_up_self, z_in hsp2 (by omega), z_if, z_ix (by omega), e15]
          cases hb : pb (gS S s p') with
          | false => rw [aI_f, if_pos rfl]; rfl
          | true =>
            rw [aI_t, if_neg z_ne10]
            cases hl : LL A S 8 (s ||| p') with
            | none => rw [oI_none, if_pos rfl]; rfl
            | some d => rw [oI_some, if_neg (nI_m1 (LL_31 (by omega) hl))]; rfl
        have h14' : ∀ q, q &&& sd A s = q → q ≤ p' → (am_up N 14 0 p' (aI (pb (gS S s p')))) 14 0 q = aI (pb (gS S s q)) := by
          intro q hq hqp
          by_cases e : q = p'
          · rw [e]; exact am_up_self N 14 0 p' _
          · rw [am_up_ne (Or.inr (Or.inr e))]
            rcases hgap q hq hqp with w | w
            · exact h14 q hq w
            · exact absurd w e
        have hsfp : pb (gS S s p') = true → sf A S s p' := fun w => ⟨by omega, u2, pb_true w⟩
        have hold : ∀ r, sf A S s r → r ≤ p' → r ≤ p ∨ (r = p' ∧ pb (gS S s p') = true) := by
          intro r hr hrp
          rcases hgap r hr.2.1 hrp with w | w
          · exact Or.inl w
          · exact Or.inr ⟨w, pb_t (by rw [← w]; exact hr.2.2)⟩
        rw [to77, to103, eq_Pl_chooseFirstRound_103, nI_1]
        cases hy0 : (pb (gS S s p') && (LL A S 8 (s ||| p')).isSome) with
        | false =>
          rw [aI_f, if_pos rfl]
          refine ih p' (i + 1) _ _ _ (by omega) u2 (by omega) (fS_up hfN rfl) hy h14' ?_
          -- nothing new
          have hnew : ∀ r, sf A S s r → r ≤ p' → r ≤ p ∨ LL A S 8 (s ||| r) = none := by
            intro r hr hrp
            rcases hold r hr hrp with w | ⟨w, w2⟩
            · exact Or.inl w
            · right
              rw [w2, Bool.true_and] at hy0
              rw [w]
              cases hl : LL A S 8 (s ||| p') with
              | none => rfl
              | some d => rw [hl] at hy0; cases hy0
          rcases hB with ⟨b1, b2⟩ | ⟨e, r, b0, b1, b2, b3, b4, b5, b6⟩
          · refine Or.inl ⟨b1, fun r hr hrp => ?_⟩
            rcases hnew r hr hrp with w | w
            · exact b2 r hr w
            · exact w
          · refine Or.inr ⟨e, r, b0, b1, b2, b3, b4, fun r' hr' hrp e' he' => ?_, fun r' hr' hrp he' => ?_⟩
            · rcases hnew r' hr' hrp with w | w
              · exact b5 r' hr' w e' he'
              · rw [w] at he'; cases he'
            · rcases hnew r' hr' hrp with w | w
              · exact b6 r' hr' w he'
              · rw [w] at he'; cases he'
        | true =>
          rw [Bool.and_eq_true] at hy0
          obtain ⟨y1, y2⟩ := hy0
          obtain ⟨e', he'⟩ := Option.isSome_iff_exists.mp y2
          have hle' := LL_le he'
          have e15' : (am_up N 14 0 p' (aI (pb (gS S s p')))) 15 0 (s ||| p') = nI e' := by
            show N 15 0 (s ||| p') = _
            rw [e15, he']
            rfl
          have hin : am_in (nI s) 256 = true := z_in hs2 (by omega)
          have hix : am_ix (nI s) = s := z_ix (by omega)
          have hin2 : am_in (nI (s ||| p')) 256 = true := z_in hsp2 (by omega)
          have hix2 : am_ix (nI (s ||| p')) = s ||| p' := z_ix (by omega)
          rw [aI_t, if_neg z_ne10]
          simp only [hin, hix, hin2, hix2, z_if, e15', nI_1]
          -- the new one is taken
          have take : (∀ r', sf A S s r' → r' ≤ p → ∀ e2, LL A S 8 (s ||| r') = some e2 → e' ≤ e2) → ∃ N', am_ex (am_I2 E) mI_Pl_chooseFirstRound 25 [some (.inr (.inl (some (12, 0)))), some (.inl (nI s)), some (.inl (nI (sd A s))), some (.inl (nI p')), some (.inl (nI (i + 1))), some (.inl (nI (s ||| p'))), some (.inl 1)] [] (am_up (am_up (am_up N 14 0 p' (aI (pb (gS S s p')))) 15 0 s (nI (e' + 1))) 16 0 s (nI p')) = some (none, N') ∧ fS SC M N' ∧ (∀ y, y ≠ s → N' 15 0 y = M 15 0 y ∧ N' 16 0 y = M 16 0 y) ∧ N' 15 0 s = oI (LL A S 8 s) ∧ ∀ e, LL A S 8 s = some (e + 1) → ∃ r, isF A S s r ∧ N' 16 0 s = nI r := by
            intro hle
            refine ih p' (i + 1) _ _ _ (by omega) u2 (by omega) (fS_up (fS_up (fS_up hfN rfl) rfl) rfl) (fun y hys => ?_) h14' ?_
            · refine ⟨Eq.trans ?_ (hy y hys).1, Eq.trans ?_ (hy y hys).2⟩
              · exact am_up_ne (M := am_up N 14 0 p' (aI (pb (gS S s p')))) (a := 15) (b := 0) (c := s) (x := nI (e' + 1)) (Or.inr (Or.inr hys))
              · exact am_up_ne (M := am_up (am_up N 14 0 p' (aI (pb (gS S s p')))) 15 0 s (nI (e' + 1))) (a := 16) (b := 0) (c := s) (x := nI p') (Or.inr (Or.inr hys))
            · refine Or.inr ⟨e', p', hle', am_up_self (am_up N 14 0 p' (aI (pb (gS S s p')))) 15 0 s _, am_up_self _ 16 0 s _, hsfp y1, he', fun r' hr' hrp e2 he2 => ?_, fun r' hr' hrp _ => hrp⟩
              rcases hold r' hr' hrp with w | ⟨w, -⟩
              · exact hle r' hr' w e2 he2
              · rw [w, he'] at he2
                have := Option.some.inj he2
                omega
          rcases hB with ⟨b1, b2⟩ | ⟨e, r, b0, b1, b2, b3, b4, b5, b6⟩
          · have b1' : (am_up N 14 0 p' (aI (pb (gS S s p')))) 15 0 s = -1 := b1
            rw [if_pos b1']
            exact take (fun r' hr' hrp e2 he2 => by rw [b2 r' hr' hrp] at he2; cases he2)
          · have b1' : (am_up N 14 0 p' (aI (pb (gS S s p')))) 15 0 s = nI (e + 1) := b1
            rw [b1', if_neg (nI_m1 (by omega))]
            by_cases ele : e' ≤ e
            · rw [if_pos (nI_le (by omega) (by omega))]
              exact take (fun r' hr' hrp e2 he2 => by have := b5 r' hr' hrp e2 he2; omega)
            · rw [if_neg (nI_ge (by omega) (by omega))]
              refine ih p' (i + 1) _ _ _ (by omega) u2 (by omega) (fS_up hfN rfl) hy h14' (Or.inr ⟨e, r, b0, b1, b2, b3, b4, fun r' hr' hrp e2 he2 => ?_, fun r' hr' hrp he2 => ?_⟩)
              · rcases hold r' hr' hrp with w | ⟨w, -⟩
                · exact b5 r' hr' w e2 he2
                · rw [w, he'] at he2
                  have := Option.some.inj he2
                  omega
              · rcases hold r' hr' hrp with w | ⟨w, -⟩
                · exact b6 r' hr' w he2
                · rw [w, he'] at he2
                  have := Option.some.inj he2
                  omega
  have h255 : ∀ q, q < 256 → nI q &&& 255 = nI q := by decide +kernel
  rw [rq_Pl_chooseFirstRound, show (am_in 0 256 && am_z 1) = true by decide, z_if, h12, nI_sd, h255 _ hrest, show am_ix 0 = 0 by decide]
  refine loop (sd A s) 0 1 (am_up M 14 0 0 1) none none (by omega) (Nat.zero_and _) (by omega) (fS_up fS_rfl rfl) (fun y _ => ⟨rfl, rfl⟩) (fun q _ hq => ?_) (Or.inl ⟨h15s, fun r hr hr2 => ?_⟩)
  · have : q = 0 := by omega
    subst this
    have hg0 : gS S s 0 := fun z hz => by rw [Nat.and_zero] at hz; rw [← hz, Nat.or_zero]; exact hSs
    rw [am_up_self, pb_t hg0]
    rfl
  · have := hr.1
    omega
end
