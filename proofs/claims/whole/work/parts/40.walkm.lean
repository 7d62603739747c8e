/-! walks of the reference -/
theorem pcN_new {e v : Nat} (h : e.testBit v = false) : ∀ j, pcN (e ||| 2 ^ v) j = pcN e j + (if v < j then 1 else 0) := by
  intro j
  induction j with
  | zero => rfl
  | succ j ih =>
    unfold pcN
    rw [ih, Nat.testBit_or, Nat.testBit_two_pow]
    by_cases e1 : v = j
    · subst e1
      simp [h]
    · simp only [e1, decide_false, Bool.or_false]
      by_cases e2 : v < j
      · rw [if_pos e2, if_pos (show v < j + 1 by omega)]; omega
      · rw [if_neg e2, if_neg (show ¬ v < j + 1 by omega)]; rfl
theorem pcN_full {e v : Nat} (h : 8 ≤ pcN e 8) (hv : v < 8) : e.testBit v = true := by
  cases e1 : e.testBit v with
  | true => rfl
  | false =>
    have h1 := pcN_new e1 8
    rw [if_pos hv] at h1
    have h2 := pcN_le1 (e ||| 2 ^ v) 8
    omega
theorem pcN_one {s : Nat} (hs : s < 8) : pcN (2 ^ s) 8 = 1 := by
  have : ∀ s, s < 8 → pcN (2 ^ s) 8 = 1 := by decide
  exact this s hs
section
variable {E : am_E} {M B : am_M} {c : Nat}
theorem m_walks {n s g z k : Nat} {x : Int32} (hk : k < 3) (hN : iN n B) (hR : iR B) (hG : iG n s g z k B) (hf : fr B M) : ∃ N, am_run (am_I2 E) mI_Mo_walks [.inr (.inl (some (25, 0))), .inl (nI k), .inl x] M = some (none, N) ∧ fS S44 M N ∧ N 25 0 33 = nI (wkC B k x s).length ∧ (∀ i, i < (wkC B k x s).length → N 44 0 i = nI ((wkC B k x s).getD i 0)) ∧ N 25 0 34 = nI (2 ^ s ||| mt (wkC B k x s)) ∧ N 25 0 35 = aI (decide (la (wkC B k x s) = g)) ∧ (wkC B k x s).length = pcN (2 ^ s ||| mt (wkC B k x s)) 8 := by
  obtain ⟨hn, hN1, hN2⟩ := hN
  obtain ⟨g0, g1, g2, g3, g4, g5⟩ := hG
  have fin : ∀ u i e N u4 u5, u < n → i < 8 → e.testBit u = true → fS S44 M N → N 25 0 33 = nI (i + 1) → N 44 0 i = nI u → N 25 0 34 = nI e → ∃ N', am_ex (am_I2 E) mI_Mo_walks 31 [some (.inr (.inl (some (25, 0)))), some (.inl (nI k)), some (.inl x), some (.inl 0), u4, u5] [] N = some (none, N') ∧ fS S44 M N' ∧ N' 25 0 33 = nI (i + [u].length) ∧ (∀ y, y < i → N' 44 0 y = N 44 0 y) ∧ (∀ y, y < [u].length → N' 44 0 (i + y) = nI ([u].getD y 0)) ∧ N' 25 0 34 = nI (e ||| mt [u]) ∧ N' 25 0 35 = aI (decide (la [u] = g)) := by
    intro u i e N u4 u5 hu hi heu hfN h33 h44 h34
    have eg : N 28 0 k = nI g := (hfN 28 0 k rfl).trans ((hf 28 0 k rfl).trans g2.2)
    refine ⟨am_up N 25 0 35 (aI (decide (u = g))), ?_, fS_up hfN rfl, h33, fun y hy => rfl, fun y hy => ?_, ?_, rfl⟩
    · rw [eq_Mo_walks_31, if_pos rfl, h33, nI_pred, z_in (by omega) (by omega), z_if, z_in hk (by omega), z_if, z_ix (by omega), z_ix (by omega), h44, eg]
      by_cases e : u = g
      · rw [if_pos (by rw [e])]; simp [aI, e]
      · rw [if_neg (fun w => e ((nI_eq (by omega) (by omega)).mp w))]; simp [aI, e]
    · have : y = 0 := by simpa using hy
      subst this
      exact h44
    · show N 25 0 34 = _
      rw [h34]
      congr 1
      apply bit_ext
      intro i
      simp only [mt, Nat.testBit_or, Nat.testBit_two_pow, Nat.zero_testBit, Bool.or_false]
      by_cases e : u = i
      · subst e; simp [heu]
      · simp [e]
  have one : ∀ u i e N u4 u5, u < n → i < 8 → fS S44 M N → N 25 0 33 = nI (i + 1) → N 44 0 i = nI u → N 25 0 34 = nI e → (∀ v, st (B 5 k) (B 6 k) (B 2 0) x u = some v → e.testBit v = true) → ∃ u4' u5', am_ex (am_I2 E) mI_Mo_walks 31 [some (.inr (.inl (some (25, 0)))), some (.inl (nI k)), some (.inl x), some (.inl 1), u4, u5] [] N = am_ex (am_I2 E) mI_Mo_walks 31 [some (.inr (.inl (some (25, 0)))), some (.inl (nI k)), some (.inl x), some (.inl 0), u4', u5'] [] N := by
    intro u i e N u4 u5 hu hi hfN h33 h44 h34 hst
    have eg : N 28 0 k = nI g := (hfN 28 0 k rfl).trans ((hf 28 0 k rfl).trans g2.2)
    have e31 : ∀ y, y < 8 → N 31 0 (8 * k + y) = B 5 k y := fun y hy => (hfN 31 0 _ rfl).trans ((hf 31 0 _ rfl).trans (g5 y hy).1.1.symm)
    have e32 : ∀ y, y < 8 → N 32 0 (8 * k + y) = B 6 k y := fun y hy => (hfN 32 0 _ rfl).trans ((hf 32 0 _ rfl).trans (g5 y hy).1.2.symm)
    rw [eq_Mo_walks_31, if_neg z_ne10, h33, nI_pred, z_in (by omega) (by omega), z_if, z_in hk (by omega), z_if, z_ix (by omega), z_ix (by omega), h44, eg]
    by_cases eug : u = g
    · rw [if_pos (by rw [eug]), eq_Mo_walks_71, if_pos rfl, eq_Mo_walks_112, if_pos rfl]
      exact ⟨_, _, rfl⟩
    · rw [if_neg (fun w => eug ((nI_eq (by omega) (by omega)).mp w)), m_ruleBy hk (by omega), z_bI, rl_congr (o := fun u => N 31 0 (8 * k + u)) (w := fun u => N 32 0 (8 * k + u)) (o' := B 5 k) (w' := B 6 k) x ⟨e31 u (by omega), e32 u (by omega)⟩]
      rcases rok_N (rok_rl (s := x) ((g5 u (by omega)).2)) hn.2 with ⟨h1, h2⟩ | ⟨v, hv, hvu, -, hug, h1, h2⟩
      · rw [h1, eq_Mo_walks_71, if_pos rfl, eq_Mo_walks_112, if_pos rfl]
        exact ⟨_, _, rfl⟩
      · obtain ⟨r, hr, r1, r2⟩ := hR (8 * u + v) (by omega)
        have e26 : N 26 0 (8 * u + v) = nI r := (hfN 26 0 _ rfl).trans ((hf 26 0 _ rfl).trans r2)
        rw [h1, eq_Mo_walks_71, if_neg (nI_m1 (by omega)), z_8mul, z_in (by omega) (by omega), z_if, z_ix (by omega), e26]
        by_cases e0 : r = 0
        · rw [e0, if_pos (by decide), eq_Mo_walks_112, if_pos rfl]
          exact ⟨_, _, rfl⟩
        · have hs2 : st (B 5 k) (B 6 k) (B 2 0) x u = some v := by
            unfold st
            rw [h2]
            show (if B 2 0 (8 * u + v) = 0 then none else some v) = _
            rw [r1, if_neg (nI_ne0 (by omega) (by omega))]
          rw [if_neg (nI_nle (by omega) (by omega)), m_has (by omega), z_bI, h34, bt_nI _ _ (by omega), hst v hs2, if_pos rfl, if_neg z_ne10, eq_Mo_walks_112, if_pos rfl]
          exact ⟨_, _, rfl⟩
  have go : ∀ u v i e N u4 u5, u < n → i < 7 → fS S44 M N → N 25 0 33 = nI (i + 1) → N 44 0 i = nI u → N 25 0 34 = nI e → st (B 5 k) (B 6 k) (B 2 0) x u = some v → e.testBit v = false → v < n ∧ ∃ u4' u5', am_ex (am_I2 E) mI_Mo_walks 31 [some (.inr (.inl (some (25, 0)))), some (.inl (nI k)), some (.inl x), some (.inl 1), u4, u5] [] N = am_ex (am_I2 E) mI_Mo_walks 31 [some (.inr (.inl (some (25, 0)))), some (.inl (nI k)), some (.inl x), some (.inl 1), u4', u5'] [] (am_up (am_up (am_up N 44 0 (i + 1) (nI v)) 25 0 33 (nI (i + 2))) 25 0 34 (nI (e ||| 2 ^ v))) := by
    intro u v i e N u4 u5 hu hi hfN h33 h44 h34 hst hb
    have eg : N 28 0 k = nI g := (hfN 28 0 k rfl).trans ((hf 28 0 k rfl).trans g2.2)
    have e31 : ∀ y, y < 8 → N 31 0 (8 * k + y) = B 5 k y := fun y hy => (hfN 31 0 _ rfl).trans ((hf 31 0 _ rfl).trans (g5 y hy).1.1.symm)
    have e32 : ∀ y, y < 8 → N 32 0 (8 * k + y) = B 6 k y := fun y hy => (hfN 32 0 _ rfl).trans ((hf 32 0 _ rfl).trans (g5 y hy).1.2.symm)
    rw [eq_Mo_walks_31, if_neg z_ne10, h33, nI_pred, z_in (by omega) (by omega), z_if, z_in hk (by omega), z_if, z_ix (by omega), z_ix (by omega), h44, eg]
    rcases rok_N (rok_rl (s := x) ((g5 u (by omega)).2)) hn.2 with ⟨h1, h2⟩ | ⟨v', hv, hvu, -, hug, h1, h2⟩
    · unfold st at hst
      rw [h2] at hst
      cases hst
    · obtain ⟨r, hr, r1, r2⟩ := hR (8 * u + v') (by omega)
      have e26 : N 26 0 (8 * u + v') = nI r := (hfN 26 0 _ rfl).trans ((hf 26 0 _ rfl).trans r2)
      have hs2 : st (B 5 k) (B 6 k) (B 2 0) x u = if r = 0 then none else some v' := by
        unfold st
        rw [h2]
        show (if B 2 0 (8 * u + v') = 0 then none else some v') = _
        rw [r1]
        by_cases e : r = 0
        · subst e; rfl
        · rw [if_neg e, if_neg (nI_ne0 (by omega) (by omega))]
      rw [hst] at hs2
      by_cases e0 : r = 0
      · rw [if_pos e0] at hs2; cases hs2
      · rw [if_neg e0] at hs2
        cases hs2
        refine ⟨hv, ?_⟩
        rw [if_neg (fun w => hug ((nI_eq (by omega) (by omega)).mp w)), m_ruleBy hk (by omega), z_bI, rl_congr (o := fun u => N 31 0 (8 * k + u)) (w := fun u => N 32 0 (8 * k + u)) (o' := B 5 k) (w' := B 6 k) x ⟨e31 u (by omega), e32 u (by omega)⟩, h1, eq_Mo_walks_71, if_neg (nI_m1 (by omega)), z_8mul, z_in (by omega) (by omega), z_if, z_ix (by omega), e26, if_neg (nI_nle (by omega) (by omega)), m_has (by omega), z_bI, h34, bt_nI _ _ (by omega), hb, if_pos (show (if false = true then (1 : Int32) else 0) = 0 by decide), eq_Mo_walks_112, if_neg z_ne10, h33, z_in (by omega) (by omega), z_if, z_ix (by omega), h34, nI_shl (by omega), nI_or, nI_1]
        exact ⟨_, _, rfl⟩
  have loop : ∀ j u i e N u4 u5, u < n → e < 256 → e.testBit u = true → i + 1 = pcN e 8 → 8 ≤ pcN e 8 + j → fS S44 M N → N 25 0 33 = nI (i + 1) → N 44 0 i = nI u → N 25 0 34 = nI e → ∃ N', am_ex (am_I2 E) mI_Mo_walks 31 [some (.inr (.inl (some (25, 0)))), some (.inl (nI k)), some (.inl x), some (.inl 1), u4, u5] [] N = some (none, N') ∧ (fS S44 M N' ∧ N' 25 0 33 = nI (i + (wk (st (B 5 k) (B 6 k) (B 2 0) x) j e u).length) ∧ (∀ y, y < i → N' 44 0 y = N 44 0 y) ∧ (∀ y, y < (wk (st (B 5 k) (B 6 k) (B 2 0) x) j e u).length → N' 44 0 (i + y) = nI ((wk (st (B 5 k) (B 6 k) (B 2 0) x) j e u).getD y 0)) ∧ N' 25 0 34 = nI (e ||| mt (wk (st (B 5 k) (B 6 k) (B 2 0) x) j e u)) ∧ N' 25 0 35 = aI (decide (la (wk (st (B 5 k) (B 6 k) (B 2 0) x) j e u) = g))) ∧ i + (wk (st (B 5 k) (B 6 k) (B 2 0) x) j e u).length = pcN (e ||| mt (wk (st (B 5 k) (B 6 k) (B 2 0) x) j e u)) 8 := by
    intro j
    induction j with
    | zero =>
      intro u i e N u4 u5 hu he heu hi hj hfN h33 h44 h34
      have hw : wk (st (B 5 k) (B 6 k) (B 2 0) x) 0 e u = [u] := rfl
      have hi8 := pcN_le1 e 8
      obtain ⟨u4', u5', k1⟩ := one u i e N u4 u5 hu (by omega) hfN h33 h44 h34 (fun v hv => pcN_full (by omega) (by
        unfold st at hv
        rcases rok_N (rok_rl (s := x) ((g5 u (by omega)).2)) hn.2 with ⟨h1, h2⟩ | ⟨v', hv', -, -, -, h1, h2⟩
        · rw [h2] at hv; cases hv
        · rw [h2] at hv
          have hv2 : (if B 2 0 (8 * u + v') = 0 then none else some v') = some v := hv
          split at hv2
          · cases hv2
          · cases hv2; omega))
      obtain ⟨N', k2, k3⟩ := fin u i e N u4' u5' hu (by omega) heu hfN h33 h44 h34
      rw [hw]
      refine ⟨N', k1.trans k2, k3, ?_⟩
      have : e ||| mt [u] = e := by
        apply bit_ext
        intro i
        simp only [mt, Nat.testBit_or, Nat.testBit_two_pow, Nat.zero_testBit, Bool.or_false]
        by_cases e : u = i
        · subst e; simp [heu]
        · simp [e]
      rw [this]
      exact hi
    | succ j ih =>
      intro u i e N u4 u5 hu he heu hi hj hfN h33 h44 h34
      have hi8 := pcN_le1 e 8
      by_cases hstop : ∀ v, st (B 5 k) (B 6 k) (B 2 0) x u = some v → e.testBit v = true
      · have hw : wk (st (B 5 k) (B 6 k) (B 2 0) x) (j + 1) e u = [u] := by
          cases h : st (B 5 k) (B 6 k) (B 2 0) x u with
          | none => exact wk_none h
          | some v => exact wk_met h (hstop v h)
        obtain ⟨u4', u5', k1⟩ := one u i e N u4 u5 hu (by omega) hfN h33 h44 h34 hstop
        obtain ⟨N', k2, k3⟩ := fin u i e N u4' u5' hu (by omega) heu hfN h33 h44 h34
        rw [hw]
        refine ⟨N', k1.trans k2, k3, ?_⟩
        have : e ||| mt [u] = e := by
          apply bit_ext
          intro i
          simp only [mt, Nat.testBit_or, Nat.testBit_two_pow, Nat.zero_testBit, Bool.or_false]
          by_cases e : u = i
          · subst e; simp [heu]
          · simp [e]
        rw [this]
        exact hi
      · have hex : ∃ v, st (B 5 k) (B 6 k) (B 2 0) x u = some v ∧ e.testBit v = false := by
          cases h : st (B 5 k) (B 6 k) (B 2 0) x u with
          | none => exact absurd (fun v hv => by rw [h] at hv; cases hv) hstop
          | some v =>
            cases hb : e.testBit v with
            | false => exact ⟨v, rfl, hb⟩
            | true => exact absurd (fun v' hv => by rw [h] at hv; cases hv; exact hb) hstop
        obtain ⟨v, hst, hb⟩ := hex
        have hvn : v < 8 := by
          unfold st at hst
          rcases rok_N (rok_rl (s := x) ((g5 u (by omega)).2)) hn.2 with ⟨h1, h2⟩ | ⟨v', hv', -, -, -, h1, h2⟩
          · rw [h2] at hst; cases hst
          · rw [h2] at hst
            have hv2 : (if B 2 0 (8 * u + v') = 0 then none else some v') = some v := hst
            split at hv2
            · cases hv2
            · cases hv2; omega
        have hp := pcN_new hb 8
        rw [if_pos hvn] at hp
        have hp8 := pcN_le1 (e ||| 2 ^ v) 8
        obtain ⟨hv, u4', u5', k1⟩ := go u v i e N u4 u5 hu (by omega) hfN h33 h44 h34 hst hb
        have hv8 : (2 ^ v) < 256 := Nat.lt_of_lt_of_le (Nat.pow_lt_pow_right (by omega) hvn) (by decide)
        obtain ⟨N', k2, ⟨k3, k4, k5, k6, k7, k8⟩, k9⟩ := ih v (i + 1) (e ||| 2 ^ v) _ u4' u5' hv (or_lt he hv8) (by rw [Nat.testBit_or, Nat.testBit_two_pow]; simp) (by omega) (by omega) (fS_up (fS_up (fS_up (a := 44) (b := 0) (c := i + 1) (x := nI v) hfN rfl) (a := 25) (b := 0) (c := 33) (x := nI (i + 2)) rfl) (a := 25) (b := 0) (c := 34) (x := nI (e ||| 2 ^ v)) rfl) rfl (am_up_self N 44 0 (i + 1) (nI v)) rfl
        have hw := wk_go (j := j) hst hb
        refine ⟨N', k1.trans k2, ⟨k3, ?_, fun y hy => ?_, fun y hy => ?_, ?_, ?_⟩, ?_⟩
        · rw [k4, hw, List.length_cons]
          congr 1
          omega
        · rw [k5 y (by omega)]
          exact am_up_ne (M := N) (a := 44) (b := 0) (c := i + 1) (x := nI v) (Or.inr (Or.inr (by omega)))
        · rw [hw] at hy ⊢
          cases y with
          | zero =>
            rw [Nat.add_zero, k5 i (by omega)]
            exact (am_up_ne (M := N) (a := 44) (b := 0) (c := i + 1) (x := nI v) (Or.inr (Or.inr (by omega)))).trans h44
          | succ y =>
            rw [List.length_cons] at hy
            have := k6 y (by omega)
            rw [show i + (y + 1) = i + 1 + y by omega, this]
            rfl
        · rw [k7, mt_go hst hb heu]
        · rw [k8, la_go hst hb]
        · rw [mt_go hst hb heu, ← k9, hw, List.length_cons]
          omega
  have es : M 27 0 k = nI s := (hf 27 0 k rfl).trans g1.2
  have hs8 : (2 ^ s) < 256 := Nat.lt_of_lt_of_le (Nat.pow_lt_pow_right (by omega) (show s < 8 by omega)) (by decide)
  have hp1 := pcN_one (s := s) (by omega)
  obtain ⟨N', k2, ⟨k3, k4, k5, k6, k7, k8⟩, k9⟩ := loop 8 s 0 (2 ^ s) (am_up (am_up (am_up M 44 0 0 (nI s)) 25 0 33 1) 25 0 34 (nI (2 ^ s))) none none g0.1 hs8 (by rw [Nat.testBit_two_pow]; simp) (by omega) (by omega) (fS_up (fS_up (fS_up fS_rfl rfl) rfl) rfl) rfl rfl rfl
  refine ⟨N', ?_, k3, ?_, fun i hi => ?_, k7, k8, ?_⟩
  · rw [rq_Mo_walks, z_in hk (by omega), z_if, z_if, z_ix (by omega), es, nI_shl (by omega), show am_in 0 8 = true by decide, z_if, show am_ix 0 = 0 by decide]
    exact k2
  · rw [k4, Nat.zero_add]; rfl
  · have := k6 i hi
    rw [Nat.zero_add] at this
    exact this
  · rw [Nat.zero_add] at k9; exact k9
end
