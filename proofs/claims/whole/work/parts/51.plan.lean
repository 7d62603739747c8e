/-! a plan is found; calls: plan, rounds, advance -/
section
variable {E : am_E} {M B : am_M} {c A : Nat} {S : Nat → Bool}
theorem LL_unsound {s : Nat} (h : S s = false) (hne : s ≠ A) : LL A S 8 s = none := by
  rcases LL_or (A := A) (S := S) (j := 8) (s := s) with ⟨d, hd⟩ | hd
  · exfalso
    cases d with
    | zero => exact hne (LL_0 hd)
    | succ e =>
      obtain ⟨r, hr, -⟩ := LL_Q3 hd
      have := hr.2.2 0 (Nat.zero_and r)
      rw [Nat.or_zero, h] at this
      cases this
  · exact hd
/-- what is known of a set that is settled -/
def dn (A : Nat) (S : Nat → Bool) (N : am_M) (s : Nat) : Prop := N 13 0 s = aI (S s) ∧ N 15 0 s = oI (LL A S 8 s) ∧ ∀ e, LL A S 8 s = some (e + 1) → ∃ r, isF A S s r ∧ N 16 0 s = nI r
theorem c_settle {n k w s : Nat} {W : Nat → Nat} (hN : iN n B) (hR : iR B) (hG : iG n (sr B k) (gl B k) (sz B k) k B) (hf : fr B M) (hW : ∀ y, W y ≤ 27) (h11 : ∀ y, y < 64 → M 11 0 y = nI (W y)) (hw1 : B 1 0 1 = nI w) (hw16 : w < 16) (hA : A < 256) (hSe : S = sB B n k w W) (hs : sd s A = 0) (h12 : M 12 0 3 = nI A) (hd : ∀ q, q &&& sd A s = q → q ≠ 0 → dn A S M (s ||| q)) : ∃ N, am_run (am_I2 E) mI_Pl_settle [.inr (.inl (some (12, 0))), .inr (.inl (some (4, k))), .inl (nI s)] M = some (none, N) ∧ fS SR M N ∧ dn A S N s ∧ ∀ y, y ≠ s → N 13 0 y = M 13 0 y ∧ N 15 0 y = M 15 0 y ∧ N 16 0 y = M 16 0 y := by
  have hs2 := sub256 hA hs
  obtain ⟨N, k1, k2⟩ := c_whatHolds (E := E) (B := B) (M := M) (x := nI s) hN hR hG hf hW h11
  have e1 : M 1 0 1 = nI w := (hf 1 0 1 rfl).trans hw1
  have e12 : N 12 0 3 = nI A := (k2 12 0 3 rfl).trans h12
  have hin : am_in (nI s) 256 = true := z_in hs2 (by omega)
  have hix : am_ix (nI s) = s := z_ix (by omega)
  have hSs : S s = decide (sd w (hw B n k (nI s) W) = 0) := by rw [hSe]; rfl
  have hsd16 := sd16 (v := hw B n k (nI s) W) hw16
  have hAs : (nI s = nI A) ↔ s = A := nI_eq (by omega) (by omega)
  have hcond : (nI (sd w (hw B n k (nI s) W)) = 0) ↔ S s = true := by
    rw [hSs, decide_eq_true_eq]
    exact nI_eq (b := 0) (by omega) (by omega)
  have ups : ∀ (P : am_M) (a b d : Int32) y, y ≠ s → (am_up (am_up (am_up P 13 0 s a) 15 0 s b) 16 0 s d) 13 0 y = P 13 0 y ∧ (am_up (am_up (am_up P 13 0 s a) 15 0 s b) 16 0 s d) 15 0 y = P 15 0 y ∧ (am_up (am_up (am_up P 13 0 s a) 15 0 s b) 16 0 s d) 16 0 y = P 16 0 y := by
    intro P a b d y hy
    refine ⟨?_, ?_, ?_⟩
    · exact am_up_ne (M := P) (a := 13) (b := 0) (c := s) (x := a) (Or.inr (Or.inr hy))
    · exact am_up_ne (M := am_up P 13 0 s a) (a := 15) (b := 0) (c := s) (x := b) (Or.inr (Or.inr hy))
    · exact am_up_ne (M := am_up (am_up P 13 0 s a) 15 0 s b) (a := 16) (b := 0) (c := s) (x := d) (Or.inr (Or.inr hy))
  have u13 : ∀ (P : am_M) (a b d : Int32), (am_up (am_up (am_up P 13 0 s a) 15 0 s b) 16 0 s d) 13 0 s = a := fun P a b d => am_up_self P 13 0 s a
  have u15 : ∀ (P : am_M) (a b d : Int32), (am_up (am_up (am_up P 13 0 s a) 15 0 s b) 16 0 s d) 15 0 s = b := fun P a b d => am_up_self (am_up P 13 0 s a) 15 0 s b
  have hfu : ∀ a b d, fS SR M (am_up (am_up (am_up N 13 0 s a) 15 0 s b) 16 0 s d) := fun a b d => fS_up (fS_up (fS_up (fS_mono S9_R k2) rfl) rfl) rfl
  have kN : ∀ y, N 13 0 y = M 13 0 y ∧ N 15 0 y = M 15 0 y ∧ N 16 0 y = M 16 0 y := fun y => ⟨k2 13 0 y rfl, k2 15 0 y rfl, k2 16 0 y rfl⟩
  have others : ∀ a b d y, y ≠ s → (am_up (am_up (am_up N 13 0 s a) 15 0 s b) 16 0 s d) 13 0 y = M 13 0 y ∧ (am_up (am_up (am_up N 13 0 s a) 15 0 s b) 16 0 s d) 15 0 y = M 15 0 y ∧ (am_up (am_up (am_up N 13 0 s a) 15 0 s b) 16 0 s d) 16 0 y = M 16 0 y := fun a b d y hy => by
    obtain ⟨o1, o2, o3⟩ := ups N a b d y hy
    obtain ⟨p1, p2, p3⟩ := kN y
    exact ⟨o1.trans p1, o2.trans p2, o3.trans p3⟩
  rw [rq_Pl_settle, c_isPlace_s (y := 256) (n := 256) rfl hs2 (by decide), z_bI, if_neg z_ne10, k1, z_bI, e1, nI_sd, hin, hix, e12]
  simp only [z_z0, z_z1, Bool.and_self, z_if, am_up_self, hAs, hcond]
  by_cases eA : s = A
  · simp only [if_pos eA]
    have hLA : LL A S 8 s = some 0 := by rw [eA]; exact LL_A 8
    cases hb : S s with
    | true =>
      rw [if_pos rfl, if_neg z_ne10]
      exact ⟨_, rfl, hfu _ _ _, ⟨by rw [hb]; exact u13 _ _ _ _, by rw [hLA]; exact u15 _ _ _ _, fun e w => by rw [hLA] at w; cases w⟩, others _ _ _⟩
    | false =>
      rw [if_neg (by decide), if_pos trivial]
      exact ⟨_, rfl, hfu _ _ _, ⟨by rw [hb]; exact u13 _ _ _ _, by rw [hLA]; exact u15 _ _ _ _, fun e w => by rw [hLA] at w; cases w⟩, others _ _ _⟩
  · simp only [if_neg eA]
    cases hb : S s with
    | true =>
      rw [if_pos rfl, if_neg z_ne10]
      have hor : ∀ q, q &&& sd A s = q → q ≠ 0 → s ||| q ≠ s := by
        intro q hq h0 w
        obtain ⟨i, hi⟩ := ne0_bit h0
        have h1 := (sub_bits.mp hq) i hi
        rw [sd_bit, Bool.and_eq_true] at h1
        have h2 := congrArg (fun x => x.testBit i) w
        simp only [Nat.testBit_or, hi, Bool.or_true] at h2
        rw [← h2] at h1
        cases h1.2
      obtain ⟨P, l1, l2, l3, l4, l5⟩ := c_choose (E := E) (A := A) (S := S) (s := s) (M := am_up (am_up (am_up N 13 0 s 1) 15 0 s (-1)) 16 0 s 0) hA hs eA hb e12 (fun q hq h0 => ((others 1 (-1) 0 _ (hor q hq h0)).1).trans (hd q hq h0).1) (fun q hq h0 => ((others 1 (-1) 0 _ (hor q hq h0)).2.1).trans (hd q hq h0).2.1) (u15 _ _ _ _)
      rw [l1, z_bV]
      refine ⟨P, rfl, fS_tr (hfu 1 (-1) 0) (fS_mono SC_R l2), ⟨?_, l4, l5⟩, fun y hy => ?_⟩
      · rw [hb]
        exact (l2 13 0 s rfl).trans (u13 _ _ _ _)
      · obtain ⟨o1, o2, o3⟩ := others 1 (-1) 0 y hy
        obtain ⟨p1, p2⟩ := l3 y hy
        exact ⟨(l2 13 0 y rfl).trans o1, p1.trans o2, p2.trans o3⟩
    | false =>
      have hLn := LL_unsound (A := A) (S := S) hb eA
      rw [if_neg (by decide), if_pos trivial]
      exact ⟨_, rfl, hfu _ _ _, ⟨by rw [hb]; exact u13 _ _ _ _, by rw [hLn]; exact u15 _ _ _ _, fun e w => by rw [hLn] at w; cases w⟩, others _ _ _⟩
theorem or_in_t {t p q : Nat} (hp : p &&& t = 0) (hq : q &&& t = 0) (h : t ||| q = t ||| p) : q = p := by
  rw [and0_iff] at hp hq
  apply bit_ext
  intro i
  have h1 := congrArg (fun x => x.testBit i) h
  simp only [Nat.testBit_or] at h1
  cases ht : t.testBit i with
  | false => rw [ht, Bool.false_or, Bool.false_or] at h1; exact h1
  | true =>
    have a : ∀ x : Nat, (∀ j, x.testBit j = true → t.testBit j = false) → x.testBit i = false := fun x hx => by
      cases hxi : x.testBit i with
      | false => rfl
      | true => rw [hx i hxi] at ht; cases ht
    rw [a q hq, a p hp]
theorem sub_t0 {A t p : Nat} (hp : p &&& sd A t = p) : p &&& t = 0 := and0_iff.mpr (fun i hi => by
  have := (sub_bits.mp hp) i hi
  rw [sd_bit, Bool.and_eq_true] at this
  have h2 := this.2
  cases ht : t.testBit i with
  | false => rfl
  | true => rw [ht] at h2; cases h2)
theorem c_findPlan {n k w t mo : Nat} {y : Int32} (hk : k < 3) (hN : iN n B) (hR : iR B) (hG : ∀ k, k < 3 → iG n (sr B k) (gl B k) (sz B k) k B) (hf : fr B M) (hTT : ∀ j, j < 3 → B 4 j 6 = B 33 0 j) (ht : B 4 k 6 = nI t) (htA : sd t (mv (B 5 k) (B 6 k)) = 0) (hw1 : B 1 0 1 = nI w) (hw16 : w < 16) (hy : y = nI mo) (hAe : A = mv (B 5 k) (B 6 k)) (hSe : S = sB B n k w (WT B (2 ^ k) mo)) : ∃ N, am_run (am_I2 E) mI_Pl_findPlan [.inr (.inl (some (12, 0))), .inl (nI k), .inl y] M = some (some (.inl (aI (LL A S 8 t).isSome)), N) ∧ fS SP M N ∧ N 12 0 2 = nI t ∧ ∀ q, q &&& sd A t = q → dn A S N (t ||| q) := by
  have hA : A < 256 := by rw [hAe]; exact mv_lt _ _
  have htA' : sd t A = 0 := by rw [hAe]; exact htA
  have ht2 := sub256 hA htA'
  have hrest := sd_lt (a := A) (b := t) hA
  have e6 : M 4 k 6 = nI t := (hf 4 k 6 rfl).trans ht
  have hf1 : fr B (am_up (am_up M 12 0 2 (nI t)) 12 0 3 (nI A)) := fr_up (fr_up hf rfl) rfl
  obtain ⟨N1, k1, k2, k3⟩ := c_weighT (E := E) (B := B) (M := am_up (am_up M 12 0 2 (nI t)) 12 0 3 (nI A)) (a := 2 ^ k) (m := mo) (x := (1 : Int32) <<< (nI k &&& 31)) (y := y) (nI_shl (by omega)) hy hN hR (fun k hk => ⟨_, _, _, hG k hk⟩) hf1 hTT
  have a2 : N1 12 0 2 = nI t := k2 12 0 2 rfl
  have a3 : N1 12 0 3 = nI A := k2 12 0 3 rfl
  have hfP : fS SP M N1 := fS_tr (fS_up (fS_up fS_rfl rfl) rfl) (fS_mono S11_P k2)
  have hmv : am_run (am_I2 E) mI_Fl_movers [.inr (.inl (some (4, k)))] (am_up M 12 0 2 (nI t)) = some (some (.inl (nI A)), am_up M 12 0 2 (nI t)) := by
    rw [c_movers, hAe]
    rw [show (am_up M 12 0 2 (nI t)) 5 k = B 5 k from funext (fun i => hf 5 k i rfl), show (am_up M 12 0 2 (nI t)) 6 k = B 6 k from funext (fun i => hf 6 k i rfl)]
  have hlast : ∀ N : am_M, N 12 0 2 = nI t → N 15 0 t = oI (LL A S 8 t) → am_bI (am_run (am_I2 E) mI_Pl_fewestFrom [.inr (.inl (some (12, 0))), .inl (N 12 0 2)] N) (fun v2 M2 => if v2 = -1 then (some (some (.inl 0), M2) : Option (Option am_V × am_M)) else (some (some (.inl 1), M2))) = some (some (.inl (aI (LL A S 8 t).isSome)), N) := by
    intro N hN2 h15
    rw [hN2, rq_Pl_fewestFrom, c_isPlace_s (y := 256) (n := 256) rfl ht2 (by decide), z_bI, if_neg z_ne10, z_in ht2 (by omega), z_if, z_ix (by omega), z_bI, h15]
    cases hl : LL A S 8 t with
    | none => rw [oI_none, if_pos rfl]; rfl
    | some d => rw [oI_some, if_neg (nI_m1 (LL_31 (by omega) hl))]; rfl
  have loop : ∀ j p i N, p ≤ j → p &&& sd A t = p → i + p ≤ 255 → fS SP M N → N 12 0 2 = nI t → N 12 0 3 = nI A → (∀ q, q < 64 → N 11 0 q = nI (WT B (2 ^ k) mo q)) → (∀ q, q &&& sd A t = q → p < q → dn A S N (t ||| q)) → ∃ N', am_ex (am_I2 E) mI_Pl_findPlan 62 [some (.inr (.inl (some (12, 0)))), some (.inl (nI k)), some (.inl y), some (.inr (.inl (some (4, k)))), some (.inl (nI (sd A t))), some (.inl (nI p)), some (.inl (nI i))] [] N = some (some (.inl (aI (LL A S 8 t).isSome)), N') ∧ fS SP M N' ∧ N' 12 0 2 = nI t ∧ ∀ q, q &&& sd A t = q → dn A S N' (t ||| q) := by
    intro j
    -- a set is settled
    have one : ∀ p i N, p &&& sd A t = p → i + p ≤ 255 → fS SP M N → N 12 0 2 = nI t → N 12 0 3 = nI A → (∀ q, q < 64 → N 11 0 q = nI (WT B (2 ^ k) mo q)) → (∀ q, q &&& sd A t = q → p < q → dn A S N (t ||| q)) → ∃ N2, am_run (am_I2 E) mI_Pl_settle [.inr (.inl (some (12, 0))), .inr (.inl (some (4, k))), .inl (nI (t ||| p))] N = some (none, N2) ∧ fS SP M N2 ∧ N2 12 0 2 = nI t ∧ N2 12 0 3 = nI A ∧ (∀ q, q < 64 → N2 11 0 q = nI (WT B (2 ^ k) mo q)) ∧ ∀ q, q &&& sd A t = q → p ≤ q → dn A S N2 (t ||| q) := by
      intro p i N hp hi hfN n2 n3 n11 hdn
      have hfB : fr B N := fS_tr hf (fS_mono SP_scr hfN)
      have hsp : sd (t ||| p) A = 0 := sub_or htA' hp
      obtain ⟨N2, l1, l2, l3, l4⟩ := c_settle (E := E) (B := B) (M := N) (A := A) (S := S) (s := t ||| p) hN hR (hG k hk) hfB (WT_le hG) n11 hw1 hw16 hA hSe hsp n3 (fun q hq h0 => by
        have hq2 : (p ||| q) &&& sd A t = p ||| q := sub_bits.mpr (fun i hi => by
          rw [Nat.testBit_or, Bool.or_eq_true] at hi
          rcases hi with hi | hi
          · exact (sub_bits.mp hp) i hi
          · have := (sub_bits.mp hq) i hi
            rw [sd_bit, Nat.testBit_or, Bool.and_eq_true] at this
            rw [sd_bit, this.1]
            have h2 := this.2
            cases ht : t.testBit i with
            | false => rfl
            | true => rw [ht] at h2; cases h2)
        have hlt : p < p ||| q := by
          have hle : p ≤ p ||| q := Nat.left_le_or
          have hne : p ≠ p ||| q := fun w => by
            obtain ⟨i, hi⟩ := ne0_bit h0
            have h1 := (sub_bits.mp hq) i hi
            rw [sd_bit, Nat.testBit_or, Bool.and_eq_true] at h1
            have h2 := congrArg (fun x => x.testBit i) w
            simp only [Nat.testBit_or, hi, Bool.or_true] at h2
            rw [h2, Bool.or_true] at h1
            cases h1.2
          omega
        have := hdn (p ||| q) hq2 hlt
        rw [← Nat.or_assoc] at this
        exact this)
      refine ⟨N2, l1, fS_tr hfN (fS_mono SR_P l2), (l2 12 0 2 rfl).trans n2, (l2 12 0 3 rfl).trans n3, fun q hq => (l2 11 0 q rfl).trans (n11 q hq), fun q hq hle => ?_⟩
      by_cases e : q = p
      · rw [e]; exact l3
      · obtain ⟨o1, o2, o3⟩ := l4 (t ||| q) (fun w => e (or_in_t (sub_t0 hp) (sub_t0 hq) w))
        obtain ⟨d1, d2, d3⟩ := hdn q hq (by omega)
        exact ⟨o1.trans d1, o2.trans d2, fun e' he' => by
          obtain ⟨r, hr1, hr2⟩ := d3 e' he'
          exact ⟨r, hr1, o3.trans hr2⟩⟩
    have fin : ∀ i N, i ≤ 255 → fS SP M N → N 12 0 2 = nI t → N 12 0 3 = nI A → (∀ q, q < 64 → N 11 0 q = nI (WT B (2 ^ k) mo q)) → (∀ q, q &&& sd A t = q → 0 < q → dn A S N (t ||| q)) → ∃ N', am_ex (am_I2 E) mI_Pl_findPlan 62 [some (.inr (.inl (some (12, 0)))), some (.inl (nI k)), some (.inl y), some (.inr (.inl (some (4, k)))), some (.inl (nI (sd A t))), some (.inl (nI 0)), some (.inl (nI i))] [] N = some (some (.inl (aI (LL A S 8 t).isSome)), N') ∧ fS SP M N' ∧ N' 12 0 2 = nI t ∧ ∀ q, q &&& sd A t = q → dn A S N' (t ||| q) := by
      intro i N hi hfN n2 n3 n11 hdn
      obtain ⟨N2, l1, l2, l3, l4, l5, l6⟩ := one 0 i N (Nat.zero_and _) (by omega) hfN n2 n3 n11 hdn
      have h256 : nI i < 256 := nI_lt (b := 256) (by omega) (by omega)
      refine ⟨N2, ?_, l2, l3, fun q hq => l6 q hq (by omega)⟩
      have d0 := l6 0 (Nat.zero_and _) (by omega)
      rw [Nat.or_zero] at d0
      rw [eq_Pl_findPlan_62, if_pos h256, n2, nI_or, l1, z_bV, if_pos (show nI 0 = 0 by decide)]
      exact hlast N2 l3 d0.2.1
    induction j with
    | zero =>
      intro p i N hp _ hi hfN n2 n3 n11 hdn
      have : p = 0 := by omega
      subst this
      exact fin i N (by omega) hfN n2 n3 n11 hdn
    | succ j ih =>
      intro p i N hp hpr hi hfN n2 n3 n11 hdn
      by_cases e0 : p = 0
      · subst e0
        exact fin i N (by omega) hfN n2 n3 n11 hdn
      · obtain ⟨d1, d2, d3⟩ := dnF (sd A t) hrest p (by omega) hpr e0
        obtain ⟨N2, l1, l2, l3, l4, l5, l6⟩ := one p i N hpr hi hfN n2 n3 n11 hdn
        have h256 : nI i < 256 := nI_lt (b := 256) (by omega) (by omega)
        rw [eq_Pl_findPlan_62, if_pos h256, n2, nI_or, l1, z_bV, if_neg (nI_ne0 (by omega) (by omega)), nI_dec e0, nI_and, nI_1]
        refine ih ((p - 1) &&& sd A t) (i + 1) N2 (by omega) d2 (by omega) l2 l3 l4 l5 (fun q hq hlt => l6 q hq ?_)
        rcases Nat.lt_or_ge q p with w | w
        · have := d3 q hq w; omega
        · exact w
  obtain ⟨N', q1, q2⟩ := loop (sd A t) (sd A t) 0 N1 (by omega) (Nat.and_self _) (by omega) hfP a2 a3 k3 (fun q hq hlt => by have := sub_le hq; omega)
  refine ⟨N', ?_, q2⟩
  rw [rq_Pl_findPlan, c_flowAt_s hk, z_bR, eq_Pl_findPlan_8v1, e6, hmv, z_bI, k1, z_bV, a2, a3, nI_sd]
  exact q1
theorem c_roundCount {t : Nat} (hA : A < 256) (ht : sd t A = 0) (h12 : M 12 0 2 = nI t) (h15 : M 15 0 t = oI (LL A S 8 t)) : am_run (am_I2 E) mI_Pl_roundCount [.inr (.inl (some (12, 0)))] M = some (some (.inl (oI (LL A S 8 t))), M) := by
  have ht2 := sub256 hA ht
  rw [rq_Pl_roundCount, h12, rq_Pl_fewestFrom, c_isPlace_s (y := 256) (n := 256) rfl ht2 (by decide), z_bI, if_neg z_ne10, z_in ht2 (by omega), z_if, z_ix (by omega), z_bI, h15]
theorem c_firstFrom {s : Nat} (hs : s < 256) : am_run (am_I2 E) mI_Pl_firstFrom [.inr (.inl (some (12, 0))), .inl (nI s)] M = some (some (.inl (M 16 0 s)), M) := by
  rw [rq_Pl_firstFrom, c_isPlace_s (y := 256) (n := 256) rfl hs (by decide), z_bI, if_neg z_ne10, z_in hs (by omega), z_if, z_ix (by omega)]
/-- the rounds of a plan, one behind another: both go the same way -/
theorem plan_way {t : Nat} {Na Nb : am_M} (hA : A < 256) (ht : sd t A = 0) (ha : ∀ q, q &&& sd A t = q → dn A S Na (t ||| q)) (hb : ∀ y e, sd y A = 0 → LL A S 8 y = some (e + 1) → ∃ r, isF A S y r ∧ Nb 49 0 y = nI r) {x1 x2 : Int32} : ∀ m i s j, sd s A = 0 → (∃ q, q &&& sd A t = q ∧ s = t ||| q) → i + m = j → j < 8 → (∃ e, LL A S 8 s = some (e + 1) ∧ m ≤ e) → ∃ r, 0 < r ∧ r < 256 ∧ am_ex (am_I2 E) mI_Pl_roundAt 7 [some (.inr (.inl (some (12, 0)))), some (.inl (nI j)), some (.inl (nI s)), some (.inl (nI i))] [] Na = some (some (.inl (nI r)), Na) ∧ am_ex (am_I2 E) mI_Mo_plan 59 [some (.inr (.inl (some (25, 0)))), some (.inl x1), some (.inl (nI j)), some (.inl (nI s)), some (.inl (nI i))] [] Nb = some (some (.inl (nI r)), Nb) := by
  intro m
  induction m with
  | zero =>
    intro i s j hs hq hij hj hL
    obtain ⟨q, hq1, hq2⟩ := hq
    obtain ⟨e, hL1, -⟩ := hL
    have hs2 := sub256 hA hs
    have hd := ha q hq1
    rw [← hq2] at hd
    obtain ⟨r, hr1, hr2⟩ := hd.2.2 e hL1
    obtain ⟨r', hr1', hr2'⟩ := hb s e hs hL1
    rw [isF_uni hr1' hr1] at hr2'
    obtain ⟨-, -, hsf, -⟩ := id hr1
    have hr256 : r < 256 := by have := sub_le hsf.2.1; have := sd_lt (a := A) (b := s) hA; omega
    refine ⟨r, hsf.1, hr256, ?_, ?_⟩
    · rw [eq_Pl_roundAt_7, if_neg (nI_nlt (by omega) (by omega)), c_firstFrom hs2, z_bI, hr2]
    · rw [eq_Mo_plan_59, if_neg (nI_nlt (by omega) (by omega)), z_in hs2 (by omega), z_if, z_ix (by omega), hr2']
  | succ m ih =>
    intro i s j hs hq hij hj hL
    obtain ⟨q, hq1, hq2⟩ := hq
    obtain ⟨e, hL1, hL2⟩ := hL
    have hs2 := sub256 hA hs
    have hd := ha q hq1
    rw [← hq2] at hd
    obtain ⟨r, hr1, hr2⟩ := hd.2.2 e hL1
    obtain ⟨r', hr1', hr2'⟩ := hb s e hs hL1
    rw [isF_uni hr1' hr1] at hr2'
    obtain ⟨e1, he1, hsf, hLr, -⟩ := id hr1
    have he : e1 = e := by rw [hL1] at he1; have := Option.some.inj he1; omega
    subst he
    have h8 : nI i < 8 := nI_lt (b := 8) (by omega) (by omega)
    obtain ⟨e2, he2⟩ : ∃ e2, e1 = e2 + 1 := ⟨e1 - 1, by omega⟩
    have hnext := ih (i + 1) (s ||| r) j (sub_or hs hsf.2.1) ⟨q ||| r, sub_bits.mpr (fun i hi => by
      rw [Nat.testBit_or, Bool.or_eq_true] at hi
      rcases hi with hi | hi
      · exact (sub_bits.mp hq1) i hi
      · have := (sub_bits.mp hsf.2.1) i hi
        rw [sd_bit, Bool.and_eq_true, hq2, Nat.testBit_or] at this
        rw [sd_bit, this.1]
        have h2 := this.2
        cases ht : t.testBit i with
        | false => rfl
        | true => rw [ht] at h2; cases h2), by rw [hq2, Nat.or_assoc]⟩ (by omega) hj ⟨e2, by rw [hLr, he2], by omega⟩
    obtain ⟨r2, k0, k00, k1, k2⟩ := hnext
    refine ⟨r2, k0, k00, ?_, ?_⟩
    · rw [eq_Pl_roundAt_7, if_pos (nI_lt (by omega) (by omega)), if_pos h8, c_firstFrom hs2, z_bI, hr2, nI_or, nI_1]
      exact k1
    · rw [eq_Mo_plan_59, if_pos (nI_lt (by omega) (by omega)), z_in hs2 (by omega), z_if, z_ix (by omega), hr2', nI_or, nI_1]
      exact k2
theorem m_plansNow {n k w : Nat} (hk : k < 3) (hN : iN n B) (hR : iR B) (hG : ∀ k, k < 3 → iG n (sr B k) (gl B k) (sz B k) k B) (hf : fr B M) (hw1 : B 25 0 8 = nI w) (hw16 : w < 16) (hAe : A = mv (B 5 k) (B 6 k)) (hSe : S = sB B n k w (WT B (2 ^ k) 0)) : ∃ N, am_run (am_I2 E) mI_Mo_plansNow [.inr (.inl (some (25, 0))), .inl (nI k)] M = some (none, N) ∧ fr B N ∧ (∀ y, sd y A = 0 → N 48 0 y = oI (LL A S 8 y)) ∧ ∀ y e, sd y A = 0 → LL A S 8 y = some (e + 1) → ∃ r, isF A S y r ∧ N 49 0 y = nI r := by
  obtain ⟨N3, m1, hf3, -, N4, m2, hf4, -, m3⟩ := m_turnedNeeds (E := E) (B := B) (M := M) hk hk hN hR (fun k hk => ⟨_, _, _, hG k hk⟩) hf
  rw [Nat.or_self] at m3
  obtain ⟨N5, q1, q2, q3, q4⟩ := m_plans (E := E) (B := B) (M := N4) (A := A) (S := S) hk hN hR (hG k hk) hf4 (WT_le hG) m3 hw1 hw16 hAe hSe
  refine ⟨N5, ?_, fS_tr hf4 (fS_mono SQ_scr q2), q3, q4⟩
  rw [rq_Mo_plansNow, m1, z_bV, m2, z_bV, q1, z_bV]
end
