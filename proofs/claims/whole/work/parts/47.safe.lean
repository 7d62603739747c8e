/-! stale letters; rounds safe or not; calls: turn, safe -/
theorem le0_iff {a : Nat} (ha : a < 2 ^ 31) : nI a ≤ 0 ↔ a = 0 := by
  have := nI_leI (b := 0) ha (by omega)
  constructor
  · intro h; have := this.mp h; omega
  · intro h; exact this.mpr (by omega)
theorem sub_le {p r : Nat} (h : p &&& r = p) : p ≤ r := by rw [← h]; exact Nat.and_le_right
def fm (x : Nat) : Int32 := if x.testBit 0 = true then 0 else if x.testBit 1 = true then 1 else if x.testBit 2 = true then 2 else if x.testBit 3 = true then 3 else -1
theorem fm_m1 : ∀ x, x < 16 → (fm x = -1 ↔ x = 0) := by decide
theorem sd16 {w v : Nat} (hw : w < 16) : sd w v < 16 := by
  apply Nat.lt_pow_two_of_testBit (n := 4)
  intro i hi
  rw [sd_bit, Nat.testBit_lt_two_pow (Nat.lt_of_lt_of_le (show w < 2 ^ 4 from hw) (Nat.pow_le_pow_right (by omega) hi)), Bool.false_and]
theorem and_sd16 : ∀ v, v < 16 → ∀ w, w < 16 → (v &&& w = w ↔ sd w v = 0) := by decide
/-- the least set that is not sound -/
def LU (P : Nat → Bool) (t r : Nat) (v : Int32) : Prop := (v = -1 ∧ ∀ p, p &&& r = p → P (t ||| p) = true) ∨ ∃ p, p &&& r = p ∧ v = nI (t ||| p) ∧ P (t ||| p) = false ∧ ∀ q, q &&& r = q → q < p → P (t ||| q) = true
theorem LU_uni {P : Nat → Bool} {t r : Nat} {v v' : Int32} (h : LU P t r v) (h' : LU P t r v') : v = v' := by
  rcases h with ⟨h1, h2⟩ | ⟨p, h1, h2, h3, h4⟩
  · rcases h' with ⟨k1, k2⟩ | ⟨q, k1, k2, k3, k4⟩
    · rw [h1, k1]
    · rw [h2 q k1] at k3; cases k3
  · rcases h' with ⟨k1, k2⟩ | ⟨q, k1, k2, k3, k4⟩
    · rw [k2 p h1] at h3; cases h3
    · rcases Nat.lt_trichotomy p q with e | e | e
      · rw [k4 p h1 e] at h3; cases h3
      · rw [h2, k2, e]
      · rw [h4 q k1 e] at k3; cases k3
noncomputable def sB (B : am_M) (n k w : Nat) (W : Nat → Nat) (s : Nat) : Bool := decide (sd w (hw B n k (nI s) W) = 0)
section
variable {E : am_E} {M B : am_M} {c : Nat}
def iS (m : Nat) (M : am_M) : Prop := ∀ i, i < m → ∃ f d, f < 3 ∧ M 19 (am_lx (M 18 0 i)) 0 = nI f ∧ M 38 0 (8 * i) = nI f ∧ M 19 (am_lx (M 18 0 i)) 4 = nI d ∧ M 38 0 (8 * i + 4) = nI d ∧ d ≤ (M 37 0 f).toNatClampNeg
theorem iS_L {n m : Nat} (h : iL n m M) : iS m M := by
  obtain ⟨l1, l2, l3, l4⟩ := h
  intro i hi
  obtain ⟨f, u, h, a, d, o, w, q, e, y0, y1, y2, y3, y4, y5, y6, y7⟩ := l4 i hi
  exact ⟨f, d, y0.1, y2.1, y2.2, y6.1, y6.2, y1⟩
theorem c_hasStale {k m D : Nat} (hk : k < 3) (hm : m ≤ 12) (h2 : M 17 0 2 = nI m) (hS : iS m M) (h10 : M 4 k 10 = nI D) (h37 : M 37 0 k = nI D) (hD : D < 2 ^ 31) : am_run (am_I2 E) mI_Ma_hasStale [.inr (.inl (some (17, 0))), .inl (nI k)] M = some (some (.inl (aI (sN (M 38 0) (nI k) (M 37 0 k) m))), M) := by
  rw [rq_Ma_hasStale]
  have key : ∀ j i, i + j = m → sN (M 38 0) (nI k) (M 37 0 k) i = false → am_ex (am_I2 E) mI_Ma_hasStale 2 [some (.inr (.inl (some (17, 0)))), some (.inl (nI k)), some (.inl (nI i))] [] M = some (some (.inl (aI (sN (M 38 0) (nI k) (M 37 0 k) m))), M) := by
    intro j
    induction j with
    | zero =>
      intro i hi hs
      rw [show i = m by omega] at hs ⊢
      rw [eq_Ma_hasStale_2, h2, if_neg (nI_nlt (by omega) (by omega)), hs]
      rfl
    | succ j ih =>
      intro i hi hs
      have h12 : nI i < 12 := nI_lt (b := 12) (by omega) (by omega)
      obtain ⟨f, d, hf, a1, a2, a3, a4, a5⟩ := hS i (by omega)
      rw [eq_Ma_hasStale_2, h2, if_pos (nI_lt (by omega) (by omega)), if_pos h12, z_in (by omega) (by omega), z_if, z_if, z_ix (by omega), a1, nI_1]
      have hnext := sN_succ (M 38 0) (nI k) (M 37 0 k) i
      rw [hs, Bool.false_or, a2, a4, h37] at hnext
      by_cases e : f = k
      · subst e
        rw [h37, nI_clamp hD] at a5
        rw [if_pos rfl, c_staleness hf a1 a3 h10, z_bI, pk_sub a5]
        by_cases e2 : d < D
        · rw [if_neg (fun w => by have := (le0_iff (by omega)).mp w; omega)]
          rw [decide_eq_true rfl, decide_eq_true (nI_lt e2 hD), Bool.true_and] at hnext
          rw [h37, sN_le hnext m (by omega)]
          rfl
        · rw [if_pos ((le0_iff (by omega)).mpr (by omega))]
          rw [decide_eq_true rfl, decide_eq_false (nI_nlt (by omega) (by omega)), Bool.true_and] at hnext
          exact ih (i + 1) (by omega) (by rw [h37]; exact hnext)
      · rw [if_neg (fun w => e ((nI_eq (by omega) (by omega)).mp w))]
        rw [decide_eq_false (fun w => e ((nI_eq (by omega) (by omega)).mp w)), Bool.false_and] at hnext
        exact ih (i + 1) (by omega) (by rw [h37]; exact hnext)
  exact key m 0 (by omega) rfl
theorem m_isStale {k m : Nat} (hk : k < 3) (hm : m ≤ 12) (h2 : M 25 0 16 = nI m) : am_run (am_I2 E) mI_Mo_isStale [.inr (.inl (some (25, 0))), .inl (nI k)] M = some (some (.inl (aI (sN (M 38 0) (nI k) (M 37 0 k) m))), M) := by
  rw [rq_Mo_isStale]
  have key : ∀ j i, i + j = m → am_ex (am_I2 E) mI_Mo_isStale 4 [some (.inr (.inl (some (25, 0)))), some (.inl (nI k)), some (.inl (aI (sN (M 38 0) (nI k) (M 37 0 k) i))), some (.inl (nI i))] [] M = some (some (.inl (aI (sN (M 38 0) (nI k) (M 37 0 k) m))), M) := by
    intro j
    induction j with
    | zero =>
      intro i hi
      have hz : ∀ b : Bool, am_z (aI b) = true := by decide
      rw [show i = m by omega, eq_Mo_isStale_4, h2, if_neg (nI_nlt (by omega) (by omega)), hz, z_if]
    | succ j ih =>
      intro i hi
      have hih := ih (i + 1) (by omega)
      rw [sN_succ] at hih
      rw [eq_Mo_isStale_4, h2, if_pos (nI_lt (by omega) (by omega)), z_8a 4 (y := 4) rfl, z_8m, z_in (by omega) (by omega), z_if, z_in (by omega) (by omega), z_if, z_in hk (by omega), z_if, z_ix (by omega), z_ix (by omega), z_ix (by omega), nI_1]
      cases hs : sN (M 38 0) (nI k) (M 37 0 k) i with
      | true =>
        rw [hs, Bool.true_or] at hih
        rw [aI_t, if_neg z_ne10]
        exact hih
      | false =>
        rw [hs, Bool.false_or] at hih
        rw [aI_f, if_pos rfl]
        by_cases e1 : M 38 0 (8 * i) = nI k
        · rw [decide_eq_true e1, Bool.true_and] at hih
          rw [if_pos e1]
          by_cases e2 : M 38 0 (8 * i + 4) < M 37 0 k
          · rw [decide_eq_true e2] at hih
            rw [if_pos e2]
            exact hih
          · rw [decide_eq_false e2] at hih
            rw [if_neg e2]
            exact hih
        · rw [decide_eq_false e1, Bool.false_and] at hih
          rw [if_neg e1]
          exact hih
  exact key m 0 (by omega)
theorem c_firstMissing {n k w : Nat} {x : Int32} {W : Nat → Nat} (hN : iN n B) (hR : iR B) (hG : iG n (sr B k) (gl B k) (sz B k) k B) (hf : fr B M) (hW : ∀ y, W y ≤ 27) (h11 : ∀ y, y < 64 → M 11 0 y = nI (W y)) (hw1 : B 1 0 1 = nI w) (hw16 : w < 16) : ∃ N, am_run (am_I2 E) mI_Ju_firstMissing [.inr (.inl (some (8, 0))), .inr (.inl (some (4, k))), .inl x] M = some (some (.inl (fm (sd w (hw B n k x W)))), N) ∧ fS S9 M N := by
  obtain ⟨N, k1, k2⟩ := c_whatHolds (E := E) (x := x) hN hR hG hf hW h11
  have ew : M 1 0 1 = nI w := (hf 1 0 1 rfl).trans hw1
  refine ⟨N, ?_, k2⟩
  rw [rq_Ju_firstMissing, k1, z_bI, ew, nI_sd]
  have step : ∀ i, i < 4 → am_ex (am_I2 E) mI_Ju_firstMissing 20 [some (.inr (.inl (some (8, 0)))), some (.inr (.inl (some (4, k)))), some (.inl x), some (.inl (nI (sd w (hw B n k x W)))), some (.inl (nI i))] [] N = if (sd w (hw B n k x W)).testBit i = true then some (some (.inl (nI i)), N) else am_ex (am_I2 E) mI_Ju_firstMissing 20 [some (.inr (.inl (some (8, 0)))), some (.inr (.inl (some (4, k)))), some (.inl x), some (.inl (nI (sd w (hw B n k x W)))), some (.inl (nI (i + 1)))] [] N := by
    intro i hi
    have h4 : nI i < 4 := nI_lt (b := 4) hi (by omega)
    rw [eq_Ju_firstMissing_20, if_pos h4, nI_1]
    cases hb : (sd w (hw B n k x W)).testBit i with
    | true =>
      have hne : ¬ nI (sd w (hw B n k x W)) &&& (1 : Int32) <<< (nI i &&& 31) = 0 := fun z => by
        have := (bt_ne0 (by omega)).mp z
        rw [bt_nI _ _ (by omega), hb] at this
        cases this
      rw [if_neg hne, if_pos rfl]
    | false => rw [if_pos ((bt_ne0 (by omega)).mpr (by rw [bt_nI _ _ (by omega)]; exact hb)), if_neg (by decide)]
  have last : am_ex (am_I2 E) mI_Ju_firstMissing 20 [some (.inr (.inl (some (8, 0)))), some (.inr (.inl (some (4, k)))), some (.inl x), some (.inl (nI (sd w (hw B n k x W)))), some (.inl (nI 4))] [] N = some (some (.inl (-1)), N) := by
    rw [eq_Ju_firstMissing_20, if_neg (by decide)]
  have s0 := step 0 (by omega)
  have s1 := step 1 (by omega)
  have s2 := step 2 (by omega)
  have s3 := step 3 (by omega)
  refine Eq.trans s0 ?_
  rw [s1, s2, s3, last]
  unfold fm
  split
  · rfl
  · split
    · rfl
    · split
      · rfl
      · split <;> rfl
theorem m_isSound {n k w : Nat} {x : Int32} {W : Nat → Nat} (hk : k < 3) (hN : iN n B) (hR : iR B) (hG : iG n (sr B k) (gl B k) (sz B k) k B) (hf : fr B M) (hW : ∀ y, W y ≤ 27) (h46 : ∀ y, y < 64 → M 46 0 y = nI (W y)) (hw1 : B 25 0 8 = nI w) (hw16 : w < 16) : ∃ N, am_run (am_I2 E) mI_Mo_isSound [.inr (.inl (some (25, 0))), .inl (nI k), .inl x] M = some (some (.inl (aI (decide (sd w (hw B n k x W) = 0)))), N) ∧ fS S44 M N := by
  obtain ⟨N, k1, k2⟩ := m_holds (E := E) (x := x) hk hN hR hG hf hW h46
  have ew : N 25 0 8 = nI w := (k2 25 0 8 rfl).trans ((hf 25 0 8 rfl).trans hw1)
  refine ⟨N, ?_, k2⟩
  have hv := hw_lt B n k x W
  have hiff := and_sd16 (hw B n k x W) hv w hw16
  have hand : hw B n k x W &&& w < 2 ^ 31 := Nat.lt_of_le_of_lt Nat.and_le_left (by omega)
  rw [rq_Mo_isSound, k1, z_bI, ew, nI_and]
  by_cases e : sd w (hw B n k x W) = 0
  · rw [if_pos (by rw [hiff.mpr e]), decide_eq_true e]
    rfl
  · rw [if_neg (fun z => e (hiff.mp ((nI_eq hand (by omega)).mp z))), decide_eq_false e]
    rfl
theorem c_firstUnsound {n k t r w : Nat} (hk : k < 3) (hN : iN n B) (hR : iR B) (hG : ∀ k, k < 3 → iG n (sr B k) (gl B k) (sz B k) k B) (hf : fr B M) (hTT : ∀ j, j < 3 → B 4 j 6 = B 33 0 j) (ht : B 4 k 6 = nI t) (ht2 : t < 256) (hr : r < 256) (hw1 : B 1 0 1 = nI w) (hw16 : w < 16) : ∃ v N, am_run (am_I2 E) mI_Ju_firstUnsound [.inr (.inl (some (8, 0))), .inl (nI k), .inl (nI r)] M = some (some (.inl v), N) ∧ fS S11 M N ∧ (∀ q, q < 64 → N 11 0 q = nI (WT B (2 ^ k) 0 q)) ∧ LU (sB B n k w (WT B (2 ^ k) 0)) t r v := by
  obtain ⟨N1, k1, k2, k3⟩ := c_weighT (E := E) (B := B) (M := M) (a := 2 ^ k) (m := 0) (x := (1 : Int32) <<< (nI k &&& 31)) (y := 0) (nI_shl (by omega)) rfl hN hR (fun k hk => ⟨_, _, _, hG k hk⟩) hf hTT
  rw [rq_Ju_firstUnsound, c_flowAt_s hk, z_bR, eq_Ju_firstUnsound_8v1, k1, z_bV]
  have loop : ∀ j p i N, r ≤ p + j → p &&& r = p → i ≤ p → fS S11 M N → (∀ q, q < 64 → N 11 0 q = nI (WT B (2 ^ k) 0 q)) → (∀ q, q &&& r = q → q < p → sB B n k w (WT B (2 ^ k) 0) (t ||| q) = true) → ∃ v N', am_ex (am_I2 E) mI_Ju_firstUnsound 29 [some (.inr (.inl (some (8, 0)))), some (.inl (nI k)), some (.inl (nI r)), some (.inr (.inl (some (4, k)))), some (.inl (nI p)), some (.inl (nI i))] [] N = some (some (.inl v), N') ∧ fS S11 M N' ∧ (∀ q, q < 64 → N' 11 0 q = nI (WT B (2 ^ k) 0 q)) ∧ LU (sB B n k w (WT B (2 ^ k) 0)) t r v := by
    intro j
    induction j with
    | zero =>
      intro p i N hj hp hi hfN h11 hq
      have hpr := sub_le hp
      have hpe : p = r := by omega
      have hfB : fr B N := fr_11 hf hfN
      have e6 : N 4 k 6 = nI t := (hfB 4 k 6 rfl).trans ht
      have h256 : nI i < 256 := nI_lt (b := 256) (by omega) (by omega)
      obtain ⟨N2, l1, l2⟩ := c_firstMissing (E := E) (B := B) (M := N) (x := nI (t ||| p)) hN hR (hG k hk) hfB (WT_le hG) h11 hw1 hw16
      have e62 : N2 4 k 6 = nI t := (l2 4 k 6 rfl).trans e6
      have hm := fm_m1 (sd w (hw B n k (nI (t ||| p)) (WT B (2 ^ k) 0))) (sd16 hw16)
      rw [eq_Ju_firstUnsound_29, if_pos h256, e6, nI_or, l1, z_bI, e62, nI_or]
      by_cases e : sd w (hw B n k (nI (t ||| p)) (WT B (2 ^ k) 0)) = 0
      · rw [if_pos (hm.mpr e), if_pos (by rw [hpe])]
        refine ⟨-1, N2, rfl, fS_tr hfN (fS_mono S9_11 l2), fun q hq2 => (l2 11 0 q rfl).trans (h11 q hq2), Or.inl ⟨rfl, fun q hqr => ?_⟩⟩
        have := sub_le hqr
        by_cases eq : q = p
        · rw [eq]; exact decide_eq_true e
        · exact hq q hqr (by omega)
      · rw [if_neg (fun z => e (hm.mp z))]
        exact ⟨nI (t ||| p), N2, rfl, fS_tr hfN (fS_mono S9_11 l2), fun q hq2 => (l2 11 0 q rfl).trans (h11 q hq2), Or.inr ⟨p, hp, rfl, decide_eq_false e, hq⟩⟩
    | succ j ih =>
      intro p i N hj hp hi hfN h11 hq
      have hpr := sub_le hp
      have hfB : fr B N := fr_11 hf hfN
      have e6 : N 4 k 6 = nI t := (hfB 4 k 6 rfl).trans ht
      have h256 : nI i < 256 := nI_lt (b := 256) (by omega) (by omega)
      obtain ⟨N2, l1, l2⟩ := c_firstMissing (E := E) (B := B) (M := N) (x := nI (t ||| p)) hN hR (hG k hk) hfB (WT_le hG) h11 hw1 hw16
      have e62 : N2 4 k 6 = nI t := (l2 4 k 6 rfl).trans e6
      have hm := fm_m1 (sd w (hw B n k (nI (t ||| p)) (WT B (2 ^ k) 0))) (sd16 hw16)
      rw [eq_Ju_firstUnsound_29, if_pos h256, e6, nI_or, l1, z_bI, e62, nI_or]
      by_cases e : sd w (hw B n k (nI (t ||| p)) (WT B (2 ^ k) 0)) = 0
      · rw [if_pos (hm.mpr e)]
        by_cases hpe : p = r
        · rw [if_pos (by rw [hpe])]
          refine ⟨-1, N2, rfl, fS_tr hfN (fS_mono S9_11 l2), fun q hq2 => (l2 11 0 q rfl).trans (h11 q hq2), Or.inl ⟨rfl, fun q hqr => ?_⟩⟩
          have := sub_le hqr
          by_cases eq : q = p
          · rw [eq]; exact decide_eq_true e
          · exact hq q hqr (by omega)
        · obtain ⟨u1, u2, u3⟩ := nxF_up r hr p (by omega) hp hpe
          rw [if_neg (fun z => hpe ((nI_eq (by omega) (by omega)).mp z)), nxF_eq r hr p (by omega) hp, nI_1]
          refine ih (nxF r p) (i + 1) N2 (by omega) u2 (by omega) (fS_tr hfN (fS_mono S9_11 l2)) (fun q hq2 => (l2 11 0 q rfl).trans (h11 q hq2)) (fun q hqr hlt => ?_)
          rcases Nat.lt_trichotomy q p with h | h | h
          · exact hq q hqr h
          · rw [h]; exact decide_eq_true e
          · exfalso
            refine u3 (q - p - 1) (by omega) ?_
            rw [show p + 1 + (q - p - 1) = q by omega]
            exact hqr
      · rw [if_neg (fun z => e (hm.mp z))]
        exact ⟨nI (t ||| p), N2, rfl, fS_tr hfN (fS_mono S9_11 l2), fun q hq2 => (l2 11 0 q rfl).trans (h11 q hq2), Or.inr ⟨p, hp, rfl, decide_eq_false e, hq⟩⟩
  exact loop r 0 0 N1 (by omega) (Nat.zero_and r) (by omega) k2 k3 (fun q _ h => absurd h (by omega))
theorem sd_or_t {s t r : Nat} (h : sd s r = t) : s = t ||| (s &&& r) := by
  rw [← h]
  apply bit_ext
  intro i
  rw [Nat.testBit_or, sd_bit, Nat.testBit_and]
  cases s.testBit i <;> cases r.testBit i <;> rfl
theorem sd_of_or {t r p : Nat} (hrt : r &&& t = 0) (hp : p &&& r = p) : sd (t ||| p) r = t := by
  rw [and0_iff] at hrt
  apply bit_ext
  intro i
  have h1 := congrArg (fun x => x.testBit i) hp
  simp only [Nat.testBit_and] at h1
  rw [sd_bit, Nat.testBit_or]
  cases hr : r.testBit i with
  | true => rw [hrt i hr, Bool.not_true, Bool.and_false]
  | false =>
    rw [hr, Bool.and_false] at h1
    rw [← h1, Bool.or_false, Bool.not_false, Bool.and_true]
theorem m_leastUnsound {n k t r w : Nat} (hk : k < 3) (hN : iN n B) (hR : iR B) (hG : ∀ k, k < 3 → iG n (sr B k) (gl B k) (sz B k) k B) (hf : fr B M) (ht : B 33 0 k = nI t) (ht2 : t < 256) (hr : r < 256) (hrt : r &&& t = 0) (hw1 : B 25 0 8 = nI w) (hw16 : w < 16) : ∃ v N, am_run (am_I2 E) mI_Mo_leastUnsound [.inr (.inl (some (25, 0))), .inl (nI k), .inl (nI r)] M = some (some (.inl v), N) ∧ fr B N ∧ (∀ q, q < 64 → N 46 0 q = nI (WT B (2 ^ k) 0 q)) ∧ LU (sB B n k w (WT B (2 ^ k) 0)) t r v := by
  obtain ⟨N3, m1, hf3, -, N4, m2, hf4, -, m3⟩ := m_turnedNeeds (E := E) (B := B) (M := M) hk hk hN hR (fun k hk => ⟨_, _, _, hG k hk⟩) hf
  rw [Nat.or_self] at m3
  rw [rq_Mo_leastUnsound, m1, z_bV, m2, z_bV]
  have loop : ∀ j i N, i + j = 256 → fr B N → (∀ q, q < 64 → N 46 0 q = nI (WT B (2 ^ k) 0 q)) → (∀ s, s < i → sd s r = t → sB B n k w (WT B (2 ^ k) 0) s = true) → ∃ v N', am_ex (am_I2 E) mI_Mo_leastUnsound 12 [some (.inr (.inl (some (25, 0)))), some (.inl (nI k)), some (.inl (nI r)), some (.inl (nI i))] [] N = some (some (.inl v), N') ∧ fr B N' ∧ (∀ q, q < 64 → N' 46 0 q = nI (WT B (2 ^ k) 0 q)) ∧ LU (sB B n k w (WT B (2 ^ k) 0)) t r v := by
    intro j
    induction j with
    | zero =>
      intro i N hi hfB h46 hq
      have h256 : ¬ nI i < 256 := nI_nlt (b := 256) (by omega) (by omega)
      rw [eq_Mo_leastUnsound_12, if_neg h256]
      refine ⟨-1, N, rfl, hfB, h46, Or.inl ⟨rfl, fun p hp => hq (t ||| p) ?_ (sd_of_or hrt hp)⟩⟩
      have := sub_le hp
      have := or_lt ht2 (show p < 256 by omega)
      omega
    | succ j ih =>
      intro i N hi hfB h46 hq
      have h256 : nI i < 256 := nI_lt (b := 256) (by omega) (by omega)
      have e33 : N 33 0 k = nI t := (hfB 33 0 k rfl).trans ht
      rw [eq_Mo_leastUnsound_12, if_pos h256, z_in hk (by omega), z_if, z_ix (by omega), nI_sd, e33, nI_1]
      have hsd := sd_lt (a := i) (b := r) (by omega)
      by_cases e : sd i r = t
      · rw [if_pos (by rw [e])]
        obtain ⟨N2, l1, l2⟩ := m_isSound (E := E) (B := B) (M := N) (x := nI i) hk hN hR (hG k hk) hfB (WT_le hG) h46 hw1 hw16
        rw [l1, z_bI]
        by_cases e2 : sd w (hw B n k (nI i) (WT B (2 ^ k) 0)) = 0
        · rw [decide_eq_true e2, aI_t, if_neg z_ne10]
          refine ih (i + 1) N2 (by omega) (fr_44 hfB l2) (fun q hq2 => (l2 46 0 q rfl).trans (h46 q hq2)) (fun s hs hst => ?_)
          by_cases es : s = i
          · rw [es]; exact decide_eq_true e2
          · exact hq s (by omega) hst
        · rw [decide_eq_false e2, aI_f, if_pos rfl]
          have hip := sd_or_t e
          refine ⟨nI i, N2, rfl, fr_44 hfB l2, fun q hq2 => (l2 46 0 q rfl).trans (h46 q hq2), Or.inr ⟨i &&& r, ?_, ?_, ?_, fun q hqr hlt => ?_⟩⟩
          · rw [Nat.and_assoc, Nat.and_self]
          · rw [← hip]
          · rw [← hip]; exact decide_eq_false e2
          · refine hq (t ||| q) ?_ (sd_of_or hrt hqr)
            have hqle := sub_le hqr
            have d0 : ∀ y, y &&& r = y → t &&& y = 0 := by
              intro y hy
              rw [Nat.and_comm, ← hy, Nat.and_assoc, hrt, Nat.and_zero]
            have hile : i &&& r ≤ r := Nat.and_le_right
            have a1 := or_add t ht2 q (by omega) (d0 q hqr)
            have a2 := or_add t ht2 (i &&& r) (by omega) (d0 _ (by rw [Nat.and_assoc, Nat.and_self]))
            omega
      · rw [if_neg (fun z => e ((nI_eq (by omega) (by omega)).mp z))]
        refine ih (i + 1) N (by omega) hfB h46 (fun s hs hst => ?_)
        by_cases es : s = i
        · rw [es] at hst; exact absurd hst e
        · exact hq s (by omega) hst
  exact loop 256 0 N4 (by omega) hf4 m3 (fun s h => absurd h (by omega))
theorem m_firstHas {x : Nat} {k : Nat} {x2 x3 x4 : Int32} (hx : x < 16) (h0 : x ≠ 0) : am_ex (am_I2 E) mI_Mo_safe 91 [some (.inr (.inl (some (25, 0)))), some (.inl (nI k)), some (.inl x2), some (.inl x3), some (.inl x4), some (.inl (nI x)), some (.inl 0)] [] M = some (some (.inl (fm x)), M) := by
  have step : ∀ i, i < 4 → am_ex (am_I2 E) mI_Mo_safe 91 [some (.inr (.inl (some (25, 0)))), some (.inl (nI k)), some (.inl x2), some (.inl x3), some (.inl x4), some (.inl (nI x)), some (.inl (nI i))] [] M = if x.testBit i = true then some (some (.inl (nI i)), M) else am_ex (am_I2 E) mI_Mo_safe 91 [some (.inr (.inl (some (25, 0)))), some (.inl (nI k)), some (.inl x2), some (.inl x3), some (.inl x4), some (.inl (nI x)), some (.inl (nI (i + 1)))] [] M := by
    intro i hi
    rw [eq_Mo_safe_91, m_has (by omega), z_bI, bt_nI _ _ (by omega), nI_1]
    cases hb : x.testBit i with
    | true => rw [if_pos rfl, if_neg z_ne10, if_pos rfl]
    | false => rw [if_pos (show (if false = true then (1 : Int32) else 0) = 0 by decide), if_neg (by decide)]
  have hbit : ∀ x, x < 16 → x ≠ 0 → x.testBit 0 = false → x.testBit 1 = false → x.testBit 2 = false → x.testBit 3 = true := by decide
  refine Eq.trans (step 0 (by omega)) ?_
  rw [step 1 (by omega), step 2 (by omega), step 3 (by omega)]
  unfold fm
  by_cases e0 : x.testBit 0 = true
  · rw [if_pos e0, if_pos e0]; rfl
  · rw [if_neg e0, if_neg e0]
    by_cases e1 : x.testBit 1 = true
    · rw [if_pos e1, if_pos e1]; rfl
    · rw [if_neg e1, if_neg e1]
      by_cases e2 : x.testBit 2 = true
      · rw [if_pos e2, if_pos e2]; rfl
      · have e3 := hbit x hx h0 (by simpa using e0) (by simpa using e1) (by simpa using e2)
        rw [if_neg e2, if_neg e2, if_pos e3, if_pos e3]; rfl
theorem op_safe (hI : Inv c M) (x y z : Int32) : pr E c M mI_Mx_safe mI_Mo_safe [.inl x, .inl y, .inl z] := by
  obtain ⟨n, hN, ⟨⟨w, hw16, hwa, hwb⟩, hs⟩, hR, h4, h5, h6⟩ := id hI
  have hn := hN.1
  have hGc : ∀ k, k < 3 → iG n (sr M k) (gl M k) (sz M k) k M := fun k hk => by
    obtain ⟨s, g, z, h⟩ := h4 k hk
    exact iG_can hn.2 h
  have hTT : ∀ j, j < 3 → M 4 j 6 = M 33 0 j := fun j hj => by
    obtain ⟨t, m, p, d, -, f1, -⟩ := h5 j hj
    rw [f1.1, f1.2]
  rcases ob_or x (n := 3) (by omega) with hx | ⟨k, hk, rfl⟩
  · refine ⟨-2, M, M, ?_, ?_, Inv_mono hI⟩
    · rw [rq_Mx_safe, c_flowAt_n hx, z_bR, eq_Mx_safe_8v0]
    · rw [rq_Mo_safe, m_isFlow_n hx, z_bI, if_pos rfl]
  · have hG := hGc k hk
    obtain ⟨t, m, p, d, hH⟩ := h5 k hk
    obtain ⟨f0, f1, f2, f3, f4, f5⟩ := id hH
    by_cases hr : ∃ r, isR y (mv (M 5 k) (M 6 k)) t r
    · obtain ⟨r, hRr⟩ := hr
      obtain ⟨r0, r1, rfl, r3, r4⟩ := id hRr
      rcases ob_or z (n := 3) (by omega) with hz | ⟨j, hj, rfl⟩
      · refine ⟨-3, M, M, ?_, ?_, Inv_mono hI⟩
        · rw [rq_Mx_safe, c_flowAt_s hk, z_bR, eq_Mx_safe_8v1, c_isRound_s f1.1 hRr, z_bI, if_neg z_ne10]
          rcases hz with hz | hz
          · rw [if_pos hz]
          · by_cases hz0 : z < 0
            · rw [if_pos hz0]
            · rw [if_neg hz0, if_neg]
              intro hz2
              exact absurd (Int32.le_trans hz hz2) (by decide)
        · rw [rq_Mo_safe, m_isFlow_s hk, z_bI, if_neg z_ne10, m_isRound_s hk (mvr fr_rfl hG) f1.2 hRr, z_bI, if_neg z_ne10, m_in_n (a := 0) (b := 2) (A := Int64.ofNat 0) (B := 2) rfl rfl (ob_gt hz (by decide)), z_bI, if_pos rfl]
      · have hj2 : nI j ≤ 2 := nI_le (b := 2) (by omega) (by omega)
        obtain ⟨v, N1, k1, k2, k3, k4⟩ := c_firstUnsound (E := E) (B := M) (M := M) hk hN hR hGc fr_rfl hTT f1.1 f0.1 r1 hwa hw16
        have hf1 : fr M N1 := fr_11 fr_rfl k2
        have A1 : ∀ X, am_run (am_I2 E) mI_Mx_safe [.inr (.inl (some (0, 0))), .inl (nI k), .inl (nI r), .inl (nI j)] M = X ↔ (if nI j = 0 then (if v = -1 then some (some (.inl 1), N1) else some (some (.inl 0), N1)) else if nI j = 1 then some (some (.inl v), N1) else if v = -1 then some (some (.inl v), N1) else am_bI (am_run (am_I2 E) mI_Ju_firstMissing [.inr (.inl (some (8, 0))), .inr (.inl (some (4, k))), .inl v] N1) (fun v3 M3 => some (some (.inl v3), M3))) = X := by
          intro X
          rw [rq_Mx_safe, c_flowAt_s hk, z_bR, eq_Mx_safe_8v1, c_isRound_s f1.1 hRr, z_bI, if_neg z_ne10, if_neg (nI_pos (by omega)), if_pos hj2, k1, z_bI]
        have A2 : ∀ P, fr M P → ∃ P1, fr M P1 ∧ (∀ q, q < 64 → P1 46 0 q = nI (WT M (2 ^ k) 0 q)) ∧ ∀ X, am_run (am_I2 E) mI_Mo_safe [.inr (.inl (some (25, 0))), .inl (nI k), .inl (nI r), .inl (nI j)] P = X ↔ (if nI j = 0 then (if v = -1 then some (some (.inl 1), P1) else some (some (.inl 0), P1)) else if nI j = 1 then some (some (.inl v), P1) else if v = -1 then some (some (.inl v), P1) else am_bI (am_run (am_I2 E) mI_Mo_holds [.inr (.inl (some (25, 0))), .inl (nI k), .inl v] P1) (fun v5 M5 => am_ex (am_I2 E) mI_Mo_safe 91 [some (.inr (.inl (some (25, 0)))), some (.inl (nI k)), some (.inl (nI r)), some (.inl (nI j)), some (.inl v), some (.inl ((P1 25 0 8) &&& (v5 ^^^ (-1 : Int32)))), some (.inl 0)] [] M5)) = X := by
          intro P hP
          obtain ⟨v', P1, q1, q2, q3, q4⟩ := m_leastUnsound (E := E) (B := M) (M := P) hk hN hR hGc hP f1.2 f0.1 r1 r4 hwb hw16
          have hv : v' = v := LU_uni q4 k4
          subst hv
          refine ⟨P1, q2, q3, fun X => ?_⟩
          rw [rq_Mo_safe, m_isFlow_s hk, z_bI, if_neg z_ne10, m_isRound_s hk (mvr hP hG) ((hP 33 0 k rfl).trans f1.2) hRr, z_bI, if_neg z_ne10, m_in_s (a := 0) (b := 2) (A := Int64.ofNat 0) (B := 2) rfl rfl (nI_pos (by omega)) hj2, z_bI, if_neg z_ne10, q1, z_bI]
        have hjj : j = 0 ∨ j = 1 ∨ j = 2 := by omega
        rcases hjj with rfl | rfl | rfl
        · obtain ⟨P1, p1, p2, p3⟩ := A2 N1 hf1
          by_cases ev : v = -1
          · refine ⟨1, N1, P1, ?_, ?_, Inv_fr p1 (Inv_mono hI)⟩
            · rw [A1, if_pos (by decide), if_pos ev]
            · rw [p3, if_pos (by decide), if_pos ev]
          · refine ⟨0, N1, P1, ?_, ?_, Inv_fr p1 (Inv_mono hI)⟩
            · rw [A1, if_pos (by decide), if_neg ev]
            · rw [p3, if_pos (by decide), if_neg ev]
        · obtain ⟨P1, p1, p2, p3⟩ := A2 N1 hf1
          refine ⟨v, N1, P1, ?_, ?_, Inv_fr p1 (Inv_mono hI)⟩
          · rw [A1, if_neg (by decide), if_pos (by decide)]
          · rw [p3, if_neg (by decide), if_pos (by decide)]
        · by_cases ev : v = -1
          · obtain ⟨P1, p1, p2, p3⟩ := A2 N1 hf1
            refine ⟨v, N1, P1, ?_, ?_, Inv_fr p1 (Inv_mono hI)⟩
            · rw [A1, if_neg (by decide), if_neg (by decide), if_pos ev]
            · rw [p3, if_neg (by decide), if_neg (by decide), if_pos ev]
          · have hvp : ∃ s, v = nI s ∧ sd w (hw M n k (nI s) (WT M (2 ^ k) 0)) ≠ 0 := by
              rcases k4 with ⟨w1, -⟩ | ⟨p, -, w1, w2, -⟩
              · exact absurd w1 ev
              · exact ⟨t ||| p, w1, of_decide_eq_false w2⟩
            obtain ⟨s, hvs, hne⟩ := hvp
            obtain ⟨N2, l1, l2⟩ := c_firstMissing (E := E) (B := M) (M := N1) (x := v) hN hR hG hf1 (WT_le hGc) k3 hwa hw16
            have hf2 : fr M N2 := fr_9 hf1 l2
            obtain ⟨P1, p1, p2, p3⟩ := A2 N2 hf2
            obtain ⟨P2, q1, q2⟩ := m_holds (E := E) (B := M) (M := P1) (x := v) hk hN hR hG p1 (WT_le hGc) p2
            have hp2 : fr M P2 := fr_44 p1 q2
            refine ⟨fm (sd w (hw M n k v (WT M (2 ^ k) 0))), N2, P2, ?_, ?_, Inv_fr hp2 (Inv_mono hI)⟩
            · rw [A1, if_neg (by decide), if_neg (by decide), if_neg ev, l1, z_bI]
            · rw [p3, if_neg (by decide), if_neg (by decide), if_neg ev, q1, z_bI, (p1 25 0 8 rfl).trans hwb, nI_sd, m_firstHas (sd16 hw16) (by rw [hvs]; exact hne)]
    · refine ⟨-3, M, M, ?_, ?_, Inv_mono hI⟩
      · rw [rq_Mx_safe, c_flowAt_s hk, z_bR, eq_Mx_safe_8v1, c_isRound_n f1.1 hr, z_bI, if_pos rfl]
      · rw [rq_Mo_safe, m_isFlow_s hk, z_bI, if_neg z_ne10, m_isRound_n hk (mvr fr_rfl hG) f1.2 hr, z_bI, if_pos rfl]
end
