/-! sets, rounds, what a change of a flow's turning leaves -/
theorem bit_ext {a b : Nat} (h : ∀ i, a.testBit i = b.testBit i) : a = b := Nat.eq_of_testBit_eq h
theorem sd0_iff {a b : Nat} : sd a b = 0 ↔ ∀ i, a.testBit i = true → b.testBit i = true := by
  constructor
  · intro h i hi
    have := sd_bit a b i
    rw [h, Nat.zero_testBit, hi] at this
    cases hb : b.testBit i with
    | true => rfl
    | false => rw [hb] at this; cases this
  · intro h
    apply bit_ext
    intro i
    rw [sd_bit, Nat.zero_testBit]
    cases ha : a.testBit i with
    | false => rfl
    | true => rw [h i ha]; rfl
theorem and0_iff {a b : Nat} : a &&& b = 0 ↔ ∀ i, a.testBit i = true → b.testBit i = false := by
  constructor
  · intro h i hi
    have := Nat.testBit_and a b i
    rw [h, Nat.zero_testBit, hi] at this
    cases hb : b.testBit i with
    | false => rfl
    | true => rw [hb] at this; cases this
  · intro h
    apply bit_ext
    intro i
    rw [Nat.testBit_and, Nat.zero_testBit]
    cases ha : a.testBit i with
    | false => rfl
    | true => rw [h i ha]; rfl
theorem b8 {a i : Nat} (ha : a < 256) (hi : a.testBit i = true) : i < 8 := by
  rcases Nat.lt_or_ge i 8 with h | h
  · exact h
  · have : a < 2 ^ i := Nat.lt_of_lt_of_le (show a < 2 ^ 8 from ha) (Nat.pow_le_pow_right (by omega) h)
    rw [Nat.testBit_lt_two_pow this] at hi
    cases hi
theorem lt256 {a : Nat} (h : ∀ i, a.testBit i = true → i < 8) : a < 256 := by
  apply Nat.lt_pow_two_of_testBit (n := 8)
  intro i hi
  cases e : a.testBit i with
  | false => rfl
  | true => exact absurd (h i e) (by omega)
theorem sd_lt {a b : Nat} (ha : a < 256) : sd a b < 256 := lt256 (fun i hi => by
  rw [sd_bit, Bool.and_eq_true] at hi
  exact b8 ha hi.1)
theorem or_lt {a b : Nat} (ha : a < 256) (hb : b < 256) : a ||| b < 256 := Nat.or_lt_two_pow (n := 8) ha hb
theorem and_lt {a b : Nat} (ha : a < 256) : a &&& b < 256 := Nat.lt_of_le_of_lt Nat.and_le_left ha
theorem ne0_bit {a : Nat} (h : a ≠ 0) : ∃ i, a.testBit i = true := Nat.exists_testBit_of_ne_zero h
def pcN (t : Nat) : Nat → Nat
  | 0 => 0
  | i + 1 => pcN t i + (if t.testBit i = true then 1 else 0)
theorem pcN_le1 (t : Nat) : ∀ j, pcN t j ≤ j := by
  intro j
  induction j with
  | zero => exact Nat.le_refl 0
  | succ j ih => unfold pcN; split <;> omega
theorem pcN_le {s t : Nat} (h : ∀ i, s.testBit i = true → t.testBit i = true) : ∀ j, pcN s j ≤ pcN t j := by
  intro j
  induction j with
  | zero => exact Nat.le_refl 0
  | succ j ih =>
    unfold pcN
    by_cases e : s.testBit j = true
    · rw [if_pos e, if_pos (h j e)]; omega
    · rw [if_neg e]; omega
theorem pcN_lt {s t i : Nat} (h : ∀ i, s.testBit i = true → t.testBit i = true) (ht : t.testBit i = true) (hs : s.testBit i = false) : ∀ j, i < j → pcN s j + 1 ≤ pcN t j := by
  intro j
  induction j with
  | zero => intro w; omega
  | succ j ih =>
    intro w
    unfold pcN
    by_cases e : i = j
    · subst e
      rw [if_pos ht, hs, if_neg (by decide)]
      have := pcN_le h i
      omega
    · have := ih (by omega)
      by_cases e : s.testBit j = true
      · rw [if_pos e, if_pos (h j e)]; omega
      · rw [if_neg e]; omega
theorem rdk_le {a b : Nat → Int32} : ∀ {m t : Nat}, t < 256 → rdk a b m t → m ≤ pcN t 8 := by
  intro m
  induction m with
  | zero => intro t _ _; omega
  | succ m ih =>
    intro t ht h
    obtain ⟨r, hr, -, -, hs, h⟩ := h
    have h1 := ih (sd_lt ht) h
    obtain ⟨i, hi⟩ := ne0_bit (show r ≠ 0 by omega)
    have hti : t.testBit i = true := by
      have := congrArg (fun x => x.testBit i) hs
      simp only [Nat.testBit_and, hi, Bool.true_and] at this
      exact this
    have := pcN_lt (s := sd t r) (t := t) (i := i) (fun j hj => by rw [sd_bit, Bool.and_eq_true] at hj; exact hj.1) hti (by rw [sd_bit, hi, Bool.not_true, Bool.and_false]) 8 (b8 ht hti)
    omega
theorem rdk_le8 {a b : Nat → Int32} {m t : Nat} (ht : t < 256) (h : rdk a b m t) : m ≤ 8 := Nat.le_trans (rdk_le ht h) (pcN_le1 t 8)
theorem rdk_congr {a b a' b' : Nat → Int32} : ∀ {m t : Nat}, (∀ i, i < m → a i = a' i ∧ b i = b' i) → rdk a b m t → rdk a' b' m t := by
  intro m
  induction m with
  | zero => intro t _ _; trivial
  | succ m ih =>
    intro t e h
    obtain ⟨r, hr, h1, h2, hs, h⟩ := h
    exact ⟨r, hr, by rw [← (e m (by omega)).1]; exact h1, by rw [← (e m (by omega)).2]; exact h2, hs, ih (fun i hi => e i (by omega)) h⟩
theorem sd_or {t r : Nat} (h : r &&& t = 0) : sd (t ||| r) r = t := by
  rw [and0_iff] at h
  apply bit_ext
  intro i
  rw [sd_bit, Nat.testBit_or]
  cases hr : r.testBit i with
  | false => simp
  | true => rw [h i hr]; rfl
theorem rdk_new {a b : Nat → Int32} {m t r : Nat} (hr : 0 < r) (ha : a m = nI r) (hb : b m = nI r) (hd : r &&& t = 0) (h : rdk a b m t) : rdk a b (m + 1) (t ||| r) := by
  refine ⟨r, hr, ha, hb, ?_, ?_⟩
  · apply bit_ext
    intro i
    rw [Nat.testBit_and, Nat.testBit_or]
    cases r.testBit i <;> simp
  · rw [sd_or hd]; exact h
theorem rdk_lt8 {a b : Nat → Int32} {m t r : Nat} (ht : t < 256) (hr : 0 < r) (hr2 : r < 256) (hd : r &&& t = 0) (h : rdk a b m t) : m < 8 := by
  have h1 : rdk (fun i => if i = m then nI r else a i) (fun i => if i = m then nI r else b i) (m + 1) (t ||| r) := by
    apply rdk_new hr (by simp) (by simp) hd
    exact rdk_congr (fun i hi => by simp [show ¬ i = m by omega]) h
  have := rdk_le8 (or_lt ht hr2) h1
  omega
theorem nI_self (x : Int32) : nI x.toBitVec.toNat = x := by
  apply bt_ext
  intro u hu
  rw [bt_nI _ _ hu]
  rfl
theorem sub_of {x : Int32} {v : Nat} (hv : v < 256) (h : x &&& (nI v ^^^ (-1 : Int32)) = 0) : ∃ r, r < 256 ∧ x = nI r ∧ sd r v = 0 := by
  have key : ∀ i, i < 32 → bt x i = true → v.testBit i = true := by
    intro i hi hx
    have := congrArg (fun y => bt y i) h
    simp only [bt_and, bt_not _ _ hi, bt_nI _ _ hi, bt_0, hx, Bool.true_and] at this
    cases e : v.testBit i with
    | true => rfl
    | false => rw [e] at this; cases this
  have hb : ∀ i, x.toBitVec.toNat.testBit i = true → i < 32 ∧ bt x i = true := by
    intro i hi
    have h32 : i < 32 := by
      rcases Nat.lt_or_ge i 32 with h | h
      · exact h
      · have : x.toBitVec.toNat < 2 ^ i := Nat.lt_of_lt_of_le x.toBitVec.isLt (Nat.pow_le_pow_right (by omega) h)
        rw [Nat.testBit_lt_two_pow this] at hi
        cases hi
    exact ⟨h32, hi⟩
  refine ⟨x.toBitVec.toNat, lt256 (fun i hi => ?_), (nI_self x).symm, sd0_iff.mpr (fun i hi => ?_)⟩
  · exact b8 hv (key i (hb i hi).1 (hb i hi).2)
  · exact key i (hb i hi).1 (hb i hi).2
/-- a round by movers and what is turned -/
def isR (x : Int32) (v t r : Nat) : Prop := 0 < r ∧ r < 256 ∧ x = nI r ∧ sd r v = 0 ∧ r &&& t = 0
theorem sd_sd {r v t : Nat} (h : sd r v = 0) : sd r (sd v t) = 0 ↔ r &&& t = 0 := by
  rw [sd0_iff] at h
  rw [sd0_iff, and0_iff]
  constructor
  · intro w i hi
    have := w i hi
    rw [sd_bit, Bool.and_eq_true] at this
    simpa using this.2
  · intro w i hi
    rw [sd_bit, h i hi, w i hi]
    rfl
theorem sd_sub {r v t : Nat} (h : sd r (sd v t) = 0) : sd r v = 0 := by
  rw [sd0_iff] at h ⊢
  intro i hi
  have := h i hi
  rw [sd_bit, Bool.and_eq_true] at this
  exact this.1
section
variable {E : am_E} {M : am_M} {c : Nat}
theorem c_areMovers_s {k r : Nat} (h : sd r (mv (M 5 k) (M 6 k)) = 0) : am_run (am_I2 E) mI_Fl_areMovers [.inr (.inl (some (4, k))), .inl (nI r)] M = some (some (.inl 1), M) := by
  rw [rq_Fl_areMovers, c_movers, z_bI, nI_sd, h, if_pos (by decide)]
theorem c_areMovers_n {k : Nat} {x : Int32} (h : ¬ ∃ r, r < 256 ∧ x = nI r ∧ sd r (mv (M 5 k) (M 6 k)) = 0) : am_run (am_I2 E) mI_Fl_areMovers [.inr (.inl (some (4, k))), .inl x] M = some (some (.inl 0), M) := by
  rw [rq_Fl_areMovers, c_movers, z_bI, if_neg (fun w => h (sub_of (mv_lt _ _) w))]
theorem c_isRound_s {x : Int32} {k t r : Nat} (h6 : M 4 k 6 = nI t) (h : isR x (mv (M 5 k) (M 6 k)) t r) : am_run (am_I2 E) mI_Fl_isRound [.inr (.inl (some (4, k))), .inl x] M = some (some (.inl 1), M) := by
  obtain ⟨h0, h1, rfl, h2, h3⟩ := h
  rw [rq_Fl_isRound, if_neg (nI_ne0 h0 (by omega)), c_areMovers_s h2, z_bI, if_neg z_ne10, h6, nI_and, h3, if_pos (by decide)]
theorem c_isRound_n {x : Int32} {k t : Nat} (h6 : M 4 k 6 = nI t) (h : ¬ ∃ r, isR x (mv (M 5 k) (M 6 k)) t r) : am_run (am_I2 E) mI_Fl_isRound [.inr (.inl (some (4, k))), .inl x] M = some (some (.inl 0), M) := by
  rw [rq_Fl_isRound]
  by_cases h0 : x = 0
  · rw [if_pos h0]
  rw [if_neg h0]
  by_cases h1 : ∃ r, r < 256 ∧ x = nI r ∧ sd r (mv (M 5 k) (M 6 k)) = 0
  · obtain ⟨r, hr, rfl, hs⟩ := h1
    rw [c_areMovers_s hs, z_bI, if_neg z_ne10, h6, nI_and, if_neg]
    intro w
    apply h
    refine ⟨r, ?_, hr, rfl, hs, (nI_eq (b := 0) (Nat.lt_trans (and_lt hr) (by omega)) (by omega)).mp w⟩
    rcases Nat.eq_zero_or_pos r with e | e
    · subst e; exact absurd rfl h0
    · exact e
  · rw [c_areMovers_n h1, z_bI, if_pos rfl]
theorem m_isRound_s {x : Int32} {k v t r : Nat} (hk : k < 3) (hm : mv (fun u => M 31 0 (8 * k + u)) (fun u => M 32 0 (8 * k + u)) = v) (h6 : M 33 0 k = nI t) (h : isR x v t r) : am_run (am_I2 E) mI_Mo_isRound [.inr (.inl (some (25, 0))), .inl (nI k), .inl x] M = some (some (.inl 1), M) := by
  obtain ⟨h0, h1, rfl, h2, h3⟩ := h
  rw [rq_Mo_isRound, if_neg (nI_nle h0 (by omega)), m_movers hk, z_bI, hm, z_in hk (by omega), z_if, z_ix (by omega), h6, nI_sd, nI_sd, (sd_sd h2).mpr h3, if_pos (by decide)]
theorem m_isRound_n {x : Int32} {k v t : Nat} (hk : k < 3) (hm : mv (fun u => M 31 0 (8 * k + u)) (fun u => M 32 0 (8 * k + u)) = v) (h6 : M 33 0 k = nI t) (h : ¬ ∃ r, isR x v t r) : am_run (am_I2 E) mI_Mo_isRound [.inr (.inl (some (25, 0))), .inl (nI k), .inl x] M = some (some (.inl 0), M) := by
  rw [rq_Mo_isRound]
  by_cases h0 : x ≤ 0
  · rw [if_pos h0]
  rw [if_neg h0, m_movers hk, z_bI, hm, z_in hk (by omega), z_if, z_ix (by omega), h6, nI_sd, if_neg]
  intro w
  obtain ⟨r, hr, rfl, hs⟩ := sub_of (sd_lt (by rw [← hm]; exact mv_lt _ _)) w
  have h1 := sd_sub hs
  apply h
  refine ⟨r, ?_, hr, rfl, h1, (sd_sd h1).mp hs⟩
  rcases Nat.eq_zero_or_pos r with e | e
  · subst e; exact absurd (show nI 0 ≤ 0 by decide) h0
  · exact e
end
/-- cells of a flow's turning -/
def tk (k a w s : Nat) : Bool := match a with
  | 4 => (match s with
    | 6 => true
    | 7 => true
    | 9 => true
    | 10 => true
    | _ => false) && Nat.beq w k
  | 7 => Nat.beq w k
  | 33 => Nat.beq s k
  | 34 => Nat.beq s k
  | 36 => Nat.beq s k
  | 37 => Nat.beq s k
  | 35 => Nat.beq (s / 8) k
  | _ => false
def ovk (k : Nat) (N M : am_M) : am_M := fun a w s => match tk k a w s with
  | true => N a w s
  | false => M a w s
def frk (k : Nat) (M N : am_M) : Prop := ∀ a w s, tk k a w s = false → N a w s = M a w s
theorem frk_ov {k : Nat} {M N : am_M} (h : frk k M N) : N = ovk k N M := by
  funext a w s
  unfold ovk
  cases e : tk k a w s with
  | true => rfl
  | false => exact h a w s e
theorem frk_rfl {k : Nat} {M : am_M} : frk k M M := fun _ _ _ _ => rfl
theorem frk_up {k : Nat} {M N : am_M} {a b c : Nat} {x : Int32} (h : frk k M N) (hs : tk k a b c = true) : frk k M (am_up N a b c x) := by
  intro a' w s e
  rw [← h a' w s e]
  apply am_up_ne
  by_cases h1 : a' = a
  · by_cases h2 : s = c
    · by_cases h3 : w = b
      · subst h1; subst h2; subst h3
        rw [hs] at e
        cases e
      · exact Or.inr (Or.inl h3)
    · exact Or.inr (Or.inr h2)
  · exact Or.inl h1
theorem beq_ne {a b : Nat} (h : a ≠ b) : Nat.beq a b = false := by
  cases e : Nat.beq a b with
  | false => rfl
  | true => exact absurd (Nat.eq_of_beq_eq_true e) h
theorem Inv_turn {c k : Nat} {M N : am_M} (hI : Inv c M) (hf : frk k M N) (hH : ∃ t m p d, iH (c + 1) t m p d k N) (hd : (M 37 0 k).toNatClampNeg ≤ (N 37 0 k).toNatClampNeg) : Inv (c + 1) N := by
  obtain ⟨n, h1, h2, h3, h4, h5, ⟨m, l1, l2, l3, l4⟩, h7⟩ := Inv_mono hI
  have hd2 : ∀ f, (M 37 0 f).toNatClampNeg ≤ (N 37 0 f).toNatClampNeg := by
    intro f
    by_cases e : f = k
    · subst e; exact hd
    · rw [hf 37 0 f (beq_ne e)]; exact Nat.le_refl _
  have a1 : iN n N := by rw [frk_ov hf]; exact h1
  have a2 : iW N := by rw [frk_ov hf]; exact h2
  have a3 : iR N := by rw [frk_ov hf]; exact h3
  have a4 : ∀ k, k < 3 → ∃ s g z, iG n s g z k N := by rw [frk_ov hf]; exact h4
  have a7 : iC N ∧ iX N := by rw [frk_ov hf]; exact h7
  refine ⟨n, a1, a2, a3, a4, fun j hj => ?_, ⟨m, l1, ?_, ?_, fun i hi => ?_⟩, a7⟩
  · by_cases e : j = k
    · subst e; exact hH
    · obtain ⟨t, m, p, d, f0, f1, f2, f3, f4, f5⟩ := h5 j hj
      have e4 : ∀ s, N 4 j s = M 4 j s := fun s => hf 4 j s (by
        show ((match s with
          | 6 => true
          | 7 => true
          | 9 => true
          | 10 => true
          | _ => false) && Nat.beq j k) = false
        rw [beq_ne e, Bool.and_false])
      have e5 : N 5 j = M 5 j := funext (fun s => hf 5 j s rfl)
      have e6 : N 6 j = M 6 j := funext (fun s => hf 6 j s rfl)
      have e7 : ∀ s, N 7 j s = M 7 j s := fun s => hf 7 j s (beq_ne e)
      refine ⟨t, m, p, d, ?_, ?_, ?_, ?_, ?_, ?_⟩
      · rw [e5, e6]; exact f0
      · rw [e4, hf 33 0 j (beq_ne e)]; exact f1
      · rw [e4, hf 34 0 j (beq_ne e)]; exact f2
      · rw [e4, hf 36 0 j (beq_ne e)]; exact f3
      · refine rdk_congr (fun i hi => ⟨(e7 i).symm, (hf 35 0 (8 * j + i) ?_).symm⟩) f4
        show Nat.beq ((8 * j + i) / 8) k = false
        have hm := f0.2.2.1
        rw [show (8 * j + i) / 8 = j by omega]
        exact beq_ne e
      · rw [e4, hf 37 0 j (beq_ne e)]; exact f5
  · rw [frk_ov hf]; exact l2
  · rw [frk_ov hf]; exact l3
  · obtain ⟨f, u, h, a, d, o, w, q, e, y0, y1, y2⟩ := l4 i hi
    refine ⟨f, u, h, a, d, o, w, q, e, y0, Nat.le_trans y1 (hd2 f), ?_⟩
    rw [frk_ov hf]; exact y2
