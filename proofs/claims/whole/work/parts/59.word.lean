/-! words of the text -/
def wW : List (List Nat) := [[110, 101, 116], [108, 105, 110, 107], [102, 108, 111, 119], [112, 111, 115, 116], [111, 108, 100], [110, 101, 119]]
def wn (w : Nat) : Nat := (wW.getD w []).length
def wl (w i : Nat) : Nat := (wW.getD w []).getD i 0
theorem wn_or : ∀ w, w < 6 → wn w = 3 ∨ wn w = 4 := by decide
theorem wl_small : ∀ w, w < 6 → ∀ i, i < 4 → i < wn w → kd (wl w i) = 0 := by decide
theorem wl_pad : ∀ w, w < 6 → wn w = 3 → wl w 3 = 0 := by decide
def wm (X : Nat → Nat) (s w : Nat) : Nat → Bool
  | 0 => true
  | i + 1 => wm X s w i && decide (X (s + i) = wl w i)
theorem wm_iff {X : Nat → Nat} {s w : Nat} : ∀ {i : Nat}, wm X s w i = true ↔ ∀ x, x < i → X (s + x) = wl w x := by
  intro i
  induction i with
  | zero => exact ⟨fun _ x hx => absurd hx (Nat.not_lt_zero x), fun _ => rfl⟩
  | succ i ih =>
    show (wm X s w i && decide (X (s + i) = wl w i)) = true ↔ _
    rw [Bool.and_eq_true, ih, decide_eq_true_eq]
    constructor
    · rintro ⟨h1, h2⟩ x hx
      by_cases e : x = i
      · rw [e]; exact h2
      · exact h1 x (by omega)
    · intro h
      exact ⟨fun x hx => h x (by omega), h i (by omega)⟩
theorem wm_le {X : Nat → Nat} {s w i j : Nat} (h : wm X s w i = false) (hij : i ≤ j) : wm X s w j = false := by
  cases hj : wm X s w j with
  | false => rfl
  | true =>
    have := wm_iff.mp hj
    have h2 : wm X s w i = true := wm_iff.mpr (fun x hx => this x (by omega))
    rw [h2] at h
    cases h
/-- the token from s to e is that word -/
def wb (X : Nat → Nat) (s e w : Nat) : Bool := decide (e - s = wn w) && wm X s w (wn w)
def wdN (f : Nat → Bool) : Nat → Nat → Option Nat
  | 0, _ => none
  | j + 1, w => if f w = true then some w else wdN f j (w + 1)
def wA (X : Nat → Nat) (s e : Nat) : Option Nat := wdN (wb X s e) 6 0
theorem wdN_lt {f : Nat → Bool} : ∀ {j w v : Nat}, wdN f j w = some v → v < w + j ∧ f v = true := by
  intro j
  induction j with
  | zero => intro w v h; cases h
  | succ j ih =>
    intro w v h
    have h2 : (if f w = true then some w else wdN f j (w + 1)) = some v := h
    split at h2
    · rename_i hf; cases h2; exact ⟨by omega, hf⟩
    · have := ih h2; exact ⟨by omega, this.2⟩
theorem wdN_none {f : Nat → Bool} (h : ∀ w, f w = false) : ∀ {j w : Nat}, wdN f j w = none := by
  intro j
  induction j with
  | zero => intro w; rfl
  | succ j ih =>
    intro w
    show (if f w = true then some w else wdN f j (w + 1)) = none
    rw [h w, if_neg (by decide)]
    exact ih
theorem wA_lt {X : Nat → Nat} {s e w : Nat} (h : wA X s e = some w) : w < 6 := by
  have := (wdN_lt h).1
  omega
/-- all letters of a token are of one kind -/
theorem rnN_all {X : Nat → Nat} {l k : Nat} : ∀ {j p : Nat}, ∀ x, p ≤ x → x < rnN X l k j p → kd (X x) = k := by
  intro j
  induction j with
  | zero => intro p x h1 h2; exact absurd h2 (by show ¬ x < p; omega)
  | succ j ih =>
    intro p x h1 h2
    have h3 : x < (if p < l then (if kd (X p) = k then rnN X l k j (p + 1) else p) else p) := h2
    by_cases hp : p < l
    · rw [if_pos hp] at h3
      by_cases hk : kd (X p) = k
      · rw [if_pos hk] at h3
        by_cases e : x = p
        · rw [e]; exact hk
        · exact ih x (by omega) h3
      · rw [if_neg hk] at h3; omega
    · rw [if_neg hp] at h3; omega
theorem tok_all {X : Nat → Nat} {l p : Nat} : ∀ x, tS X l p ≤ x → x < tE X l p → kd (X x) = kd (X (tS X l p)) := by
  intro x h1 h2
  unfold tE eE at h2
  by_cases hs : tS X l p < l
  · rw [if_pos hs] at h2
    by_cases e : x = tS X l p
    · rw [e]
    · by_cases hk : kd (X (tS X l p)) = 2
      · rw [if_pos hk] at h2; omega
      · rw [if_neg hk] at h2
        exact rnN_all x (by omega) h2
  · rw [if_neg hs] at h2; omega
section
variable {E : am_E} {M N : am_M} {X : Nat → Nat} {l : Nat}
theorem c_strlen {s : Nat} (hs : s < 6) : am_run (am_I2 E) mI_Jstr_length [.inr (.inl (some (99, s)))] M = some (some (.inl (nI (wn s))), M) := by
  have h : ∀ s, s < 6 → Int32.ofNat (am_wd.getD s []).length >>> ((0 : Int32) &&& 31) = nI (wn s) := by decide
  rw [rq_Jstr_length, rq_Jstr_coder, if_neg (show ¬ (1 : Nat) = 0 by decide), show am_by8 0 = true by decide, z_if, z_bI, h s hs]
theorem c_charAt {s i : Nat} (hs : s < 6) (hi : i < wn s) : am_run (am_I2 E) mI_Jstr_charAt [.inr (.inl (some (99, s))), .inl (nI i)] M = some (some (.inl (nI (wl s i))), M) := by
  have hlen : ∀ s, s < 6 → (am_wd.getD s []).length = wn s := by decide
  have hch : ∀ s, s < 6 → ∀ i, i < 4 → ((Int32.toUInt32 (((am_wd.getD s []).getD i 0) &&& 255)) % 65536).toInt32 = nI (wl s i) := by decide
  have hc2 : ∀ s, s < 6 → ∀ i, i < 4 → am_ch (nI (wl s i)) = true := by decide
  have hw4 : wn s ≤ 4 := by rcases wn_or s hs with h | h <;> omega
  rw [rq_Jstr_charAt, rq_Jstr_isLatin1, if_neg (show ¬ (1 : Nat) = 0 by decide), if_pos (show (0 : Nat) = 0 from rfl), z_bI, if_neg z_ne10, rq_Jlat_charAt, rq_Jstr_checkIndex, rq_Jpre_checkIndex, hlen s hs, if_neg (nI_pos (by omega)), if_pos (show nI i < Int32.ofNat (wn s) from nI_lt hi (by omega)), z_bI, z_bV, z_in hi (by omega), z_if, z_ix (by omega), hch s hs i (by omega), hc2 s hs i (by omega), z_if, z_bI, hc2 s hs i (by omega), z_if]
theorem c_tokenIs {w s e : Nat} (hl : l ≤ 200) (hX : ∀ x, x < 200 → X x < 256) (ht : tx X l M) (hw : w < 6) (hse : s ≤ e) (hel : e ≤ l) (h4 : M 20 0 4 = nI s) (h5 : M 20 0 5 = nI e) : am_run (am_I2 E) mI_Re_tokenIs [.inr (.inl (some (20, 0))), .inr (.inl (some (99, w)))] M = some (some (.inl (aI (wb X s e w))), M) := by
  have hw4 : wn w ≤ 4 := by rcases wn_or w hw with h | h <;> omega
  rw [rq_Re_tokenIs, c_strlen hw, z_bI, h4, h5, pk_sub hse]
  unfold wb
  by_cases hlen : e - s = wn w
  · rw [if_pos (by rw [hlen]), decide_eq_true hlen, Bool.true_and]
    have loop : ∀ j i, i + j = wn w → wm X s w i = true → am_ex (am_I2 E) mI_Re_tokenIs 20 [some (.inr (.inl (some (20, 0)))), some (.inr (.inl (some (99, w)))), some (.inl (nI i))] [] M = some (some (.inl (aI (wm X s w (wn w)))), M) := by
      intro j
      induction j with
      | zero =>
        intro i hi hm
        rw [show i = wn w by omega] at hm ⊢
        rw [eq_Re_tokenIs_20, c_strlen hw, z_bI, if_neg (nI_nlt (by omega) (by omega)), hm]
        rfl
      | succ j ih =>
        intro i hi hm
        have hstep : wm X s w (i + 1) = (wm X s w i && decide (X (s + i) = wl w i)) := rfl
        rw [eq_Re_tokenIs_20, c_strlen hw, z_bI, if_pos (nI_lt (by omega) (by omega)), h4, nI_add, c_let_s hl ht (by omega), z_bI, c_charAt hw (by omega), z_bI, nI_1]
        have hwl : ∀ w, w < 6 → ∀ i, i < 4 → wl w i < 256 := by decide
        by_cases e1 : X (s + i) = wl w i
        · rw [hm, decide_eq_true e1] at hstep
          rw [if_pos (by rw [e1])]
          exact ih (i + 1) (by omega) hstep
        · rw [hm, decide_eq_false e1] at hstep
          rw [wm_le hstep (by omega)]
          rw [if_neg (fun z => e1 ((nI_eq (by have := hX (s + i) (by omega); omega) (by have := hwl w hw i (by omega); omega)).mp z))]
          rfl
    exact loop (wn w) 0 (by omega) rfl
  · rw [if_neg (fun z => hlen ((nI_eq (by omega) (by omega)).mp z)), decide_eq_false hlen, Bool.false_and]
    rfl
theorem c_clauseKind {q : Nat} (hl : l ≤ 200) (hX : ∀ x, x < 200 → X x < 256) (ht : tx X l M) (hq : q ≤ l) (h3 : M 20 0 3 = nI (tK X l q)) (h4 : M 20 0 4 = nI (tS X l q)) (h5 : M 20 0 5 = nI (tE X l q)) : am_run (am_I2 E) mI_Re_clauseKind [.inr (.inl (some (20, 0)))] M = some (some (.inl (oI (wA X (tS X l q) (tE X l q)))), M) := by
  obtain ⟨t1, t2, t3⟩ := tE_le (X := X) hq
  rw [rq_Re_clauseKind, h3]
  have hk4 : tK X l q < 4 := by
    unfold tK eK
    split
    · have := kd_lt (X (tS X l q)); omega
    · omega
  by_cases hk : tK X l q = 0
  · rw [if_pos (by rw [hk]; rfl)]
    have loop : ∀ j w, w + j = 6 → am_ex (am_I2 E) mI_Re_clauseKind 9 [some (.inr (.inl (some (20, 0)))), some (.inl (nI w))] [] M = some (some (.inl (oI (wdN (wb X (tS X l q) (tE X l q)) j w))), M) := by
      intro j
      induction j with
      | zero =>
        intro w hw
        have h6 : ¬ nI w < 6 := nI_nlt (b := 6) (by omega) (by omega)
        rw [eq_Re_clauseKind_9, if_neg h6]
        rfl
      | succ j ih =>
        intro w hw
        have h6 : nI w < 6 := nI_lt (b := 6) (by omega) (by omega)
        have hwo : am_run (am_I2 E) mI_Re_wordOf [.inl (nI w)] M = some (some (.inr (.inl (some (99, w)))), M) := by
          have hw6 : w = 0 ∨ w = 1 ∨ w = 2 ∨ w = 3 ∨ w = 4 ∨ w = 5 := by omega
          rw [rq_Re_wordOf]
          rcases hw6 with rfl | rfl | rfl | rfl | rfl | rfl <;> rfl
        rw [eq_Re_clauseKind_9, if_pos h6, hwo, z_bR, eq_Re_clauseKind_20, c_tokenIs hl hX ht (by omega) t1 t2 h4 h5, z_bI, nI_1]
        have hs : wdN (wb X (tS X l q) (tE X l q)) (j + 1) w = if wb X (tS X l q) (tE X l q) w = true then some w else wdN (wb X (tS X l q) (tE X l q)) j (w + 1) := rfl
        rw [hs]
        cases hb : wb X (tS X l q) (tE X l q) w with
        | true => rw [aI_t, if_neg z_ne10, if_pos rfl]; rfl
        | false => rw [aI_f, if_pos rfl, if_neg (by decide)]; exact ih (w + 1) (by omega)
    exact loop 6 0 (by omega)
  · have hnone : wA X (tS X l q) (tE X l q) = none := by
      cases hb : wA X (tS X l q) (tE X l q) with
      | none => rfl
      | some w =>
        exfalso
        have h6 := wA_lt hb
        have h7 := (wdN_lt hb).2
        unfold wb at h7
        rw [Bool.and_eq_true, decide_eq_true_eq] at h7
        have hn := wn_or w h6
        have hlt : tS X l q < l := by omega
        have h0 := wm_iff.mp h7.2 0 (by omega)
        rw [Nat.add_zero] at h0
        apply hk
        unfold tK eK
        rw [if_pos hlt, h0]
        exact wl_small w h6 0 (by omega) (by omega)
    rw [if_neg (show ¬ nI (tK X l q) = 0 from fun z => hk ((nI_eq (b := 0) (by omega) (by omega)).mp z)), hnone]
    rfl
def mm (X : Nat → Nat) (s e w : Nat) : Nat → Bool
  | 0 => true
  | k + 1 => mm X s e w k && decide (wl w k = if s + k < e then X (s + k) else 0)
theorem mm_iff {X : Nat → Nat} {s e w : Nat} : ∀ {i : Nat}, mm X s e w i = true ↔ ∀ x, x < i → wl w x = if s + x < e then X (s + x) else 0 := by
  intro i
  induction i with
  | zero => exact ⟨fun _ x hx => absurd hx (Nat.not_lt_zero x), fun _ => rfl⟩
  | succ i ih =>
    show (mm X s e w i && decide (wl w i = if s + i < e then X (s + i) else 0)) = true ↔ _
    rw [Bool.and_eq_true, ih, decide_eq_true_eq]
    constructor
    · rintro ⟨h1, h2⟩ x hx
      by_cases e : x = i
      · rw [e]; exact h2
      · exact h1 x (by omega)
    · intro h
      exact ⟨fun x hx => h x (by omega), h i (by omega)⟩
/-- both ways to see a word -/
theorem wb_mm {w s e : Nat} (hw : w < 6) (hall : ∀ x, s ≤ x → x < e → kd (X x) = kd (X s)) : wb X s e w = ((decide (s < e) && decide (e - s < 5)) && mm X s e w 4) := by
  have hn := wn_or w hw
  have hsm := wl_small w hw
  have hnz : ∀ i, i < 4 → i < wn w → wl w i ≠ 0 := fun i h1 h2 h0 => by
    have := hsm i h1 h2
    rw [h0] at this
    exact absurd this (by decide)
  apply Bool.eq_iff_iff.mpr
  unfold wb
  rw [Bool.and_eq_true, Bool.and_eq_true, Bool.and_eq_true, decide_eq_true_eq, decide_eq_true_eq, decide_eq_true_eq, wm_iff, mm_iff]
  constructor
  · rintro ⟨h1, h2⟩
    refine ⟨⟨by omega, by omega⟩, fun x hx => ?_⟩
    by_cases hx2 : x < wn w
    · rw [if_pos (by omega)]; exact (h2 x hx2).symm
    · rw [if_neg (by omega)]
      have hx3 : x = 3 := by omega
      rw [hx3]
      exact wl_pad w hw (by omega)
  · rintro ⟨⟨h1, h2⟩, h3⟩
    have hge : ∀ i, i < 4 → i < wn w → s + i < e ∧ X (s + i) = wl w i := by
      intro i hi1 hi2
      have h4 := h3 i hi1
      by_cases h5 : s + i < e
      · rw [if_pos h5] at h4; exact ⟨h5, h4.symm⟩
      · rw [if_neg h5] at h4; exact absurd h4 (hnz i hi1 hi2)
    have hlen : e - s = wn w := by
      have a := (hge (wn w - 1) (by omega) (by omega)).1
      rcases hn with hn | hn
      · by_cases h5 : s + 3 < e
        · exfalso
          have h6 := h3 3 (by omega)
          rw [if_pos h5, wl_pad w hw hn] at h6
          have h7 := hall (s + 3) (by omega) h5
          have h8 := (hge 0 (by omega) (by omega)).2
          rw [Nat.add_zero] at h8
          rw [← h6, h8, hsm 0 (by omega) (by omega)] at h7
          exact absurd h7 (by decide)
        · omega
      · omega
    exact ⟨hlen, fun x hx => (hge x (by omega) hx).2⟩
theorem m_wordHere {q : Nat} (hl : l ≤ 200) (hX : ∀ x, x < 200 → X x < 256) (ht : rx X l M) (hq : q ≤ l) (h43 : ∀ i, i < 24 → M 43 0 i = am_w0.getD i 0) (h4 : M 25 0 23 = nI (tS X l q)) (h5 : M 25 0 24 = nI (tE X l q)) : am_run (am_I2 E) mI_Mo_wordHere [.inr (.inl (some (25, 0)))] M = some (some (.inl (oI (wA X (tS X l q) (tE X l q)))), M) := by
  obtain ⟨t1, t2, t3⟩ := tE_le (X := X) hq
  have hw0 : ∀ w, w < 6 → ∀ k, k < 4 → am_w0.getD (4 * w + k) 0 = nI (wl w k) := by decide
  have hwl : ∀ w, w < 6 → ∀ i, i < 4 → wl w i < 256 := by decide
  have z4 : ∀ a b : Nat, 4 * nI a + nI b = nI (4 * a + b) := fun a b => by
    have : 4 * nI a = nI (4 * a) := pk_mul 4 a
    rw [this, nI_add]
  rw [rq_Mo_wordHere]
  have inner : ∀ w, w < 6 → ∀ j k b, k + j = 4 → ∃ v2 v3, am_ex (am_I2 E) mI_Mo_wordHere 39 [some (.inr (.inl (some (25, 0)))), some (.inl (nI w)), some (.inl (aI (b && mm X (tS X l q) (tE X l q) w k))), some (.inl (nI k))] [] M = if (b && mm X (tS X l q) (tE X l q) w 4) = true then some (some (.inl (nI w)), M) else am_ex (am_I2 E) mI_Mo_wordHere 2 [some (.inr (.inl (some (25, 0)))), some (.inl (nI (w + 1))), v2, v3] [] M := by
    intro w hw j
    induction j with
    | zero =>
      intro k b hk
      have : k = 4 := by omega
      subst this
      rw [eq_Mo_wordHere_39, if_neg (by decide), nI_1]
      cases hb : (b && mm X (tS X l q) (tE X l q) w 4) with
      | true => exact ⟨none, none, by rw [aI_t, if_neg z_ne10, if_pos rfl]⟩
      | false => exact ⟨some (.inl (aI false)), some (.inl (nI 4)), by rw [aI_f, if_pos rfl, if_neg (by decide)]⟩
    | succ j ih =>
      intro k b hk
      have h4k : nI k < 4 := nI_lt (b := 4) (by omega) (by omega)
      have hstep : mm X (tS X l q) (tE X l q) w (k + 1) = (mm X (tS X l q) (tE X l q) w k && decide (wl w k = if tS X l q + k < tE X l q then X (tS X l q + k) else 0)) := rfl
      cases hb : (b && mm X (tS X l q) (tE X l q) w k) with
      | false =>
        have h0 : (b && mm X (tS X l q) (tE X l q) w 4) = false := by
          cases hb4 : (b && mm X (tS X l q) (tE X l q) w 4) with
          | false => rfl
          | true =>
            rw [Bool.and_eq_true] at hb4
            have := mm_iff.mp hb4.2
            rw [hb4.1, mm_iff.mpr (fun x hx => this x (by omega))] at hb
            cases hb
        refine ⟨some (.inl (aI false)), some (.inl (nI k)), ?_⟩
        rw [eq_Mo_wordHere_39, if_pos h4k, aI_f, if_pos rfl, if_pos rfl, h0, if_neg (by decide), nI_1]
      | true =>
        rw [Bool.and_eq_true] at hb
        have hnext : (b && mm X (tS X l q) (tE X l q) w (k + 1)) = decide (wl w k = if tS X l q + k < tE X l q then X (tS X l q + k) else 0) := by
          rw [hstep, hb.1, hb.2]; rfl
        obtain ⟨v2, v3, hih⟩ := ih (k + 1) b (by omega)
        rw [hnext] at hih
        refine ⟨v2, v3, ?_⟩
        rw [← hih, eq_Mo_wordHere_39, if_pos h4k, aI_t, if_neg z_ne10, z4, z_in (by omega) (by omega), z_if, z_ix (by omega), h43 _ (by omega), hw0 w hw k (by omega), h4, h5, nI_add, nI_1]
        have hwk := hwl w hw k (by omega)
        by_cases hlt : tS X l q + k < tE X l q
        · have hxk := hX (tS X l q + k) (by omega)
          rw [if_pos (nI_lt hlt (by omega)), z_in (by omega) (by omega), z_if, z_ix (by omega), ht.2 _ (by omega), if_pos hlt]
          by_cases e : wl w k = X (tS X l q + k)
          · rw [if_pos (by rw [e]), decide_eq_true e]; rfl
          · rw [if_neg (fun z => e ((nI_eq (by omega) (by omega)).mp z)), decide_eq_false e]; rfl
        · rw [if_neg (nI_nlt (by omega) (by omega)), if_neg hlt]
          by_cases e : wl w k = 0
          · rw [if_pos (by rw [e]; rfl), decide_eq_true e]; rfl
          · rw [if_neg (nI_ne0 (by omega) (by omega)), decide_eq_false e]; rfl
  have outer : ∀ j w u2 u3, w + j = 6 → am_ex (am_I2 E) mI_Mo_wordHere 2 [some (.inr (.inl (some (25, 0)))), some (.inl (nI w)), u2, u3] [] M = some (some (.inl (oI (wdN (wb X (tS X l q) (tE X l q)) j w))), M) := by
    intro j
    induction j with
    | zero =>
      intro w u2 u3 hw
      have h6 : ¬ nI w ≤ 5 := nI_ge (a := 5) (by omega) (by omega)
      rw [eq_Mo_wordHere_2, if_neg h6]
      rfl
    | succ j ih =>
      intro w u2 u3 hw
      have h6 : nI w ≤ 5 := nI_le (b := 5) (by omega) (by omega)
      have hs : wdN (wb X (tS X l q) (tE X l q)) (j + 1) w = if wb X (tS X l q) (tE X l q) w = true then some w else wdN (wb X (tS X l q) (tE X l q)) j (w + 1) := rfl
      have to39 : am_ex (am_I2 E) mI_Mo_wordHere 2 [some (.inr (.inl (some (25, 0)))), some (.inl (nI w)), u2, u3] [] M = am_ex (am_I2 E) mI_Mo_wordHere 39 [some (.inr (.inl (some (25, 0)))), some (.inl (nI w)), some (.inl (aI ((decide (tS X l q < tE X l q) && decide (tE X l q - tS X l q < 5)) && mm X (tS X l q) (tE X l q) w 0))), some (.inl (nI 0))] [] M := by
        rw [eq_Mo_wordHere_2, if_pos h6, h4, h5, pk_sub t1]
        have h0 : ∀ b : Bool, (b && mm X (tS X l q) (tE X l q) w 0) = b := fun b => by cases b <;> rfl
        rw [h0]
        by_cases h1 : tS X l q < tE X l q
        · rw [if_neg (nI_ge h1 (by omega)), decide_eq_true h1, Bool.true_and]
          by_cases h2 : tE X l q - tS X l q < 5
          · have h2' : nI (tE X l q - tS X l q) < 5 := nI_lt (b := 5) h2 (by omega)
            rw [if_pos h2', decide_eq_true h2]; rfl
          · have h2' : ¬ nI (tE X l q - tS X l q) < 5 := nI_nlt (b := 5) (by omega) (by omega)
            rw [if_neg h2', decide_eq_false h2]; rfl
        · rw [if_pos (nI_le (by omega) (by omega)), decide_eq_false h1, Bool.false_and]; rfl
      obtain ⟨v2, v3, hin⟩ := inner w (by omega) 4 0 (decide (tS X l q < tE X l q) && decide (tE X l q - tS X l q < 5)) rfl
      rw [← wb_mm (by omega) tok_all] at hin
      rw [to39, hs]
      refine Eq.trans hin ?_
      cases hb : wb X (tS X l q) (tE X l q) w with
      | true => rw [if_pos rfl, if_pos rfl]; rfl
      | false => rw [if_neg (by decide), if_neg (by decide)]; exact ih (w + 1) v2 v3 (by omega)
  exact outer 6 0 none none (by omega)
end
