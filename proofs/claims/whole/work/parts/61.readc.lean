/-! the class reads the text -/
theorem cnt_le : ∀ w, w < 6 → cnt w ≤ 4 := by decide
def row (c w : Nat) (vs : Nat → Nat) (N : am_M) : Prop := N 22 0 (5 * c) = nI w ∧ ∀ x, x < cnt w → N 22 0 (5 * c + 1 + x) = nI (vs x)
def RL : Nat → List (Nat × (Nat → Nat)) → am_M → Prop
  | _, [], _ => True
  | c, a :: L, N => row c a.1 a.2 N ∧ RL (c + 1) L N
section
variable {E : am_E} {M N : am_M} {X : Nat → Nat} {l : Nat}
theorem tD_c {c nn : Nat} {ss gg : Nat → Nat} {N : am_M} (h : fS (tc c) M N) (hD : tD nn ss gg M) : tD nn ss gg N := ⟨(h 20 0 8 rfl).trans hD.1, fun k hk => ⟨(h 23 0 k rfl).trans (hD.2 k hk).1, (h 24 0 k rfl).trans (hD.2 k hk).2⟩⟩
theorem tx_c {c : Nat} {N : am_M} (h : fS (tc c) M N) (ht : tx X l M) : tx X l N := ⟨(h 20 0 2 rfl).trans ht.1, fun x hx => (h 21 0 x rfl).trans (ht.2 x hx)⟩
theorem tx_f {c : Nat} {N : am_M} (h : fS (tf c) M N) (ht : tx X l M) : tx X l N := ⟨(h 20 0 2 rfl).trans ht.1, fun x hx => (h 21 0 x rfl).trans (ht.2 x hx)⟩
theorem c_readNums {c w nn : Nat} {ss gg : Nat → Nat} (hl : l ≤ 200) (hX : ∀ x, x < 200 → X x < 256) (hc : c < 24) (hw : w < 6) (hb : bd nn ss gg) : ∀ j i q vs N, i + j = cnt w → q ≤ l → tx X l N → tT X l q N → tD nn ss gg N → N 22 0 (5 * c) = nI w → (∀ x, x < i → N 22 0 (5 * c + 1 + x) = nI (vs x)) → (∀ x, x < i → vs x ≤ 9) → (2 ≤ w → 1 ≤ i → vs 0 < 3) → ∃ N', fS (tc c) N N' ∧ tT X l (rdN X l (chk w nn ss gg) j i q vs).2.1 N' ∧ ((rdN X l (chk w nn ss gg) j i q vs).1 = false ∧ am_ex (am_I2 E) mI_Re_readClause 49 [some (.inr (.inl (some (20, 0)))), some (.inl (nI (5 * c))), some (.inl (nI w)), some (.inl (nI (cnt w))), some (.inl (nI (i + 1)))] [] N = some (some (.inl 0), N') ∨ (rdN X l (chk w nn ss gg) j i q vs).1 = true ∧ am_ex (am_I2 E) mI_Re_readClause 49 [some (.inr (.inl (some (20, 0)))), some (.inl (nI (5 * c))), some (.inl (nI w)), some (.inl (nI (cnt w))), some (.inl (nI (i + 1)))] [] N = am_bV (am_run (am_I2 E) mI_Re_foresee [.inr (.inl (some (20, 0))), .inl (nI (5 * c))] (am_up N' 20 0 7 ((N' 20 0 7) + 1))) (fun M5 => some (some (.inl 1), M5)) ∧ row c w (rdN X l (chk w nn ss gg) j i q vs).2.2 N') := by
  have hc4 := cnt_le w hw
  intro j
  induction j with
  | zero =>
    intro i q vs N hi hq ht hT hD h0 hvs hvs9 h3
    refine ⟨N, fS_rfl, hT, Or.inr ⟨rfl, ?_, h0, fun x hx => hvs x (by omega)⟩⟩
    rw [eq_Re_readClause_49, if_neg (nI_ge (by omega) (by omega))]
  | succ j ih =>
    intro i q vs N hi hq ht hT hD h0 hvs hvs9 h3
    obtain ⟨T3, T4, T5⟩ := id hT
    obtain ⟨t1, t2, t3⟩ := tE_le (X := X) hq
    have h5 : nI (i + 1) < 5 := nI_lt (b := 5) (by omega) (by omega)
    have hk4 : tK X l q < 4 := by
      unfold tK eK
      split
      · have := kd_lt (X (tS X l q)); omega
      · omega
    cases hnb : nb X l q with
    | none =>
      rw [rdN_n hnb]
      refine ⟨N, fS_rfl, hT, Or.inl ⟨rfl, ?_⟩⟩
      rw [eq_Re_readClause_49, if_pos (nI_le (by omega) (by omega)), if_pos h5, T3, T4, T5, pk_sub t1]
      unfold nb at hnb
      by_cases h1 : tK X l q = 1
      · rw [if_pos h1] at hnb
        have h2 : ¬ tE X l q - tS X l q = 1 := fun w => by rw [if_pos w] at hnb; cases hnb
        rw [if_pos (by rw [h1]; rfl), if_neg (show ¬ nI (tE X l q - tS X l q) = 1 from fun z => h2 ((nI_eq (b := 1) (by omega) (by omega)).mp z))]
      · rw [if_neg (show ¬ nI (tK X l q) = 1 from fun z => h1 ((nI_eq (b := 1) (by omega) (by omega)).mp z))]
    | some v =>
      obtain ⟨n1, n2, n3, n4, n5, n6, n7⟩ := nb_some hnb
      rw [rdN_s hnb]
      have hsub : nI (X (tS X l q)) - 48 = nI v := by
        have := pk_sub (a := X (tS X l q)) (b := 48) n4
        rw [n6]
        exact this
      have ha : nI (5 * c) + nI (i + 1) = nI (5 * c + 1 + i) := by rw [nI_add]; congr 1; omega
      have hfu : fS (tc c) N (am_up N 22 0 (5 * c + 1 + i) (nI v)) := fS_up fS_rfl (tc_22 (by omega))
      have hvs' : ∀ x, x < i → (am_up N 22 0 (5 * c + 1 + i) (nI v)) 22 0 (5 * c + 1 + x) = nI (vs x) := fun x hx => by
        rw [am_up_ne (Or.inr (Or.inr (by omega)))]; exact hvs x hx
      have h0' : (am_up N 22 0 (5 * c + 1 + i) (nI v)) 22 0 (5 * c) = nI w := by
        rw [am_up_ne (Or.inr (Or.inr (by omega)))]; exact h0
      have hfit := c_numberFits (E := E) (M := am_up N 22 0 (5 * c + 1 + i) (nI v)) (vs := vs) hc hw (show i < cnt w by omega) n7 hb (tD_c hfu hD) h0' hvs' hvs9 (am_up_self N 22 0 _ _) h3
      rw [eq_Re_readClause_49, if_pos (nI_le (by omega) (by omega)), if_pos h5, T3, T4, T5, pk_sub t1, if_pos (show nI (tK X l q) = 1 by rw [n2]; rfl), if_pos (show nI (tE X l q - tS X l q) = 1 by rw [n3]; rfl), c_let_s hl ht n1, z_bI, ha, z_in (by omega) (by omega), z_if, z_ix (by omega), hsub, hfit, z_bI]
      cases hch : chk w nn ss gg i vs v with
      | false =>
        rw [if_neg (by decide), aI_f, if_pos rfl]
        exact ⟨_, hfu, hT, Or.inl ⟨rfl, rfl⟩⟩
      | true =>
        rw [if_pos rfl, aI_t, if_neg z_ne10]
        obtain ⟨N2, k1, k2, k3, k4, k5⟩ := c_nextToken (E := E) (M := am_up N 22 0 (5 * c + 1 + i) (nI v)) (q := tE X l q) hl hX (tx_c hfu ht) t2 T5
        have hf2 : fS (tc c) N N2 := fS_tr hfu (fS_mono S20_c k2)
        obtain ⟨N3, m1, m2, m3⟩ := ih (i + 1) (tE X l q) (fun x => if x = i then v else vs x) N2 (by omega) t2 (tx_c hf2 ht) ⟨k3, k4, k5⟩ (tD_c hf2 hD) ((k2 22 0 _ rfl).trans h0') (fun x hx => by
          rw [k2 22 0 _ rfl]
          by_cases e : x = i
          · rw [e, am_up_self, if_pos rfl]
          · rw [hvs' x (by omega), if_neg e]) (fun x hx => by
          by_cases e : x = i
          · rw [if_pos e]; exact n7
          · rw [if_neg e]; exact hvs9 x (by omega)) (fun h2 _ => by
          by_cases e : 0 = i
          · rw [if_pos e]
            subst e
            have hw' : w = 2 ∨ w = 3 ∨ w = 4 ∨ w = 5 := by omega
            rcases hw' with rfl | rfl | rfl | rfl <;> exact of_decide_eq_true hch
          · rw [if_neg e]; exact h3 h2 (by omega))
        refine ⟨N3, fS_tr hf2 m1, m2, ?_⟩
        rw [k1, z_bV, nI_1]
        exact m3
theorem c_foresee {c w nn : Nat} {ss gg vs : Nat → Nat} (hc : c < 24) (hw : w < 6) (hr : row c w vs M) (hD : tD nn ss gg M) (h3 : 2 ≤ w → vs 0 < 3) : ∃ N, am_run (am_I2 E) mI_Re_foresee [.inr (.inl (some (20, 0))), .inl (nI (5 * c))] M = some (none, N) ∧ tD (uN w vs nn) (uS w vs ss) (uG w vs gg) N ∧ ∀ a b s, (a ≠ 20 ∨ s ≠ 8) → a ≠ 23 → a ≠ 24 → N a b s = M a b s := by
  obtain ⟨r0, r1⟩ := hr
  have hcnt : ∀ w, w < 6 → 0 < cnt w := by decide
  have a1 : nI (5 * c) + 1 = nI (5 * c + 1) := nI_1 _
  have a2 : nI (5 * c) + 2 = nI (5 * c + 2) := nI_add (5 * c) 2
  have a3 : nI (5 * c) + 3 = nI (5 * c + 3) := nI_add (5 * c) 3
  have v0 : M 22 0 (5 * c + 1) = nI (vs 0) := r1 0 (hcnt w hw)
  rw [rq_Re_foresee, c_clauseAt (by omega), z_bI, a1, c_clauseAt (by omega), z_bI, r0, v0]
  by_cases e0 : w = 0
  · subst e0
    rw [if_pos (by decide)]
    have loop : ∀ j i N, i + j = 3 → (∀ a b s, (a ≠ 20 ∨ s ≠ 8) → a ≠ 23 → a ≠ 24 → N a b s = M a b s) → N 20 0 8 = nI (vs 0) → (∀ k, k < i → N 23 0 k = nI 0 ∧ N 24 0 k = nI 1) → ∃ N', am_ex (am_I2 E) mI_Re_foresee 26 [some (.inr (.inl (some (20, 0)))), some (.inl (nI (5 * c))), some (.inl (nI 0)), some (.inl (nI (vs 0))), some (.inl (nI i))] [] N = some (none, N') ∧ (∀ a b s, (a ≠ 20 ∨ s ≠ 8) → a ≠ 23 → a ≠ 24 → N' a b s = M a b s) ∧ N' 20 0 8 = nI (vs 0) ∧ ∀ k, k < 3 → N' 23 0 k = nI 0 ∧ N' 24 0 k = nI 1 := by
      intro j
      induction j with
      | zero =>
        intro i N hi hf h8 hk
        have h3' : ¬ nI i < 3 := nI_nlt (b := 3) (by omega) (by omega)
        exact ⟨N, by rw [eq_Re_foresee_26, if_neg h3', if_neg (by decide)], hf, h8, fun k hk2 => hk k (by omega)⟩
      | succ j ih =>
        intro i N hi hf h8 hk
        have h3' : nI i < 3 := nI_lt (b := 3) (by omega) (by omega)
        rw [eq_Re_foresee_26, if_pos h3', z_in (by omega) (by omega), z_if, z_if, z_ix (by omega), nI_1]
        refine ih (i + 1) _ (by omega) (fun a b s h1 h2 h3 => ?_) h8 (fun k hk2 => ?_)
        · rw [am_up_ne (Or.inl h3), am_up_ne (Or.inl h2)]
          exact hf a b s h1 h2 h3
        · by_cases e : k = i
          · rw [e]
            exact ⟨am_up_self N 23 0 i 0, am_up_self _ 24 0 i 1⟩
          · refine ⟨?_, ?_⟩
            · exact (am_up_ne (M := N) (a := 23) (b := 0) (c := i) (x := 0) (Or.inr (Or.inr e))).trans (hk k (by omega)).1
            · exact (am_up_ne (M := am_up N 23 0 i 0) (a := 24) (b := 0) (c := i) (x := 1) (Or.inr (Or.inr e))).trans (hk k (by omega)).2
    obtain ⟨N', k1, k2, k3, k4⟩ := loop 3 0 (am_up M 20 0 8 (nI (vs 0))) rfl (fun a b s h1 _ _ => am_up_ne (by rcases h1 with h | h; exact Or.inl h; exact Or.inr (Or.inr h))) rfl (fun k hk => absurd hk (by omega))
    exact ⟨N', k1, ⟨k3, k4⟩, k2⟩
  · rw [if_neg (show ¬ nI w = 0 from fun z => e0 ((nI_eq (b := 0) (by omega) (by omega)).mp z))]
    by_cases e2 : w = 2
    · subst e2
      have hv3 := h3 (by omega)
      have v1 : M 22 0 (5 * c + 2) = nI (vs 1) := r1 1 (by decide)
      have v2 : M 22 0 (5 * c + 3) = nI (vs 2) := r1 2 (by decide)
      rw [if_pos (by decide), c_isPlace_s (y := 3) (n := 3) rfl hv3 (by decide), z_bI, if_neg z_ne10, a2, c_clauseAt (by omega), z_bI, z_in hv3 (by omega), z_if, z_ix (by omega), v1, a3, c_clauseAt (by omega), z_bI, z_if]
      have v2' : (am_up M 23 0 (vs 0) (nI (vs 1))) 22 0 (5 * c + 3) = nI (vs 2) := v2
      rw [v2']
      refine ⟨_, rfl, ⟨hD.1, fun k hk => ?_⟩, fun a b s h1 h2 h3 => ?_⟩
      · show _ = nI (if k = vs 0 then vs 1 else ss k) ∧ _ = nI (if k = vs 0 then vs 2 else gg k)
        by_cases e : k = vs 0
        · rw [if_pos e, if_pos e, e]
          exact ⟨am_up_self M 23 0 (vs 0) _, am_up_self _ 24 0 (vs 0) _⟩
        · rw [if_neg e, if_neg e]
          exact ⟨(am_up_ne (M := M) (a := 23) (b := 0) (c := vs 0) (x := nI (vs 1)) (Or.inr (Or.inr e))).trans (hD.2 k hk).1, (am_up_ne (M := am_up M 23 0 (vs 0) (nI (vs 1))) (a := 24) (b := 0) (c := vs 0) (x := nI (vs 2)) (Or.inr (Or.inr e))).trans (hD.2 k hk).2⟩
      · rw [am_up_ne (Or.inl h3), am_up_ne (Or.inl h2)]
    · rw [if_neg (show ¬ nI w = 2 from fun z => e2 ((nI_eq (b := 2) (by omega) (by omega)).mp z))]
      refine ⟨M, rfl, ?_, fun _ _ _ _ _ _ => rfl⟩
      unfold uN uS uG
      refine ⟨by rw [if_neg e0]; exact hD.1, fun k hk => ?_⟩
      show _ = nI (if w = 0 then 0 else if w = 2 then (if k = vs 0 then vs 1 else ss k) else ss k) ∧ _ = nI (if w = 0 then 1 else if w = 2 then (if k = vs 0 then vs 2 else gg k) else gg k)
      rw [if_neg e0, if_neg e0, if_neg e2, if_neg e2]
      exact hD.2 k hk
theorem c_readClause {c q nn : Nat} {ss gg : Nat → Nat} (hl : l ≤ 200) (hX : ∀ x, x < 200 → X x < 256) (hc : c < 24) (hb : bd nn ss gg) (hq : q ≤ l) (ht : tx X l M) (hT : tT X l q M) (hD : tD nn ss gg M) (h7 : M 20 0 7 = nI c) : ∃ N, am_run (am_I2 E) mI_Re_readClause [.inr (.inl (some (20, 0)))] M = some (some (.inl (aI (clr X l nn ss gg q).1)), N) ∧ fS (tf c) M N ∧ tT X l (clr X l nn ss gg q).2.1 N ∧ ((clr X l nn ss gg q).1 = false → N 20 0 7 = nI c) ∧ ((clr X l nn ss gg q).1 = true → N 20 0 7 = nI (c + 1) ∧ row c (clk X l q) (clr X l nn ss gg q).2.2 N ∧ tD (uN (clk X l q) (clr X l nn ss gg q).2.2 nn) (uS (clk X l q) (clr X l nn ss gg q).2.2 ss) (uG (clk X l q) (clr X l nn ss gg q).2.2 gg) N) := by
  obtain ⟨T3, T4, T5⟩ := id hT
  have hk := c_clauseKind (E := E) hl hX ht hq T3 T4 T5
  have hm5 : nI c * 5 = nI (5 * c) := by
    have : nI c * 5 = nI (c * 5) := pk_mul c 5
    rw [this, Nat.mul_comm]
  have ha5 : nI (5 * c) + 5 = nI (5 * c + 5) := nI_add (5 * c) 5
  have hle : nI (5 * c + 5) ≤ 120 := nI_le (b := 120) (by omega) (by omega)
  rw [rq_Re_readClause, hk, z_bI, h7, hm5, ha5]
  cases hw : clw X l q with
  | none =>
    have hw' : wA X (tS X l q) (tE X l q) = none := hw
    rw [clr_n hw, hw', oI_none, if_pos rfl]
    exact ⟨M, rfl, fS_rfl, hT, fun _ => h7, fun h => by cases h⟩
  | some w =>
    have hw' : wA X (tS X l q) (tE X l q) = some w := hw
    have hw6 := wA_lt hw'
    have hclk : clk X l q = w := by unfold clk; rw [hw]; rfl
    have hfu : fS (tc c) M (am_up M 22 0 (5 * c) (nI w)) := fS_up fS_rfl (tc_22 (by omega))
    obtain ⟨N1, k1, k2, k3, k4, k5⟩ := c_nextToken (E := E) (M := am_up M 22 0 (5 * c) (nI w)) (q := tE X l q) hl hX (tx_c hfu ht) (tE_le hq).2.1 T5
    have hf1 : fS (tc c) M N1 := fS_tr hfu (fS_mono S20_c k2)
    have hnum : am_run (am_I2 E) mI_Re_numbersOf [.inl (nI w)] N1 = some (some (.inl (nI (cnt w))), N1) := by
      have h6 : w = 0 ∨ w = 1 ∨ w = 2 ∨ w = 3 ∨ w = 4 ∨ w = 5 := by omega
      rw [rq_Re_numbersOf]
      rcases h6 with rfl | rfl | rfl | rfl | rfl | rfl <;> rfl
    obtain ⟨N2, m1, m2, m3⟩ := c_readNums (E := E) (c := c) (w := w) (nn := nn) (ss := ss) (gg := gg) hl hX hc hw6 hb (cnt w) 0 (tE X l q) (fun _ => 0) N1 (by omega) (tE_le hq).2.1 (tx_c hf1 ht) ⟨k3, k4, k5⟩ (tD_c hf1 hD) ((k2 22 0 _ rfl).trans (am_up_self M 22 0 _ _)) (fun x hx => absurd hx (Nat.not_lt_zero x)) (fun x hx => absurd hx (Nat.not_lt_zero x)) (fun _ h => absurd h (by omega))
    have hf2 : fS (tc c) M N2 := fS_tr hf1 m1
    rw [hw', oI_some, if_neg (nI_m1 (by omega)), if_pos hle, z_in (by omega) (by omega), z_if, z_ix (by omega), k1, z_bV, hnum, z_bI, clr_s hw, hclk]
    rcases m3 with ⟨r1, r2⟩ | ⟨r1, r2, r3⟩
    · refine ⟨N2, ?_, fS_mono tc_f hf2, m2, fun _ => (hf2 20 0 7 rfl).trans h7, fun h => by rw [r1] at h; cases h⟩
      rw [r1]
      exact r2
    · have hok : okC nn ss gg w (rdN X l (chk w nn ss gg) (cnt w) 0 (tE X l q) (fun _ => 0)).2.2 := ⟨hw6, fun x hx => rdN_ok r1 x (by omega) (by omega)⟩
      have e7 : N2 20 0 7 + 1 = nI (c + 1) := by rw [(hf2 20 0 7 rfl).trans h7, nI_1]
      have hD2 : tD nn ss gg N2 := tD_c hf2 hD
      obtain ⟨N3, p1, p2, p3⟩ := c_foresee (E := E) (M := am_up N2 20 0 7 (N2 20 0 7 + 1)) (c := c) (w := w) (nn := nn) (ss := ss) (gg := gg) (vs := (rdN X l (chk w nn ss gg) (cnt w) 0 (tE X l q) (fun _ => 0)).2.2) hc hw6 r3 (show tD nn ss gg (am_up N2 20 0 7 (N2 20 0 7 + 1)) from hD2) (fun h2 => okC_0 hok h2)
      have hf3 : fS (tf c) M N3 := by
        intro a b s h
        rw [p3 a b s (by
          by_cases ea : a = 20
          · subst ea; exact Or.inr (fun es => by subst es; cases h)
          · exact Or.inl ea) (fun ea => by subst ea; cases h) (fun ea => by subst ea; cases h)]
        rw [am_up_ne (by
          by_cases ea : a = 20
          · subst ea; exact Or.inr (Or.inr (fun es => by subst es; cases h))
          · exact Or.inl ea)]
        exact fS_mono tc_f hf2 a b s h
      refine ⟨N3, ?_, hf3, ?_, (fun h => by rw [r1] at h; cases h), fun _ => ⟨?_, ?_, p2⟩⟩
      · rw [r1]
        refine Eq.trans r2 ?_
        rw [p1, z_bV]
        rfl
      · exact ⟨(p3 20 0 3 (Or.inr (by decide)) (by decide) (by decide)).trans m2.1, (p3 20 0 4 (Or.inr (by decide)) (by decide) (by decide)).trans m2.2.1, (p3 20 0 5 (Or.inr (by decide)) (by decide) (by decide)).trans m2.2.2⟩
      · exact (p3 20 0 7 (Or.inr (by decide)) (by decide) (by decide)).trans e7
      · exact ⟨(p3 22 0 _ (Or.inl (by decide)) (by decide) (by decide)).trans r3.1, fun x hx => (p3 22 0 _ (Or.inl (by decide)) (by decide) (by decide)).trans (r3.2 x hx)⟩
theorem row_keep {c w : Nat} {vs : Nat → Nat} {M N : am_M} (hw : w < 6) (h : ∀ s, s < 5 * (c + 1) → N 22 0 s = M 22 0 s) (hr : row c w vs M) : row c w vs N := by
  have := cnt_le w hw
  exact ⟨(h _ (by omega)).trans hr.1, fun x hx => (h _ (by omega)).trans (hr.2 x hx)⟩
theorem tf_scr {c : Nat} : ∀ a s, tf c a s = true → scr a s = true := by
  intro a s h
  unfold tf at h
  split at h
  · split at h
    · rfl
    · rfl
    · rfl
    · rfl
    · rfl
    · cases h
  · rfl
  · rfl
  · rfl
  · cases h
theorem tf_22 {c : Nat} {M N : am_M} (h : fS (tf c) M N) : ∀ s, s < 5 * c → N 22 0 s = M 22 0 s := fun s hs => h 22 0 s (by
  show (decide (5 * c ≤ s) && decide (s < 5 * c + 5)) = false
  rw [decide_eq_false (by omega)]; rfl)
theorem c_isSemi {q : Nat} (hl : l ≤ 200) (hX : ∀ x, x < 200 → X x < 256) (ht : tx X l M) (hT : tT X l q M) (hlt : tS X l q < l) : am_run (am_I2 E) mI_Re_isSemicolon [.inr (.inl (some (20, 0)))] M = some (some (.inl (aI (decide (X (tS X l q) = 59)))), M) := by
  have hk : tK X l q = kd (X (tS X l q)) := by unfold tK eK; rw [if_pos hlt]
  have hkl := kd_lt (X (tS X l q))
  have hx := hX (tS X l q) (by omega)
  rw [rq_Re_isSemicolon, hT.1, hT.2.1]
  by_cases h2 : tK X l q = 2
  · rw [if_pos (show nI (tK X l q) = 2 by rw [h2]; rfl), c_let_s hl ht hlt, z_bI]
    by_cases h59 : X (tS X l q) = 59
    · rw [if_pos (show nI (X (tS X l q)) = 59 by rw [h59]; rfl), decide_eq_true h59]; rfl
    · rw [if_neg (show ¬ nI (X (tS X l q)) = 59 from fun z => h59 ((nI_eq (b := 59) (by omega) (by omega)).mp z)), decide_eq_false h59]; rfl
  · have h59 : ¬ X (tS X l q) = 59 := fun z => by
      rw [hk, z] at h2
      exact h2 (by decide)
    rw [if_neg (show ¬ nI (tK X l q) = 2 from fun z => h2 ((nI_eq (b := 2) (by omega) (by omega)).mp z)), decide_eq_false h59]; rfl
theorem c_loop (hl : l ≤ 200) (hX : ∀ x, x < 200 → X x < 256) : ∀ j i q nn ss gg N, i + j = 24 → 0 < j → bd nn ss gg → q ≤ l → tx X l N → N 20 0 5 = nI q → N 20 0 7 = nI i → tD nn ss gg N → ∃ N', am_ex (am_I2 E) mI_Re_findFault 16 [some (.inr (.inl (some (20, 0)))), some (.inl (nI i))] [] N = some (some (.inl (oI (PA X l j q nn ss gg).1)), N') ∧ fr N N' ∧ (∀ s, s < 5 * i → N' 22 0 s = N 22 0 s) ∧ RL i (PA X l j q nn ss gg).2 N' ∧ N' 20 0 7 = nI (i + (PA X l j q nn ss gg).2.length) ∧ i + (PA X l j q nn ss gg).2.length ≤ 24 := by
  intro j
  induction j with
  | zero => intro i q nn ss gg N _ h0; omega
  | succ j ih =>
    intro i q nn ss gg N hi _ hb hq ht h5 h7 hD
    have h24 : nI i < 24 := nI_lt (b := 24) (by omega) (by omega)
    obtain ⟨N1, k1, k2, k3, k4, k5⟩ := c_nextToken (E := E) (M := N) (q := q) hl hX ht hq h5
    have ht1 := tx_S k2 ht
    have hD1 : tD nn ss gg N1 := ⟨(k2 20 0 8 rfl).trans hD.1, fun k hk => ⟨(k2 23 0 k rfl).trans (hD.2 k hk).1, (k2 24 0 k rfl).trans (hD.2 k hk).2⟩⟩
    obtain ⟨N2, m1, m2, m3, m4, m5⟩ := c_readClause (E := E) (M := N1) (c := i) (q := q) (nn := nn) (ss := ss) (gg := gg) hl hX (by omega) hb hq ht1 ⟨k3, k4, k5⟩ hD1 ((k2 20 0 7 rfl).trans h7)
    have ht2 := tx_f m2 ht1
    have hf2 : fr N N2 := fS_tr (fS_mono (fun a s h => tf_scr (c := i) a s (tc_f a s (S20_c a s h))) k2) (fS_mono tf_scr m2)
    have h22 : ∀ s, s < 5 * i → N2 22 0 s = N 22 0 s := fun s hs => (tf_22 m2 s hs).trans (k2 22 0 s rfl)
    have hle := clr_le (X := X) (l := l) (nn := nn) (q := q) (ss := ss) (gg := gg) hq
    obtain ⟨t1, t2, t3⟩ := tE_le (X := X) hle
    have htS := tS_le (X := X) hle
    have hPA : PA X l (j + 1) q nn ss gg = if (clr X l nn ss gg q).1 = true then
      (if tS X l (clr X l nn ss gg q).2.1 = l then (none, [(clk X l q, (clr X l nn ss gg q).2.2)])
       else if j = 0 then (some (tS X l (clr X l nn ss gg q).2.1), [(clk X l q, (clr X l nn ss gg q).2.2)])
       else if X (tS X l (clr X l nn ss gg q).2.1) = 59 then ((PA X l j (tE X l (clr X l nn ss gg q).2.1) (uN (clk X l q) (clr X l nn ss gg q).2.2 nn) (uS (clk X l q) (clr X l nn ss gg q).2.2 ss) (uG (clk X l q) (clr X l nn ss gg q).2.2 gg)).1, (clk X l q, (clr X l nn ss gg q).2.2) :: (PA X l j (tE X l (clr X l nn ss gg q).2.1) (uN (clk X l q) (clr X l nn ss gg q).2.2 nn) (uS (clk X l q) (clr X l nn ss gg q).2.2 ss) (uG (clk X l q) (clr X l nn ss gg q).2.2 gg)).2)
       else (some (tS X l (clr X l nn ss gg q).2.1), [(clk X l q, (clr X l nn ss gg q).2.2)]))
    else (some (tS X l (clr X l nn ss gg q).2.1), []) := rfl
    rw [hPA, eq_Re_findFault_16, if_pos h24, k1, z_bV, m1, z_bI]
    cases hok : (clr X l nn ss gg q).1 with
    | false =>
      rw [aI_f, if_pos rfl, m3.2.1, if_neg (show ¬ false = true by decide)]
      exact ⟨N2, rfl, hf2, h22, trivial, m4 hok, by show i + 0 ≤ 24; omega⟩
    | true =>
      obtain ⟨w7, wr, wD⟩ := m5 hok
      have hw6 := (clr_w hok).2
      have hok2 := clr_ok hok
      rw [if_pos rfl, aI_t, if_neg z_ne10, m3.1]
      by_cases hend : tS X l (clr X l nn ss gg q).2.1 = l
      · rw [if_pos (show nI (tK X l (clr X l nn ss gg q).2.1) = 3 by rw [(tK_3 hle).mpr hend]; rfl), if_pos hend]
        exact ⟨N2, rfl, hf2, h22, ⟨wr, trivial⟩, w7, by show i + 1 ≤ 24; omega⟩
      · have hk3 : tK X l (clr X l nn ss gg q).2.1 ≠ 3 := fun w => hend ((tK_3 hle).mp w)
        have hk4 : tK X l (clr X l nn ss gg q).2.1 < 4 := by
          unfold tK eK
          split
          · have := kd_lt (X (tS X l (clr X l nn ss gg q).2.1)); omega
          · omega
        rw [if_neg (show ¬ nI (tK X l (clr X l nn ss gg q).2.1) = 3 from fun z => hk3 ((nI_eq (b := 3) (by omega) (by omega)).mp z)), if_neg hend, c_isSemi hl hX ht2 m3 (by omega), z_bI]
        by_cases h59 : X (tS X l (clr X l nn ss gg q).2.1) = 59
        · rw [decide_eq_true h59, aI_t, if_neg z_ne10, nI_1]
          by_cases hj : j = 0
          · have h24' : ¬ nI (i + 1) < 24 := nI_nlt (b := 24) (by omega) (by omega)
            rw [if_pos hj, eq_Re_findFault_16, if_neg h24', m3.2.1]
            exact ⟨N2, rfl, hf2, h22, ⟨wr, trivial⟩, w7, by show i + 1 ≤ 24; omega⟩
          · rw [if_neg hj, if_pos h59]
            obtain ⟨N3, p1, p2, p3, p4, p5, p6⟩ := ih (i + 1) (tE X l (clr X l nn ss gg q).2.1) _ _ _ N2 (by omega) (by omega) (bd_u hb hok2) t2 ht2 m3.2.2 w7 wD
            refine ⟨N3, p1, fS_tr hf2 p2, fun s hs => (p3 s (by omega)).trans (h22 s hs), ⟨row_keep hw6 p3 wr, p4⟩, ?_, ?_⟩
            · rw [p5]
              congr 1
              show i + 1 + _ = i + (_ + 1)
              omega
            · show i + (_ + 1) ≤ 24
              omega
        · rw [decide_eq_false h59, aI_f, if_pos rfl, m3.2.1, if_neg h59]
          by_cases hj : j = 0
          · rw [if_pos hj]
            exact ⟨N2, rfl, hf2, h22, ⟨wr, trivial⟩, w7, by show i + 1 ≤ 24; omega⟩
          · rw [if_neg hj]
            exact ⟨N2, rfl, hf2, h22, ⟨wr, trivial⟩, w7, by show i + 1 ≤ 24; omega⟩
theorem c_foreseeNet {n : Nat} {ss gg : Nat → Nat} (hN : iN n M) (hG : ∀ k, k < 3 → M 4 k 0 = nI (ss k) ∧ M 4 k 1 = nI (gg k)) : ∃ N, am_run (am_I2 E) mI_Re_foreseeNet [.inr (.inl (some (20, 0)))] M = some (none, N) ∧ (∀ a b s, (a ≠ 20 ∨ s ≠ 8) → a ≠ 23 → a ≠ 24 → N a b s = M a b s) ∧ tD n ss gg N := by
  have loop : ∀ j i N u2, i + j = 3 → (∀ a b s, (a ≠ 20 ∨ s ≠ 8) → a ≠ 23 → a ≠ 24 → N a b s = M a b s) → N 20 0 8 = nI n → (∀ k, k < i → N 23 0 k = nI (ss k) ∧ N 24 0 k = nI (gg k)) → ∃ N', am_ex (am_I2 E) mI_Re_foreseeNet 13 [some (.inr (.inl (some (20, 0)))), some (.inl (nI i)), u2] [] N = some (none, N') ∧ (∀ a b s, (a ≠ 20 ∨ s ≠ 8) → a ≠ 23 → a ≠ 24 → N' a b s = M a b s) ∧ tD n ss gg N' := by
    intro j
    induction j with
    | zero =>
      intro i N u2 hi hf h8 hk
      have h3' : ¬ nI i < 3 := nI_nlt (b := 3) (by omega) (by omega)
      exact ⟨N, by rw [eq_Re_foreseeNet_13, if_neg h3'], hf, h8, fun k hk2 => hk k (by omega)⟩
    | succ j ih =>
      intro i N u2 hi hf h8 hk
      have h3' : nI i < 3 := nI_lt (b := 3) (by omega) (by omega)
      have g0 : N 4 i 0 = nI (ss i) := (hf 4 i 0 (Or.inl (by decide)) (by decide) (by decide)).trans (hG i (by omega)).1
      have g1 : N 4 i 1 = nI (gg i) := (hf 4 i 1 (Or.inl (by decide)) (by decide) (by decide)).trans (hG i (by omega)).2
      rw [eq_Re_foreseeNet_13, if_pos h3', c_flowAt_s (by omega), z_bR, eq_Re_foreseeNet_26v1, z_in (by omega) (by omega), z_if, z_if, z_ix (by omega), g0, g1, nI_1]
      refine ih (i + 1) _ _ (by omega) (fun a b s h1 h2 h3 => ?_) h8 (fun k hk2 => ?_)
      · rw [am_up_ne (Or.inl h3), am_up_ne (Or.inl h2)]
        exact hf a b s h1 h2 h3
      · by_cases e : k = i
        · rw [e]
          exact ⟨am_up_self N 23 0 i _, am_up_self _ 24 0 i _⟩
        · refine ⟨?_, ?_⟩
          · exact (am_up_ne (M := N) (a := 23) (b := 0) (c := i) (x := nI (ss i)) (Or.inr (Or.inr e))).trans (hk k (by omega)).1
          · exact (am_up_ne (M := am_up N 23 0 i (nI (ss i))) (a := 24) (b := 0) (c := i) (x := nI (gg i)) (Or.inr (Or.inr e))).trans (hk k (by omega)).2
  obtain ⟨N1, k1, k2, k3⟩ := loop 3 0 (am_up M 20 0 8 (nI n)) none rfl (fun a b s h1 _ _ => am_up_ne (by rcases h1 with h | h; exact Or.inl h; exact Or.inr (Or.inr h))) rfl (fun k hk => absurd hk (by omega))
  refine ⟨N1, ?_, k2, k3⟩
  rw [rq_Re_foreseeNet, hN.2.1]
  exact k1
theorem c_findFault {n : Nat} (hl : l ≤ 200) (hX : ∀ x, x < 200 → X x < 256) (hN : iN n M) (hG : ∀ k, k < 3 → iG n (sr M k) (gl M k) (sz M k) k M) (ht : tx X l M) : ∃ N, am_run (am_I2 E) mI_Re_findFault [.inr (.inl (some (20, 0)))] M = some (some (.inl (oI (PA X l 24 0 n (sr M) (gl M)).1)), N) ∧ fr M N ∧ RL 0 (PA X l 24 0 n (sr M) (gl M)).2 N ∧ N 20 0 7 = nI (PA X l 24 0 n (sr M) (gl M)).2.length ∧ (PA X l 24 0 n (sr M) (gl M)).2.length ≤ 24 := by
  have hn := hN.1
  have hb : bd n (sr M) (gl M) := ⟨hn, fun k hk => by have := (hG k hk).1; omega⟩
  obtain ⟨N1, k1, k2, k3⟩ := c_foreseeNet (E := E) (ss := sr M) (gg := gl M) hN (fun k hk => ⟨(hG k hk).2.1.1, (hG k hk).2.2.1.1⟩)
  have hf1 : fr M (am_up (am_up N1 20 0 7 0) 20 0 5 0) := by
    refine fr_up (fr_up (fun a b s h => ?_) rfl) rfl
    exact k2 a b s (by
      by_cases ea : a = 20
      · subst ea; exact Or.inr (fun es => by subst es; cases h)
      · exact Or.inl ea) (fun ea => by subst ea; cases h) (fun ea => by subst ea; cases h)
  have ht1 : tx X l (am_up (am_up N1 20 0 7 0) 20 0 5 0) := ⟨(hf1 20 0 2 rfl).trans ht.1, fun x hx => (hf1 21 0 x rfl).trans (ht.2 x hx)⟩
  have hall := c_loop (E := E) (X := X) (l := l) hl hX 24 0 0 n (sr M) (gl M) (am_up (am_up N1 20 0 7 0) 20 0 5 0) rfl (by omega) hb (Nat.zero_le l) ht1 rfl rfl k3
  generalize PA X l 24 0 n (sr M) (gl M) = P at hall ⊢
  obtain ⟨N2, m1, m2, m3, m4, m5, m6⟩ := hall
  refine ⟨N2, ?_, fS_tr hf1 m2, m4, ?_, ?_⟩
  · rw [rq_Re_findFault, k1, z_bV]
    exact m1
  · rw [m5, Nat.zero_add]
  · rw [Nat.zero_add] at m6; exact m6
end
