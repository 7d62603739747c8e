/-! the reference reads the text -/
def PB (X : Nat → Nat) (l j q nn : Nat) (ss gg : Nat → Nat) : Option Nat × List (Nat × (Nat → Nat)) := if tS X l q = l then (none, []) else if j = 0 then (some (tS X l q), []) else if X (tS X l q) = 59 then PA X l j (tE X l q) nn ss gg else (some (tS X l q), [])
theorem PA_t {X : Nat → Nat} {l j q nn : Nat} {ss gg : Nat → Nat} (h : (clr X l nn ss gg q).1 = true) : PA X l (j + 1) q nn ss gg = ((PB X l j (clr X l nn ss gg q).2.1 (uN (clk X l q) (clr X l nn ss gg q).2.2 nn) (uS (clk X l q) (clr X l nn ss gg q).2.2 ss) (uG (clk X l q) (clr X l nn ss gg q).2.2 gg)).1, (clk X l q, (clr X l nn ss gg q).2.2) :: (PB X l j (clr X l nn ss gg q).2.1 (uN (clk X l q) (clr X l nn ss gg q).2.2 nn) (uS (clk X l q) (clr X l nn ss gg q).2.2 ss) (uG (clk X l q) (clr X l nn ss gg q).2.2 gg)).2) := by
  have hPA : PA X l (j + 1) q nn ss gg = if (clr X l nn ss gg q).1 = true then
      (if tS X l (clr X l nn ss gg q).2.1 = l then (none, [(clk X l q, (clr X l nn ss gg q).2.2)])
       else if j = 0 then (some (tS X l (clr X l nn ss gg q).2.1), [(clk X l q, (clr X l nn ss gg q).2.2)])
       else if X (tS X l (clr X l nn ss gg q).2.1) = 59 then ((PA X l j (tE X l (clr X l nn ss gg q).2.1) (uN (clk X l q) (clr X l nn ss gg q).2.2 nn) (uS (clk X l q) (clr X l nn ss gg q).2.2 ss) (uG (clk X l q) (clr X l nn ss gg q).2.2 gg)).1, (clk X l q, (clr X l nn ss gg q).2.2) :: (PA X l j (tE X l (clr X l nn ss gg q).2.1) (uN (clk X l q) (clr X l nn ss gg q).2.2 nn) (uS (clk X l q) (clr X l nn ss gg q).2.2 ss) (uG (clk X l q) (clr X l nn ss gg q).2.2 gg)).2)
       else (some (tS X l (clr X l nn ss gg q).2.1), [(clk X l q, (clr X l nn ss gg q).2.2)]))
    else (some (tS X l (clr X l nn ss gg q).2.1), []) := rfl
  rw [hPA, if_pos h]
  unfold PB
  split
  · rfl
  · split
    · rfl
    · split <;> rfl
theorem PA_f {X : Nat → Nat} {l j q nn : Nat} {ss gg : Nat → Nat} (h : (clr X l nn ss gg q).1 = false) : PA X l (j + 1) q nn ss gg = (some (tS X l (clr X l nn ss gg q).2.1), []) := by
  show (if (clr X l nn ss gg q).1 = true then _ else (some (tS X l (clr X l nn ss gg q).2.1), [])) = _
  rw [h, if_neg (by decide)]
theorem PA_VC {X : Nat → Nat} {l : Nat} : ∀ {j q nn : Nat} {ss gg : Nat → Nat}, VC nn ss gg (PA X l j q nn ss gg).2 := by
  intro j
  induction j with
  | zero => intro q nn ss gg; trivial
  | succ j ih =>
    intro q nn ss gg
    cases h : (clr X l nn ss gg q).1 with
    | false => rw [PA_f h]; trivial
    | true =>
      rw [PA_t h]
      refine ⟨clr_ok h, ?_⟩
      unfold PB
      split
      · trivial
      · split
        · trivial
        · split
          · exact ih
          · trivial
def SN (d a s : Nat) : Bool := scr a s || (Nat.beq d 1 && Sdm a s)
theorem scr_N {d : Nat} : ∀ a s, scr a s = true → SN d a s = true := by
  intro a s h
  unfold SN
  rw [h]; rfl
theorem Sdm_N : ∀ a s, Sdm a s = true → SN 1 a s = true := by
  intro a s h
  unfold SN
  rw [h]
  show (scr a s || (true && true)) = true
  cases scr a s <;> rfl
section
variable {E : am_E} {M N A : am_M} {X : Nat → Nat} {l : Nat}
theorem m_readsClause {q nn : Nat} {ss gg : Nat → Nat} (hl : l ≤ 200) (hX : ∀ x, x < 200 → X x < 256) (ht : rx X l M) (hq : q ≤ l) (hb : bd nn ss gg) (hD : rD nn ss gg M) (hT : rT X l q M) (h43 : ∀ i, i < 24 → M 43 0 i = am_w0.getD i 0) : ∃ N, fS S40 M N ∧ rT X l (clr X l nn ss gg q).2.1 N ∧ ((clr X l nn ss gg q).1 = false → am_run (am_I2 E) mI_Mo_readsClause [.inr (.inl (some (25, 0)))] M = some (some (.inl 0), N)) ∧ ((clr X l nn ss gg q).1 = true → rD (uN (clk X l q) (clr X l nn ss gg q).2.2 nn) (uS (clk X l q) (clr X l nn ss gg q).2.2 ss) (uG (clk X l q) (clr X l nn ss gg q).2.2 gg) N ∧ rR (cnt (clk X l q)) (clr X l nn ss gg q).2.2 N ∧ am_run (am_I2 E) mI_Mo_readsClause [.inr (.inl (some (25, 0)))] M = if N 25 0 29 = 0 then some (some (.inl 1), N) else am_bV (am_run (am_I2 E) mI_Mo_does [.inr (.inl (some (25, 0))), .inl (nI (clk X l q))] N) (fun M5 => some (some (.inl 1), M5))) := by
  have hwh := m_wordHere (E := E) hl hX ht hq h43 hT.1 hT.2
  have t2 := (tE_le (X := X) hq).2.1
  cases hw : clw X l q with
  | none =>
    have hw' : wA X (tS X l q) (tE X l q) = none := hw
    rw [clr_n hw]
    refine ⟨M, fS_rfl, hT, fun _ => ?_, fun h => by cases h⟩
    rw [rq_Mo_readsClause, hwh, z_bI, hw', oI_none, if_pos rfl]
  | some w =>
    have hw' : wA X (tS X l q) (tE X l q) = some w := hw
    have hw6 := wA_lt hw'
    have hclk : clk X l q = w := by unfold clk; rw [hw]; rfl
    obtain ⟨N1, k1, k2, k3, k4⟩ := m_nextToken (E := E) (M := M) (q := tE X l q) hl hX ht t2 hT.2
    obtain ⟨N2, m1, m2, m3, m4⟩ := m_readsRest (E := E) (M := M) (N := N1) (q := tE X l q) (w := w) (nn := nn) (ss := ss) (gg := gg) (vs := fun _ => 0) hl hX ht t2 hw6 hb hD ⟨⟨k3, k4⟩, fun x hx => absurd hx (Nat.not_lt_zero x), fS_mono S23_42 k2⟩
    have hf2 : fS S40 M N2 := fS_mono S42_40 m3
    have start : am_run (am_I2 E) mI_Mo_readsClause [.inr (.inl (some (25, 0)))] M = am_bI (some (some (.inl (aI (clr X l nn ss gg q).1)), N2)) (fun v3 M3 => if v3 = 0 then (some (some (.inl 0), M3)) else (if nI w = 0 then (am_if (am_in 0 4) (am_ex (am_I2 E) mI_Mo_readsClause 42 [some (.inr (.inl (some (25, 0)))), some (.inl (nI w)), some (.inl 0)] [] (am_up M3 25 0 25 (M3 42 0 (am_ix 0))))) else (if nI w = 2 then (am_if (am_in 0 4) (am_if (am_in 1 4) (am_if (am_in (M3 42 0 (am_ix 0)) 3) (am_if (am_in 0 4) (am_if (am_in 2 4) (am_if (am_in (M3 42 0 (am_ix 0)) 3) (if (M3 25 0 29) = 0 then (some (some (.inl 1), am_up (am_up M3 40 0 (am_ix (M3 42 0 (am_ix 0))) (M3 42 0 (am_ix 1))) 41 0 (am_ix (M3 42 0 (am_ix 0))) (M3 42 0 (am_ix 2)))) else (am_bV (am_run (am_I2 E) mI_Mo_does [.inr (.inl (some (25, 0))), .inl (nI w)] (am_up (am_up M3 40 0 (am_ix (M3 42 0 (am_ix 0))) (M3 42 0 (am_ix 1))) 41 0 (am_ix (M3 42 0 (am_ix 0))) (M3 42 0 (am_ix 2)))) (fun M4 => some (some (.inl 1), M4)))))))))) else (if (M3 25 0 29) = 0 then (some (some (.inl 1), M3)) else (am_bV (am_run (am_I2 E) mI_Mo_does [.inr (.inl (some (25, 0))), .inl (nI w)] M3) (fun M5 => some (some (.inl 1), M5))))))) := by
      rw [rq_Mo_readsClause, hwh, z_bI, hw', oI_some, if_neg (nI_m1 (by omega)), k1, z_bV, m1, clr_s hw]
    cases hok : (clr X l nn ss gg q).1 with
    | false =>
      refine ⟨N2, hf2, by rw [clr_s hw]; exact m2, fun _ => ?_, fun h => by cases h⟩
      rw [start, hok, z_bI, aI_f, if_pos rfl]
    | true =>
      have hokC := clr_ok hok
      rw [hclk] at hokC ⊢
      have hR : rR (cnt w) (clr X l nn ss gg q).2.2 N2 := by
        have hok' := hok
        rw [clr_s hw] at hok' ⊢
        exact m4 hok'
      have hcw : 0 < cnt w := by
        have : ∀ w, w < 6 → 0 < cnt w := by decide
        exact this w hw6
      have e0 : N2 42 0 0 = nI ((clr X l nn ss gg q).2.2 0) := hR 0 hcw
      have hrt : rT X l (clr X l nn ss gg q).2.1 N2 := by rw [clr_s hw]; exact m2
      rw [hok, z_bI, aI_t, if_neg z_ne10] at start
      have i04 : am_in 0 4 = true := by decide
      have x0 : am_ix 0 = 0 := by decide
      by_cases ew0 : w = 0
      · subst ew0
        rw [if_pos (by decide), i04, z_if, x0, e0] at start
        have loop : ∀ j i P, i + j = 3 → (∀ a b s, (a ≠ 25 ∨ s ≠ 25) → a ≠ 40 → a ≠ 41 → P a b s = N2 a b s) → P 25 0 25 = nI ((clr X l nn ss gg q).2.2 0) → (∀ k, k < i → P 40 0 k = nI 0 ∧ P 41 0 k = nI 1) → ∃ P', am_ex (am_I2 E) mI_Mo_readsClause 42 [some (.inr (.inl (some (25, 0)))), some (.inl (nI 0)), some (.inl (nI i))] [] P = (if P' 25 0 29 = 0 then some (some (.inl 1), P') else am_bV (am_run (am_I2 E) mI_Mo_does [.inr (.inl (some (25, 0))), .inl (nI 0)] P') (fun M5 => some (some (.inl 1), M5))) ∧ (∀ a b s, (a ≠ 25 ∨ s ≠ 25) → a ≠ 40 → a ≠ 41 → P' a b s = N2 a b s) ∧ P' 25 0 25 = nI ((clr X l nn ss gg q).2.2 0) ∧ ∀ k, k < 3 → P' 40 0 k = nI 0 ∧ P' 41 0 k = nI 1 := by
          intro j
          induction j with
          | zero =>
            intro i P hi ho h25 hk
            have h3 : ¬ nI i < 3 := nI_nlt (b := 3) (by omega) (by omega)
            exact ⟨P, by rw [eq_Mo_readsClause_42, if_neg h3], ho, h25, fun k hk2 => hk k (by omega)⟩
          | succ j ih =>
            intro i P hi ho h25 hk
            have h3 : nI i < 3 := nI_lt (b := 3) (by omega) (by omega)
            rw [eq_Mo_readsClause_42, if_pos h3, z_in (by omega) (by omega), z_if, z_if, z_ix (by omega), nI_1]
            refine ih (i + 1) _ (by omega) (fun a b s h1 h2 h3 => ?_) h25 (fun k hk2 => ?_)
            · rw [am_up_ne (Or.inl h3), am_up_ne (Or.inl h2)]
              exact ho a b s h1 h2 h3
            · by_cases e : k = i
              · rw [e]
                exact ⟨am_up_self P 40 0 i 0, am_up_self _ 41 0 i 1⟩
              · exact ⟨(am_up_ne (M := P) (a := 40) (b := 0) (c := i) (x := 0) (Or.inr (Or.inr e))).trans (hk k (by omega)).1, (am_up_ne (M := am_up P 40 0 i 0) (a := 41) (b := 0) (c := i) (x := 1) (Or.inr (Or.inr e))).trans (hk k (by omega)).2⟩
        obtain ⟨P', p1, p2, p3, p4⟩ := loop 3 0 (am_up N2 25 0 25 (nI ((clr X l nn ss gg q).2.2 0))) rfl (fun a b s h1 _ _ => am_up_ne (by rcases h1 with h | h; exact Or.inl h; exact Or.inr (Or.inr h))) rfl (fun k hk => absurd hk (by omega))
        refine ⟨P', fun a b s h => ?_, ?_, (fun h => by cases h), fun _ => ⟨⟨p3, p4⟩, fun x hx => (p2 42 0 x (Or.inl (by decide)) (by decide) (by decide)).trans (hR x hx), start.trans p1⟩⟩
        · rw [p2 a b s (by
            by_cases ea : a = 25
            · subst ea; exact Or.inr (fun es => by subst es; cases h)
            · exact Or.inl ea) (fun ea => by subst ea; cases h) (fun ea => by subst ea; cases h)]
          exact hf2 a b s h
        · exact ⟨(p2 25 0 23 (Or.inr (by decide)) (by decide) (by decide)).trans hrt.1, (p2 25 0 24 (Or.inr (by decide)) (by decide) (by decide)).trans hrt.2⟩
      · rw [if_neg (show ¬ nI w = 0 from fun z => ew0 ((nI_eq (b := 0) (by omega) (by omega)).mp z))] at start
        by_cases ew2 : w = 2
        · subst ew2
          have hv3 : (clr X l nn ss gg q).2.2 0 < 3 := okC_0 hokC (by omega)
          have e1 : N2 42 0 1 = nI ((clr X l nn ss gg q).2.2 1) := hR 1 (by decide)
          have e2 : N2 42 0 2 = nI ((clr X l nn ss gg q).2.2 2) := hR 2 (by decide)
          have i14 : am_in 1 4 = true := by decide
          have i24 : am_in 2 4 = true := by decide
          have x1 : am_ix 1 = 1 := by decide
          have x2 : am_ix 2 = 2 := by decide
          rw [if_pos (by decide), i04, z_if, i14, z_if, x0, x1, x2, e0, e1, e2, z_in hv3 (by omega), z_if, z_if, i24, z_if, z_if, z_ix (by omega)] at start
          refine ⟨am_up (am_up N2 40 0 ((clr X l nn ss gg q).2.2 0) (nI ((clr X l nn ss gg q).2.2 1))) 41 0 ((clr X l nn ss gg q).2.2 0) (nI ((clr X l nn ss gg q).2.2 2)), fS_up (fS_up hf2 rfl) rfl, hrt, (fun h => by cases h), fun _ => ⟨⟨(m3 25 0 25 rfl).trans hD.1, fun k hk => ?_⟩, hR, start⟩⟩
          show _ = nI (if k = (clr X l nn ss gg q).2.2 0 then (clr X l nn ss gg q).2.2 1 else ss k) ∧ _ = nI (if k = (clr X l nn ss gg q).2.2 0 then (clr X l nn ss gg q).2.2 2 else gg k)
          by_cases e : k = (clr X l nn ss gg q).2.2 0
          · rw [if_pos e, if_pos e, e]
            exact ⟨am_up_self N2 40 0 _ _, am_up_self _ 41 0 _ _⟩
          · rw [if_neg e, if_neg e]
            exact ⟨(am_up_ne (M := N2) (a := 40) (b := 0) (Or.inr (Or.inr e))).trans ((m3 40 0 k rfl).trans (hD.2 k hk).1), (am_up_ne (a := 41) (b := 0) (Or.inr (Or.inr e))).trans ((m3 41 0 k rfl).trans (hD.2 k hk).2)⟩
        · rw [if_neg (show ¬ nI w = 2 from fun z => ew2 ((nI_eq (b := 2) (by omega) (by omega)).mp z))] at start
          refine ⟨N2, hf2, hrt, (fun h => by cases h), fun _ => ⟨⟨?_, fun k hk => ?_⟩, hR, start⟩⟩
          · unfold uN
            rw [if_neg ew0]
            exact (m3 25 0 25 rfl).trans hD.1
          · show _ = nI (if w = 0 then 0 else if w = 2 then _ else ss k) ∧ _ = nI (if w = 0 then 1 else if w = 2 then _ else gg k)
            rw [if_neg ew0, if_neg ew0, if_neg ew2, if_neg ew2]
            exact ⟨(m3 40 0 k rfl).trans (hD.2 k hk).1, (m3 41 0 k rfl).trans (hD.2 k hk).2⟩
/-- behind a clause that was read -/
theorem m_after {d : Nat} (hd : d < 2) (hl : l ≤ 200) (hX : ∀ x, x < 200 → X x < 256) : ∀ j c q nn ss gg N A, c + j = 24 → q ≤ l → bd nn ss gg → rx X l N → rT X l q N → rD nn ss gg N → (∀ i, i < 24 → N 43 0 i = am_w0.getD i 0) → N 25 0 28 = nI c → N 25 0 29 = nI d → rm A N → (d = 1 → VA nn ss gg A) → ∃ N', am_ex (am_I2 E) mI_Mo_reads 69 [some (.inr (.inl (some (25, 0)))), some (.inl (nI d)), some (.inl 1)] [] N = some (some (.inl (aI (PB X l j q nn ss gg).1.isNone)), N') ∧ fS (SN d) N N' ∧ (∀ p, (PB X l j q nn ss gg).1 = some p → N' 25 0 23 = nI p) ∧ ((PB X l j q nn ss gg).1 = none → N' 25 0 28 = nI (c + (PB X l j q nn ss gg).2.length)) ∧ rm (if d = 1 then fA (PB X l j q nn ss gg).2 A else A) N' := by
  intro j
  induction j with
  | zero =>
    intro c q nn ss gg N A hc hq hb ht hT hD h43 h28 h29 hr hV
    have htS := tS_le (X := X) hq
    have hrA : ∀ L, L = [] → rm (if d = 1 then fA L A else A) N := fun L hL => by
      rw [hL]
      split
      · exact hr
      · exact hr
    unfold PB
    rw [eq_Mo_reads_69, if_neg z_ne10, hT.1, ht.1, h28]
    by_cases he : tS X l q = l
    · rw [if_neg (nI_nlt (by omega) (by omega)), z_z1, z_if, if_pos he]
      exact ⟨N, rfl, fS_rfl, (fun p h => by cases h), fun _ => h28, hrA [] rfl⟩
    · have h24 : ¬ nI c < 24 := nI_nlt (b := 24) (by omega) (by omega)
      rw [if_pos (nI_lt (by omega) (by omega)), if_neg h24, if_pos rfl, eq_Mo_reads_69, if_pos rfl, z_z0, z_if, if_neg he, if_pos rfl]
      exact ⟨N, rfl, fS_rfl, (fun p h => by cases h; exact hT.1), (fun h => by cases h), hrA [] rfl⟩
  | succ j ih =>
    intro c q nn ss gg N A hc hq hb ht hT hD h43 h28 h29 hr hV
    have htS := tS_le (X := X) hq
    have hrA : ∀ L, L = [] → rm (if d = 1 then fA L A else A) N := fun L hL => by
      rw [hL]
      split
      · exact hr
      · exact hr
    have hPB : PB X l (j + 1) q nn ss gg = if tS X l q = l then (none, []) else if j + 1 = 0 then (some (tS X l q), []) else if X (tS X l q) = 59 then PA X l (j + 1) (tE X l q) nn ss gg else (some (tS X l q), []) := rfl
    rw [hPB, eq_Mo_reads_69, if_neg z_ne10, hT.1, ht.1, h28]
    by_cases he : tS X l q = l
    · rw [if_neg (nI_nlt (by omega) (by omega)), z_z1, z_if, if_pos he]
      exact ⟨N, rfl, fS_rfl, (fun p h => by cases h), fun _ => h28, hrA [] rfl⟩
    · have h24 : nI c < 24 := nI_lt (b := 24) (by omega) (by omega)
      have hx := hX (tS X l q) (by omega)
      rw [if_pos (nI_lt (by omega) (by omega)), if_pos h24, z_in (by omega) (by omega), z_if, z_ix (by omega), ht.2 _ (by omega), if_neg he, if_neg (show ¬ j + 1 = 0 by omega)]
      by_cases h59 : X (tS X l q) = 59
      · have t2 := (tE_le (X := X) hq).2.1
        obtain ⟨N1, k1, k2, k3, k4⟩ := m_nextToken (E := E) (M := N) (q := tE X l q) hl hX ht t2 hT.2
        have hD1 : rD nn ss gg N1 := ⟨(k2 25 0 25 rfl).trans hD.1, fun k hk => ⟨(k2 40 0 k rfl).trans (hD.2 k hk).1, (k2 41 0 k rfl).trans (hD.2 k hk).2⟩⟩
        have ht1 := rx_S k2 ht
        obtain ⟨N2, m1, m2, m3, m4⟩ := m_readsClause (E := E) (M := N1) (q := tE X l q) (nn := nn) (ss := ss) (gg := gg) hl hX ht1 t2 hb hD1 ⟨k3, k4⟩ (fun i hi => (k2 43 0 i rfl).trans (h43 i hi))
        have f2 : fr N N2 := fS_tr (fS_mono (fun a s h => S40_scr a s (S42_40 a s (S23_42 a s h))) k2) (fS_mono S40_scr m1)
        have f2' : fS S40 N N2 := fS_tr (fS_mono (fun a s h => S42_40 a s (S23_42 a s h)) k2) m1
        have r2 : rm A N2 := by
          obtain ⟨r1, r2, r3⟩ := hr
          refine ⟨(f2' 25 0 0 rfl).trans r1, fun x hx => (f2' 26 0 x rfl).trans (r2 x hx), fun k hk => ?_⟩
          obtain ⟨⟨b0, b1, b2, b3⟩, b4⟩ := r3 k hk
          exact ⟨⟨(f2' 27 0 k rfl).trans b0, (f2' 28 0 k rfl).trans b1, (f2' 29 0 k rfl).trans b2, (f2' 30 0 k rfl).trans b3⟩, fun u hu => ⟨(f2' 31 0 _ rfl).trans (b4 u hu).1, (f2' 32 0 _ rfl).trans (b4 u hu).2⟩⟩
        have n28 : N2 25 0 28 = nI c := (f2' 25 0 28 rfl).trans h28
        have n29 : N2 25 0 29 = nI d := (f2' 25 0 29 rfl).trans h29
        rw [if_pos (show nI (X (tS X l q)) = 59 by rw [h59]; rfl), if_neg (by decide), k1, z_bV, if_pos h59]
        cases hok : (clr X l nn ss gg (tE X l q)).1 with
        | false =>
          rw [PA_f hok, m3 hok, z_bI, eq_Mo_reads_69, if_pos rfl, z_z0, z_if]
          refine ⟨_, rfl, fS_up (fS_mono scr_N f2) rfl, (fun p h => by cases h; exact m2.1), (fun h => by cases h), ?_⟩
          have : rm A (am_up N2 25 0 28 (N2 25 0 28 + 1)) := r2
          split
          · exact this
          · exact this
        | true =>
          obtain ⟨w1, w2, w3⟩ := m4 hok
          have hokC := clr_ok hok
          rw [PA_t hok, w3, n29]
          have hle := clr_le (X := X) (l := l) (nn := nn) (q := tE X l q) (ss := ss) (gg := gg) t2
          -- the rest, from a memory behind the clause
          have rest : ∀ N3 A3, fS (SN d) N N3 → rx X l N3 → rT X l (clr X l nn ss gg (tE X l q)).2.1 N3 → rD (uN (clk X l (tE X l q)) (clr X l nn ss gg (tE X l q)).2.2 nn) (uS (clk X l (tE X l q)) (clr X l nn ss gg (tE X l q)).2.2 ss) (uG (clk X l (tE X l q)) (clr X l nn ss gg (tE X l q)).2.2 gg) N3 → (∀ i, i < 24 → N3 43 0 i = am_w0.getD i 0) → N3 25 0 28 = nI c → N3 25 0 29 = nI d → rm A3 N3 → (d = 1 → A3 = doA (clk X l (tE X l q)) (clr X l nn ss gg (tE X l q)).2.2 A) → (d = 0 → A3 = A) → ∃ N', am_ex (am_I2 E) mI_Mo_reads 69 [some (.inr (.inl (some (25, 0)))), some (.inl (nI d)), some (.inl 1)] [] (am_up N3 25 0 28 (N3 25 0 28 + 1)) = some (some (.inl (aI (PB X l j (clr X l nn ss gg (tE X l q)).2.1 (uN (clk X l (tE X l q)) (clr X l nn ss gg (tE X l q)).2.2 nn) (uS (clk X l (tE X l q)) (clr X l nn ss gg (tE X l q)).2.2 ss) (uG (clk X l (tE X l q)) (clr X l nn ss gg (tE X l q)).2.2 gg)).1.isNone)), N') ∧ fS (SN d) N N' ∧ (∀ p, (PB X l j (clr X l nn ss gg (tE X l q)).2.1 (uN (clk X l (tE X l q)) (clr X l nn ss gg (tE X l q)).2.2 nn) (uS (clk X l (tE X l q)) (clr X l nn ss gg (tE X l q)).2.2 ss) (uG (clk X l (tE X l q)) (clr X l nn ss gg (tE X l q)).2.2 gg)).1 = some p → N' 25 0 23 = nI p) ∧ ((PB X l j (clr X l nn ss gg (tE X l q)).2.1 (uN (clk X l (tE X l q)) (clr X l nn ss gg (tE X l q)).2.2 nn) (uS (clk X l (tE X l q)) (clr X l nn ss gg (tE X l q)).2.2 ss) (uG (clk X l (tE X l q)) (clr X l nn ss gg (tE X l q)).2.2 gg)).1 = none → N' 25 0 28 = nI (c + ((PB X l j (clr X l nn ss gg (tE X l q)).2.1 (uN (clk X l (tE X l q)) (clr X l nn ss gg (tE X l q)).2.2 nn) (uS (clk X l (tE X l q)) (clr X l nn ss gg (tE X l q)).2.2 ss) (uG (clk X l (tE X l q)) (clr X l nn ss gg (tE X l q)).2.2 gg)).2.length + 1))) ∧ rm (if d = 1 then fA (PB X l j (clr X l nn ss gg (tE X l q)).2.1 (uN (clk X l (tE X l q)) (clr X l nn ss gg (tE X l q)).2.2 nn) (uS (clk X l (tE X l q)) (clr X l nn ss gg (tE X l q)).2.2 ss) (uG (clk X l (tE X l q)) (clr X l nn ss gg (tE X l q)).2.2 gg)).2 (doA (clk X l (tE X l q)) (clr X l nn ss gg (tE X l q)).2.2 A) else A) N' := by
            intro N3 A3 g1 g2 g3 g4 g5 g6 g7 g8 g9 g10
            obtain ⟨N', p1, p2, p3, p4, p5⟩ := ih (c + 1) (clr X l nn ss gg (tE X l q)).2.1 _ _ _ (am_up N3 25 0 28 (N3 25 0 28 + 1)) A3 (by omega) hle (bd_u hb hokC) g2 g3 g4 g5 (by rw [am_up_self, g6, nI_1]) g7 g8 (fun h => by rw [g9 h]; exact VA_do (hV h) hokC)
            refine ⟨N', p1, fS_tr (fS_up g1 (scr_N 25 28 rfl)) p2, p3, fun h => ?_, ?_⟩
            · rw [p4 h]
              congr 1
              omega
            · by_cases e : d = 1
              · rw [if_pos e] at p5 ⊢
                rw [← g9 e]; exact p5
              · rw [if_neg e] at p5 ⊢
                rw [← g10 (by omega)]; exact p5
          by_cases e1 : d = 1
          · subst e1
            rw [if_neg (by decide)]
            obtain ⟨N3, q1, q2, q3⟩ := m_does (E := E) (N := N2) (w := clk X l (tE X l q)) (vs := (clr X l nn ss gg (tE X l q)).2.2) (hV rfl) hokC r2 w2
            rw [q1, z_bV, z_bI]
            exact rest N3 _ (fS_tr (fS_mono scr_N f2) (fS_mono Sdm_N q2)) ⟨(q2 25 0 22 rfl).trans (rx_40 m1 ht1).1, fun x hx => (q2 39 0 x rfl).trans ((rx_40 m1 ht1).2 x hx)⟩ ⟨(q2 25 0 23 rfl).trans m2.1, (q2 25 0 24 rfl).trans m2.2⟩ ⟨(q2 25 0 25 rfl).trans w1.1, fun k hk => ⟨(q2 40 0 k rfl).trans (w1.2 k hk).1, (q2 41 0 k rfl).trans (w1.2 k hk).2⟩⟩ (fun i hi => (q2 43 0 i rfl).trans ((f2' 43 0 i rfl).trans (h43 i hi))) ((q2 25 0 28 rfl).trans n28) ((q2 25 0 29 rfl).trans n29) q3 (fun _ => rfl) (fun h => by cases h)
          · have hd0 : d = 0 := by omega
            subst hd0
            rw [if_pos (by decide), z_bI]
            exact rest N2 A (fS_mono scr_N f2) (rx_40 m1 ht1) m2 w1 (fun i hi => (f2' 43 0 i rfl).trans (h43 i hi)) n28 n29 r2 (fun h => by cases h) (fun _ => rfl)
      · rw [if_neg (show ¬ nI (X (tS X l q)) = 59 from fun z => h59 ((nI_eq (b := 59) (by omega) (by omega)).mp z)), if_pos rfl, eq_Mo_reads_69, if_pos rfl, z_z0, z_if, if_neg h59]
        exact ⟨N, rfl, fS_rfl, (fun p h => by cases h; exact hT.1), (fun h => by cases h), hrA [] rfl⟩
end
