/-! calls: fault, rules -/
section
variable {E : am_E} {M N A : am_M} {X : Nat → Nat} {l c : Nat}
theorem m_reads {d j n : Nat} {ss gg : Nat → Nat} (hd : d < 2) (hj : 1 + j = 24) (hl : l ≤ 200) (hX : ∀ x, x < 200 → X x < 256) (hb : bd n ss gg) (ht : rx X l N) (hn : N 25 0 0 = nI n) (hs : ∀ k, k < 3 → N 27 0 k = nI (ss k) ∧ N 28 0 k = nI (gg k)) (h43 : ∀ i, i < 24 → N 43 0 i = am_w0.getD i 0) (hr : rm A N) (hV : d = 1 → VA n ss gg A) : ∃ N', am_run (am_I2 E) mI_Mo_reads [.inr (.inl (some (25, 0))), .inl (nI d)] N = some (some (.inl (aI (PA X l (j + 1) 0 n ss gg).1.isNone)), N') ∧ fS (SN d) N N' ∧ (∀ p, (PA X l (j + 1) 0 n ss gg).1 = some p → N' 25 0 23 = nI p) ∧ ((PA X l (j + 1) 0 n ss gg).1 = none → N' 25 0 28 = nI (PA X l (j + 1) 0 n ss gg).2.length) ∧ rm (if d = 1 then fA (PA X l (j + 1) 0 n ss gg).2 A else A) N' := by
  have hz : am_z (nI d) = true := by
    have : ∀ d, d < 2 → am_z (nI d) = true := by decide
    exact this d hd
  have loop : ∀ m i P, i + m = 3 → (∀ a b s, a ≠ 40 → a ≠ 41 → P a b s = (am_up (am_up (am_up (am_up N 25 0 29 (nI d)) 25 0 24 0) 25 0 28 1) 25 0 25 (nI n)) a b s) → (∀ k, k < i → P 40 0 k = nI (ss k) ∧ P 41 0 k = nI (gg k)) → ∃ P', am_ex (am_I2 E) mI_Mo_reads 25 [some (.inr (.inl (some (25, 0)))), some (.inl (nI d)), some (.inl (nI i))] [] P = am_bV (am_run (am_I2 E) mI_Mo_nextToken [.inr (.inl (some (25, 0)))] P') (fun M1 => am_bI (am_run (am_I2 E) mI_Mo_readsClause [.inr (.inl (some (25, 0)))] M1) (fun v2 M2 => am_ex (am_I2 E) mI_Mo_reads 69 [some (.inr (.inl (some (25, 0)))), some (.inl (nI d)), some (.inl v2)] [] M2)) ∧ (∀ a b s, a ≠ 40 → a ≠ 41 → P' a b s = (am_up (am_up (am_up (am_up N 25 0 29 (nI d)) 25 0 24 0) 25 0 28 1) 25 0 25 (nI n)) a b s) ∧ ∀ k, k < 3 → P' 40 0 k = nI (ss k) ∧ P' 41 0 k = nI (gg k) := by
    intro m
    induction m with
    | zero =>
      intro i P hi ho hk
      have h3 : ¬ nI i < 3 := nI_nlt (b := 3) (by omega) (by omega)
      exact ⟨P, by rw [eq_Mo_reads_25, if_neg h3], ho, fun k hk2 => hk k (by omega)⟩
    | succ m ih =>
      intro i P hi ho hk
      have h3 : nI i < 3 := nI_lt (b := 3) (by omega) (by omega)
      have e27 : P 27 0 i = nI (ss i) := (ho 27 0 i (by decide) (by decide)).trans (hs i (by omega)).1
      have e28 : P 28 0 i = nI (gg i) := (ho 28 0 i (by decide) (by decide)).trans (hs i (by omega)).2
      rw [eq_Mo_reads_25, if_pos h3, z_in (by omega) (by omega), z_if, z_if, z_if, z_if, z_ix (by omega), e27, e28, nI_1]
      refine ih (i + 1) _ (by omega) (fun a b s h2 h3 => ?_) (fun k hk2 => ?_)
      · rw [am_up_ne (Or.inl h3), am_up_ne (Or.inl h2)]
        exact ho a b s h2 h3
      · by_cases e : k = i
        · rw [e]
          exact ⟨am_up_self P 40 0 i _, am_up_self _ 41 0 i _⟩
        · exact ⟨(am_up_ne (M := P) (a := 40) (b := 0) (c := i) (x := nI (ss i)) (Or.inr (Or.inr e))).trans (hk k (by omega)).1, (am_up_ne (M := am_up P 40 0 i (nI (ss i))) (a := 41) (b := 0) (c := i) (x := nI (gg i)) (Or.inr (Or.inr e))).trans (hk k (by omega)).2⟩
  obtain ⟨P1, k1, k2, k3⟩ := loop 3 0 (am_up (am_up (am_up (am_up N 25 0 29 (nI d)) 25 0 24 0) 25 0 28 1) 25 0 25 (nI n)) rfl (fun _ _ _ _ _ => rfl) (fun k hk => absurd hk (by omega))
  have f1 : fr N P1 := by
    intro a b s h
    rw [k2 a b s (fun ea => by subst ea; cases h) (fun ea => by subst ea; cases h)]
    exact fr_up (fr_up (fr_up (fr_up fr_rfl rfl) rfl) rfl) rfl a b s h
  have ht1 : rx X l P1 := ⟨(f1 25 0 22 rfl).trans ht.1, fun x hx => (f1 39 0 x rfl).trans (ht.2 x hx)⟩
  have h0l : (0 : Nat) ≤ l := Nat.zero_le l
  obtain ⟨N1, m1, m2, m3, m4⟩ := m_nextToken (E := E) (M := P1) (q := 0) hl hX ht1 h0l (k2 25 0 24 (by decide) (by decide))
  have hD1 : rD n ss gg N1 := ⟨(m2 25 0 25 rfl).trans (k2 25 0 25 (by decide) (by decide)), fun k hk => ⟨(m2 40 0 k rfl).trans (k3 k hk).1, (m2 41 0 k rfl).trans (k3 k hk).2⟩⟩
  have ht2 := rx_S m2 ht1
  obtain ⟨N2, p1, p2, p3, p4⟩ := m_readsClause (E := E) (M := N1) (q := 0) (nn := n) (ss := ss) (gg := gg) hl hX ht2 h0l hb hD1 ⟨m3, m4⟩ (fun i hi => (m2 43 0 i rfl).trans ((f1 43 0 i rfl).trans (h43 i hi)))
  have f12 : fS S40 P1 N2 := fS_tr (fS_mono (fun a s h => S42_40 a s (S23_42 a s h)) m2) p1
  have f2 : fr N N2 := fS_tr f1 (fS_mono S40_scr f12)
  have r2 : rm A N2 := by
    obtain ⟨r1, r2, r3⟩ := hr
    refine ⟨(f2 25 0 0 rfl).trans r1, fun x hx => (f2 26 0 x rfl).trans (r2 x hx), fun k hk => ?_⟩
    obtain ⟨⟨b0, b1, b2, b3⟩, b4⟩ := r3 k hk
    exact ⟨⟨(f2 27 0 k rfl).trans b0, (f2 28 0 k rfl).trans b1, (f2 29 0 k rfl).trans b2, (f2 30 0 k rfl).trans b3⟩, fun u hu => ⟨(f2 31 0 _ rfl).trans (b4 u hu).1, (f2 32 0 _ rfl).trans (b4 u hu).2⟩⟩
  have n28 : N2 25 0 28 = nI 1 := (f12 25 0 28 rfl).trans (k2 25 0 28 (by decide) (by decide))
  have n29 : N2 25 0 29 = nI d := (f12 25 0 29 rfl).trans (k2 25 0 29 (by decide) (by decide))
  have start : am_run (am_I2 E) mI_Mo_reads [.inr (.inl (some (25, 0))), .inl (nI d)] N = am_bI (am_run (am_I2 E) mI_Mo_readsClause [.inr (.inl (some (25, 0)))] N1) (fun v2 M2 => am_ex (am_I2 E) mI_Mo_reads 69 [some (.inr (.inl (some (25, 0)))), some (.inl (nI d)), some (.inl v2)] [] M2) := by
    rw [rq_Mo_reads, hz, z_if, hn]
    refine Eq.trans k1 ?_
    rw [m1, z_bV]
  rw [start]
  cases hok : (clr X l n ss gg 0).1 with
  | false =>
    rw [PA_f hok, p3 hok, z_bI, eq_Mo_reads_69, if_pos rfl, z_z0, z_if]
    refine ⟨N2, rfl, fS_mono scr_N f2, (fun p h => by cases h; exact p2.1), (fun h => by cases h), ?_⟩
    split
    · exact r2
    · exact r2
  | true =>
    obtain ⟨w1, w2, w3⟩ := p4 hok
    have hokC := clr_ok hok
    have hle := clr_le (X := X) (l := l) (nn := n) (q := 0) (ss := ss) (gg := gg) h0l
    rw [PA_t hok, w3, n29]
    have rest : ∀ N3 A3, fS (SN d) N N3 → rx X l N3 → rT X l (clr X l n ss gg 0).2.1 N3 → rD (uN (clk X l 0) (clr X l n ss gg 0).2.2 n) (uS (clk X l 0) (clr X l n ss gg 0).2.2 ss) (uG (clk X l 0) (clr X l n ss gg 0).2.2 gg) N3 → (∀ i, i < 24 → N3 43 0 i = am_w0.getD i 0) → N3 25 0 28 = nI 1 → N3 25 0 29 = nI d → rm A3 N3 → (d = 1 → A3 = doA (clk X l 0) (clr X l n ss gg 0).2.2 A) → (d = 0 → A3 = A) → ∃ N', am_ex (am_I2 E) mI_Mo_reads 69 [some (.inr (.inl (some (25, 0)))), some (.inl (nI d)), some (.inl 1)] [] N3 = some (some (.inl (aI (PB X l j (clr X l n ss gg 0).2.1 (uN (clk X l 0) (clr X l n ss gg 0).2.2 n) (uS (clk X l 0) (clr X l n ss gg 0).2.2 ss) (uG (clk X l 0) (clr X l n ss gg 0).2.2 gg)).1.isNone)), N') ∧ fS (SN d) N N' ∧ (∀ p, (PB X l j (clr X l n ss gg 0).2.1 (uN (clk X l 0) (clr X l n ss gg 0).2.2 n) (uS (clk X l 0) (clr X l n ss gg 0).2.2 ss) (uG (clk X l 0) (clr X l n ss gg 0).2.2 gg)).1 = some p → N' 25 0 23 = nI p) ∧ ((PB X l j (clr X l n ss gg 0).2.1 (uN (clk X l 0) (clr X l n ss gg 0).2.2 n) (uS (clk X l 0) (clr X l n ss gg 0).2.2 ss) (uG (clk X l 0) (clr X l n ss gg 0).2.2 gg)).1 = none → N' 25 0 28 = nI ((PB X l j (clr X l n ss gg 0).2.1 (uN (clk X l 0) (clr X l n ss gg 0).2.2 n) (uS (clk X l 0) (clr X l n ss gg 0).2.2 ss) (uG (clk X l 0) (clr X l n ss gg 0).2.2 gg)).2.length + 1)) ∧ rm (if d = 1 then fA (PB X l j (clr X l n ss gg 0).2.1 (uN (clk X l 0) (clr X l n ss gg 0).2.2 n) (uS (clk X l 0) (clr X l n ss gg 0).2.2 ss) (uG (clk X l 0) (clr X l n ss gg 0).2.2 gg)).2 (doA (clk X l 0) (clr X l n ss gg 0).2.2 A) else A) N' := by
      intro N3 A3 g1 g2 g3 g4 g5 g6 g7 g8 g9 g10
      obtain ⟨N', q1, q2, q3, q4, q5⟩ := m_after (E := E) hd hl hX j 1 (clr X l n ss gg 0).2.1 _ _ _ N3 A3 hj hle (bd_u hb hokC) g2 g3 g4 g5 g6 g7 g8 (fun h => by rw [g9 h]; exact VA_do (hV h) hokC)
      refine ⟨N', q1, fS_tr g1 q2, q3, fun h => ?_, ?_⟩
      · rw [q4 h]
        congr 1
        omega
      · by_cases e : d = 1
        · rw [if_pos e] at q5 ⊢
          rw [← g9 e]; exact q5
        · rw [if_neg e] at q5 ⊢
          rw [← g10 (by omega)]; exact q5
    by_cases e1 : d = 1
    · subst e1
      rw [if_neg (by decide)]
      obtain ⟨N3, q1, q2, q3⟩ := m_does (E := E) (N := N2) (w := clk X l 0) (vs := (clr X l n ss gg 0).2.2) (hV rfl) hokC r2 w2
      rw [q1, z_bV, z_bI]
      exact rest N3 _ (fS_tr (fS_mono scr_N f2) (fS_mono Sdm_N q2)) ⟨(q2 25 0 22 rfl).trans (rx_40 p1 ht2).1, fun x hx => (q2 39 0 x rfl).trans ((rx_40 p1 ht2).2 x hx)⟩ ⟨(q2 25 0 23 rfl).trans p2.1, (q2 25 0 24 rfl).trans p2.2⟩ ⟨(q2 25 0 25 rfl).trans w1.1, fun k hk => ⟨(q2 40 0 k rfl).trans (w1.2 k hk).1, (q2 41 0 k rfl).trans (w1.2 k hk).2⟩⟩ (fun i hi => (q2 43 0 i rfl).trans ((f2 43 0 i rfl).trans (h43 i hi))) ((q2 25 0 28 rfl).trans n28) ((q2 25 0 29 rfl).trans n29) q3 (fun _ => rfl) (fun h => by cases h)
    · have hd0 : d = 0 := by omega
      subst hd0
      rw [if_pos (by decide), z_bI]
      exact rest N2 A (fS_mono scr_N f2) (rx_40 p1 ht2) p2 w1 (fun i hi => (f2 43 0 i rfl).trans (h43 i hi)) n28 n29 r2 (fun h => by cases h) (fun _ => rfl)
theorem SN_0 {N N' : am_M} (h : fS (SN 0) N N') : fr N N' := fS_mono (fun a s e => by
  unfold SN at e
  rw [show Nat.beq 0 1 = false from rfl, Bool.false_and, Bool.or_false] at e
  exact e) h
theorem rm_self {n : Nat} (hN : iN n M) (hR : iR M) (hG : ∀ k, k < 3 → iG n (sr M k) (gl M k) (sz M k) k M) : rm M M := by
  refine ⟨hN.2.2.trans hN.2.1.symm, fun x hx => ?_, fun k hk => ?_⟩
  · obtain ⟨r, -, r1, r2⟩ := hR x hx
    rw [r1, r2]
  · obtain ⟨-, g1, g2, g3, g4, g5⟩ := hG k hk
    exact ⟨⟨g1.2.trans g1.1.symm, g2.2.trans g2.1.symm, g3.2.trans g3.1.symm, g4.1.symm⟩, fun u hu => ⟨(g5 u hu).1.1.symm, (g5 u hu).1.2.symm⟩⟩
theorem VA_self {n : Nat} (hN : iN n M) (hR : iR M) (hG : ∀ k, k < 3 → iG n (sr M k) (gl M k) (sz M k) k M) : VA n (sr M) (gl M) M := by
  refine ⟨hN.1, hN.2.1, fun x hx => ?_, fun k hk => ?_⟩
  · obtain ⟨r, hr, r1, -⟩ := hR x hx
    exact ⟨r, hr, r1⟩
  · obtain ⟨g0, g1, g2, g3, g4, g5⟩ := hG k hk
    refine ⟨⟨g0.1, g0.2.1, g0.2.2.1⟩, g1.1, g2.1, ⟨sz M k, g0.2.2.2.1, g0.2.2.2.2, g3.1⟩, ?_, fun u hu => (g5 u hu).2⟩
    rw [g4.1]; exact g4.2
theorem rm_f {N : am_M} (hf : ∀ a s, (a = 25 ∧ s = 0 ∨ 26 ≤ a ∧ a ≤ 32) → N a 0 s = M a 0 s) (h : rm A M) : rm A N := by
  obtain ⟨r1, r2, r3⟩ := h
  refine ⟨(hf 25 0 (Or.inl ⟨rfl, rfl⟩)).trans r1, fun x hx => (hf 26 x (Or.inr (by omega))).trans (r2 x hx), fun k hk => ?_⟩
  obtain ⟨⟨b0, b1, b2, b3⟩, b4⟩ := r3 k hk
  exact ⟨⟨(hf 27 k (Or.inr (by omega))).trans b0, (hf 28 k (Or.inr (by omega))).trans b1, (hf 29 k (Or.inr (by omega))).trans b2, (hf 30 k (Or.inr (by omega))).trans b3⟩, fun u hu => ⟨(hf 31 _ (Or.inr (by omega))).trans (b4 u hu).1, (hf 32 _ (Or.inr (by omega))).trans (b4 u hu).2⟩⟩
/-- the text of a memory -/
def Xt (M : am_M) (x : Nat) : Nat := (M 21 0 x).toNatClampNeg
theorem iX_t (hX : iX M) : ∃ l, l ≤ 200 ∧ tx (Xt M) l M ∧ rx (Xt M) l M ∧ (∀ x, x < 200 → Xt M x < 256) ∧ ∀ i, i < 24 → M 43 0 i = am_w0.getD i 0 := by
  obtain ⟨⟨l, hl, h1, h2⟩, h3, h4⟩ := hX
  have hx : ∀ x, x < 200 → Xt M x < 256 ∧ M 21 0 x = nI (Xt M x) ∧ M 39 0 x = nI (Xt M x) := by
    intro x hx
    obtain ⟨b, hb, b1, b2⟩ := h3 x hx
    have : Xt M x = b := by unfold Xt; rw [b1, nI_clamp (by omega)]
    rw [this]
    exact ⟨hb, b1, b2⟩
  exact ⟨l, hl, ⟨h1, fun x h => (hx x h).2.1⟩, ⟨h2, fun x h => (hx x h).2.2⟩, fun x h => (hx x h).1, h4⟩
theorem op_fault (hI : Inv c M) : pr E c M mI_Mx_fault mI_Mo_fault [] := by
  obtain ⟨n, hN, hW, hR, h4, h5, hL, hC, hX⟩ := id hI
  have hn := hN.1
  have hG : ∀ k, k < 3 → iG n (sr M k) (gl M k) (sz M k) k M := fun k hk => by
    obtain ⟨s, g, z, h⟩ := h4 k hk
    exact iG_can hn.2 h
  obtain ⟨l, hl, htx, hrx, hX2, h43⟩ := iX_t hX
  have hb : bd n (sr M) (gl M) := ⟨hn, fun k hk => by have := (hG k hk).1; omega⟩
  have hc := c_findFault (E := E) (X := Xt M) (l := l) hl hX2 hN hG htx
  have hm := fun (N : am_M) (hf : fr M N) => m_reads (E := E) (N := N) (A := M) (X := Xt M) (l := l) (d := 0) (j := 23) (n := n) (ss := sr M) (gg := gl M) (by omega) rfl hl hX2 hb ⟨(hf 25 0 22 rfl).trans hrx.1, fun x hx => (hf 39 0 x rfl).trans (hrx.2 x hx)⟩ ((hf 25 0 0 rfl).trans hN.2.2) (fun k hk => ⟨(hf 27 0 k rfl).trans (hG k hk).2.1.2, (hf 28 0 k rfl).trans (hG k hk).2.2.1.2⟩) (fun i hi => (hf 43 0 i rfl).trans (h43 i hi)) (rm_f (fun a s h => by
    rcases h with ⟨rfl, rfl⟩ | h
    · exact hf 25 0 0 rfl
    · have ha : a = 26 ∨ a = 27 ∨ a = 28 ∨ a = 29 ∨ a = 30 ∨ a = 31 ∨ a = 32 := by omega
      rcases ha with rfl | rfl | rfl | rfl | rfl | rfl | rfl <;> exact hf _ 0 s rfl) (rm_self hN hR hG)) (fun h => by cases h)
  have h24 : PA (Xt M) l (23 + 1) 0 n (sr M) (gl M) = PA (Xt M) l 24 0 n (sr M) (gl M) := rfl
  rw [h24] at hm
  generalize PA (Xt M) l 24 0 n (sr M) (gl M) = P at hc hm
  obtain ⟨N1, k1, k2, -⟩ := hc
  obtain ⟨N2, m1, m2, m3, -, -⟩ := hm N1 k2
  have hf2 : fr M N2 := fS_tr k2 (SN_0 m2)
  refine ⟨oI P.1, N1, N2, ?_, ?_, Inv_fr hf2 (Inv_mono hI)⟩
  · rw [rq_Mx_fault, k1, z_bI]
  · rw [rq_Mo_fault]
    rw [show am_run (am_I2 E) mI_Mo_reads [.inr (.inl (some (25, 0))), .inl 0] N1 = some (some (.inl (aI P.1.isNone)), N2) from m1, z_bI]
    cases hp : P.1 with
    | none => rfl
    | some p =>
      have := m3 p hp
      show (if (0 : Int32) = 0 then _ else _) = _
      rw [if_pos rfl, this]
      rfl
end
