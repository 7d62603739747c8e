/-! what holds between calls -/
/-- a rule of a node: none, or another node -/
def rok (n g u : Nat) (x : Int32) : Prop := x = -1 ∨ ∃ v, v < n ∧ v ≠ u ∧ u < n ∧ u ≠ g ∧ x = nI v
/-- rounds that can be taken back: parts of what is turned, apart from each other -/
def rdk (a b : Nat → Int32) : Nat → Nat → Prop
  | 0, _ => True
  | m + 1, t => ∃ r, 0 < r ∧ a m = nI r ∧ b m = nI r ∧ r &&& t = r ∧ rdk a b m (sd t r)
def iN (n : Nat) (M : am_M) : Prop := (2 ≤ n ∧ n ≤ 8) ∧ M 1 0 0 = nI n ∧ M 25 0 0 = nI n
def iW (M : am_M) : Prop := (∃ w, w < 16 ∧ M 1 0 1 = nI w ∧ M 25 0 8 = nI w) ∧ ∃ s, 1 ≤ s ∧ s ≤ 6 ∧ M 1 0 2 = nI s ∧ M 25 0 9 = nI s
def iR (M : am_M) : Prop := ∀ j, j < 64 → ∃ r, r ≤ 9 ∧ M 2 0 j = nI r ∧ M 26 0 j = nI r
/-- where a flow goes, and its rules -/
def iG (n s g z k : Nat) (M : am_M) : Prop := (s < n ∧ g < n ∧ s ≠ g ∧ 1 ≤ z ∧ z ≤ 9) ∧ (M 4 k 0 = nI s ∧ M 27 0 k = nI s) ∧ (M 4 k 1 = nI g ∧ M 28 0 k = nI g) ∧ (M 4 k 2 = nI z ∧ M 29 0 k = nI z) ∧ (M 4 k 3 = M 30 0 k ∧ (M 30 0 k = -1 ∨ ∃ p, p < n ∧ p ≠ s ∧ p ≠ g ∧ M 30 0 k = nI p)) ∧ ∀ u, u < 8 → (M 5 k u = M 31 0 (8 * k + u) ∧ M 6 k u = M 32 0 (8 * k + u)) ∧ rok n g u (M 5 k u) ∧ rok n g u (M 6 k u)
/-- how far a flow has turned -/
def iH (c t m p d k : Nat) (M : am_M) : Prop := (t < 256 ∧ sd t (mv (M 5 k) (M 6 k)) = 0 ∧ m ≤ 8 ∧ p < 3 ∧ d ≤ c) ∧ (M 4 k 6 = nI t ∧ M 33 0 k = nI t) ∧ (M 4 k 7 = nI p ∧ M 34 0 k = nI p) ∧ (M 4 k 9 = nI m ∧ M 36 0 k = nI m) ∧ rdk (M 7 k) (fun i => M 35 0 (8 * k + i)) m t ∧ (M 4 k 10 = nI d ∧ M 37 0 k = nI d)
/-- a letter: flow, node, hops, stamped, rounds then, by old, by new, the post met, all met -/
def iY (n f u h a d o w q e i : Nat) (M : am_M) : Prop := (f < 3 ∧ u < n ∧ h < 20 ∧ a < 2 ∧ o < 2 ∧ w < 2 ∧ q < 2 ∧ e < 256) ∧ d ≤ (M 37 0 f).toNatClampNeg ∧ (M 19 (am_lx (M 18 0 i)) 0 = nI f ∧ M 38 0 (8 * i) = nI f) ∧ (M 19 (am_lx (M 18 0 i)) 1 = nI u ∧ M 38 0 (8 * i + 1) = nI u) ∧ (M 19 (am_lx (M 18 0 i)) 2 = nI h ∧ M 38 0 (8 * i + 2) = nI h) ∧ (M 19 (am_lx (M 18 0 i)) 5 = nI a ∧ M 38 0 (8 * i + 3) = nI a) ∧ (M 19 (am_lx (M 18 0 i)) 4 = nI d ∧ M 38 0 (8 * i + 4) = nI d) ∧ (M 19 (am_lx (M 18 0 i)) 6 = nI o ∧ M 38 0 (8 * i + 5) = nI o) ∧ (M 19 (am_lx (M 18 0 i)) 7 = nI w ∧ M 38 0 (8 * i + 6) = nI w) ∧ M 38 0 (8 * i + 7) = nI q ∧ M 19 (am_lx (M 18 0 i)) 3 = nI e ∧ ∀ p, p < 8 → M 30 0 f = nI p → (e.testBit p = true ↔ q = 1)
def iP (M : am_M) : Prop := (∀ i, i < 12 → ∃ j, j < 12 ∧ M 18 0 i = nI j) ∧ ∀ i j, i < 12 → j < 12 → M 18 0 i = M 18 0 j → i = j
def iL (n m : Nat) (M : am_M) : Prop := m ≤ 12 ∧ (M 17 0 2 = nI m ∧ M 25 0 16 = nI m) ∧ iP M ∧ ∀ i, i < m → ∃ f u h a d o w q e, iY n f u h a d o w q e i M
def iC (M : am_M) : Prop := M 17 0 3 = M 25 0 17 ∧ M 17 0 4 = M 25 0 18 ∧ M 17 0 5 = M 25 0 19 ∧ M 17 0 6 = M 25 0 20
def iX (M : am_M) : Prop := (∃ l, l ≤ 200 ∧ M 20 0 2 = nI l ∧ M 25 0 22 = nI l) ∧ (∀ i, i < 200 → ∃ b, b < 256 ∧ M 21 0 i = nI b ∧ M 39 0 i = nI b) ∧ ∀ i, i < 24 → M 43 0 i = am_w0.getD i 0
def Inv (c : Nat) (M : am_M) : Prop := ∃ n, iN n M ∧ iW M ∧ iR M ∧ (∀ k, k < 3 → ∃ s g z, iG n s g z k M) ∧ (∀ k, k < 3 → ∃ t m p d, iH c t m p d k M) ∧ (∃ m, iL n m M) ∧ iC M ∧ iX M
theorem iH_mono {c t m p d k : Nat} {M : am_M} (h : iH c t m p d k M) : iH (c + 1) t m p d k M := by
  obtain ⟨⟨h1, h2, h3, h4, h5⟩, h⟩ := h
  exact ⟨⟨h1, h2, h3, h4, by omega⟩, h⟩
theorem Inv_mono {c : Nat} {M : am_M} (h : Inv c M) : Inv (c + 1) M := by
  obtain ⟨n, h1, h2, h3, h4, h5, h6⟩ := h
  exact ⟨n, h1, h2, h3, h4, fun k hk => by obtain ⟨t, m, p, d, w⟩ := h5 k hk; exact ⟨t, m, p, d, iH_mono w⟩, h6⟩
/-- cells that nothing holds of between calls -/
def scr (k s : Nat) : Bool := match k with
  | 9 => true
  | 10 => true
  | 11 => true
  | 12 => true
  | 13 => true
  | 14 => true
  | 15 => true
  | 16 => true
  | 20 => !(Nat.beq s 2)
  | 22 => true
  | 23 => true
  | 24 => true
  | 25 => match s with
    | 23 => true
    | 24 => true
    | 25 => true
    | 28 => true
    | 29 => true
    | 33 => true
    | 34 => true
    | 35 => true
    | _ => false
  | 40 => true
  | 41 => true
  | 42 => true
  | 44 => true
  | 45 => true
  | 46 => true
  | 47 => true
  | 48 => true
  | 49 => true
  | _ => false
def ov (N M : am_M) : am_M := fun k w s => match scr k s with
  | true => N k w s
  | false => M k w s
theorem Inv_ov {c : Nat} {N M : am_M} (h : Inv c M) : Inv c (ov N M) := h
/-- nothing is changed but cells that nothing holds of -/
def fr (M N : am_M) : Prop := ∀ k w s, scr k s = false → N k w s = M k w s
theorem fr_ov {M N : am_M} (h : fr M N) : N = ov N M := by
  funext k w s
  unfold ov
  cases e : scr k s with
  | true => rfl
  | false => exact h k w s e
theorem Inv_fr {c : Nat} {M N : am_M} (h : fr M N) (hI : Inv c M) : Inv c N := by
  rw [fr_ov h]; exact Inv_ov hI
theorem fr_rfl {M : am_M} : fr M M := fun _ _ _ _ => rfl
theorem fr_tr {M N K : am_M} (h : fr M N) (h2 : fr N K) : fr M K := fun k w s e => (h2 k w s e).trans (h k w s e)
theorem fr_up {M N : am_M} {a b c : Nat} {x : Int32} (h : fr M N) (hs : scr a c = true) : fr M (am_up N a b c x) := by
  intro k w s e
  rw [← h k w s e]
  apply am_up_ne
  by_cases h1 : k = a
  · by_cases h2 : s = c
    · subst h1; subst h2
      rw [hs] at e
      cases e
    · exact Or.inr (Or.inr h2)
  · exact Or.inl h1
/-- both answer alike, and all holds again -/
def pr (E : am_E) (c : Nat) (M : am_M) (a b : Nat) (l : List am_V) : Prop := ∃ v M1 M2, am_run (am_I2 E) a (.inr (.inl (some (0, 0))) :: l) M = some (some (.inl v), M1) ∧ am_run (am_I2 E) b (.inr (.inl (some (25, 0))) :: l) M1 = some (some (.inl v), M2) ∧ Inv (c + 1) M2
theorem Inv_0 : Inv 0 am_M0 := by
  refine ⟨2, ⟨by omega, by decide, by decide⟩, ⟨⟨15, by omega, by decide, by decide⟩, 6, by omega, by omega, by decide, by decide⟩, fun j hj => ⟨0, by omega, rfl, rfl⟩, fun k hk => ⟨0, 1, 1, by omega, ⟨rfl, rfl⟩, ⟨rfl, rfl⟩, ⟨rfl, rfl⟩, ⟨rfl, Or.inl rfl⟩, fun u hu => ⟨⟨rfl, rfl⟩, Or.inl rfl, Or.inl rfl⟩⟩, fun k hk => ⟨0, 0, 0, 0, ⟨by omega, by simp [sd], by omega, by omega, by omega⟩, ⟨rfl, rfl⟩, ⟨rfl, rfl⟩, ⟨rfl, rfl⟩, trivial, ⟨rfl, rfl⟩⟩, ⟨0, by omega, ⟨rfl, rfl⟩, ⟨fun i hi => ⟨i, hi, rfl⟩, fun i j hi hj e => (nI_eq (by omega) (by omega)).mp e⟩, fun i hi => absurd hi (by omega)⟩, ⟨rfl, rfl, rfl, rfl⟩, ⟨0, by omega, rfl, rfl⟩, fun i hi => ⟨0, by omega, rfl, rfl⟩, fun i hi => rfl⟩
