/-! the parts of a set in their order, by going through all -/
def nxF (r p : Nat) : Nat := ((p + 256 - r) % 256) &&& r
theorem nxF_eq : ∀ r, r < 256 → ∀ p, p < 256 → p &&& r = p → (nI p - nI r) &&& nI r = nI (nxF r p) := by decide +kernel
/-- none of so many numbers behind p is a part of r -/
def gapF (r p : Nat) : Nat → Bool
  | 0 => true
  | d + 1 => !(Nat.beq ((p + 1 + d) &&& r) (p + 1 + d)) && gapF r p d
theorem gapF_no {r p : Nat} : ∀ {m : Nat}, gapF r p m = true → ∀ d, d < m → (p + 1 + d) &&& r ≠ p + 1 + d := by
  intro m
  induction m with
  | zero => intro _ d hd; omega
  | succ m ih =>
    intro h d hd w
    have h1 : (!(Nat.beq ((p + 1 + m) &&& r) (p + 1 + m)) && gapF r p m) = true := h
    rw [Bool.and_eq_true] at h1
    by_cases e : d = m
    · subst e
      rw [w, Nat.beq_refl] at h1
      cases h1.1
    · exact ih h1.2 d (by omega) w
def upF (r p : Nat) : Bool := Nat.blt p (nxF r p) && (Nat.beq (nxF r p &&& r) (nxF r p) && gapF r p (nxF r p - p - 1))
theorem upF_all : ∀ r, r < 256 → ∀ p, p < 256 → p &&& r = p → p ≠ r → upF r p = true := by decide +kernel
theorem nxF_up (r : Nat) (hr : r < 256) (p : Nat) (hp : p < 256) (h : p &&& r = p) (hne : p ≠ r) : p < nxF r p ∧ nxF r p &&& r = nxF r p ∧ ∀ d, d < nxF r p - p - 1 → (p + 1 + d) &&& r ≠ p + 1 + d := by
  have h1 := upF_all r hr p hp h hne
  unfold upF at h1
  rw [Bool.and_eq_true, Bool.and_eq_true] at h1
  exact ⟨Nat.blt_eq.mp h1.1, Nat.eq_of_beq_eq_true h1.2.1, gapF_no h1.2.2⟩
theorem dnF_all : ∀ r, r < 256 → ∀ p, p < 256 → p &&& r = p → p ≠ 0 → gapF r ((p - 1) &&& r) (p - ((p - 1) &&& r) - 1) = true := by decide +kernel
/-- behind a part the next lower one -/
theorem dnF (r : Nat) (hr : r < 256) (p : Nat) (hp : p < 256) (h : p &&& r = p) (hne : p ≠ 0) : (p - 1) &&& r < p ∧ ((p - 1) &&& r) &&& r = (p - 1) &&& r ∧ ∀ q, q &&& r = q → q < p → q ≤ (p - 1) &&& r := by
  have h0 : (p - 1) &&& r ≤ p - 1 := Nat.and_le_left
  refine ⟨by omega, by rw [Nat.and_assoc, Nat.and_self], fun q hq hlt => ?_⟩
  rcases Nat.lt_or_ge ((p - 1) &&& r) q with w | w
  · exfalso
    refine gapF_no (dnF_all r hr p hp h hne) (q - ((p - 1) &&& r) - 1) (by omega) ?_
    rw [show (p - 1 &&& r) + 1 + (q - (p - 1 &&& r) - 1) = q by omega]
    exact hq
  · exact w
theorem or_add : ∀ t, t < 256 → ∀ p, p < 256 → t &&& p = 0 → t ||| p = t + p := by decide +kernel
