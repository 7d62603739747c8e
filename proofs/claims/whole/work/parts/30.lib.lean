/-! numbers and sets: a small library over Int32 -/
def bt (x : Int32) (u : Nat) : Bool := x.toBitVec.getLsbD u
theorem bt_and (x y : Int32) (u : Nat) : bt (x &&& y) u = (bt x u && bt y u) := by
  unfold bt; rw [Int32.toBitVec_and, BitVec.getLsbD_and]
theorem bt_or (x y : Int32) (u : Nat) : bt (x ||| y) u = (bt x u || bt y u) := by
  unfold bt; rw [Int32.toBitVec_or, BitVec.getLsbD_or]
theorem bt_nI (n u : Nat) (hu : u < 32) : bt (nI n) u = n.testBit u := by
  unfold bt nI
  rw [Int32.toBitVec_ofNat', BitVec.getLsbD_ofNat]
  simp [hu]
theorem bt_not (x : Int32) (u : Nat) (hu : u < 32) : bt (x ^^^ (-1 : Int32)) u = !bt x u := by
  unfold bt
  rw [Int32.toBitVec_xor, BitVec.getLsbD_xor]
  have : (-1 : Int32).toBitVec.getLsbD u = true := by
    have h : (-1 : Int32).toBitVec = BitVec.allOnes 32 := by decide
    rw [h, BitVec.getLsbD_allOnes]
    simp [hu]
  rw [this, Bool.xor_true]
theorem bt_ext {x y : Int32} (h : ∀ u, u < 32 → bt x u = bt y u) : x = y := by
  apply Int32.toBitVec_inj.mp
  apply BitVec.eq_of_getLsbD_eq
  intro i hi
  exact h i hi
theorem bt_0 (u : Nat) : bt 0 u = false := by
  unfold bt
  simp
theorem nI_and {a b : Nat} : nI a &&& nI b = nI (a &&& b) := by
  apply bt_ext
  intro u hu
  rw [bt_and, bt_nI _ _ hu, bt_nI _ _ hu, bt_nI _ _ hu, Nat.testBit_and]
theorem nI_or {a b : Nat} : nI a ||| nI b = nI (a ||| b) := by
  apply bt_ext
  intro u hu
  rw [bt_or, bt_nI _ _ hu, bt_nI _ _ hu, bt_nI _ _ hu, Nat.testBit_or]
/-- what is in the one and not in the other -/
def sd (a b : Nat) : Nat := a ^^^ (a &&& b)
theorem sd_bit (a b u : Nat) : (sd a b).testBit u = (a.testBit u && !b.testBit u) := by
  unfold sd
  rw [Nat.testBit_xor, Nat.testBit_and]
  cases a.testBit u <;> cases b.testBit u <;> rfl
theorem nI_sd {a b : Nat} : nI a &&& (nI b ^^^ (-1 : Int32)) = nI (sd a b) := by
  apply bt_ext
  intro u hu
  rw [bt_and, bt_not _ _ hu, bt_nI _ _ hu, bt_nI _ _ hu, bt_nI _ _ hu, sd_bit]
theorem nI_shl {u : Nat} (hu : u < 8) : (1 : Int32) <<< (nI u &&& 31) = nI (2 ^ u) := by
  have : ∀ u, u < 8 → (1 : Int32) <<< (nI u &&& 31) = nI (2 ^ u) := by decide
  exact this u hu
theorem bt_pow {u v : Nat} (hv : v < 32) : bt (nI (2 ^ u)) v = decide (u = v) := by
  rw [bt_nI _ _ hv, Nat.testBit_two_pow]
/-- the test of a bit in the class -/
theorem bt_ne0 {x : Int32} {u : Nat} (hu : u < 8) : (x &&& ((1 : Int32) <<< (nI u &&& 31)) = 0) ↔ bt x u = false := by
  rw [nI_shl hu]
  constructor
  · intro h
    have h1 := congrArg (fun y => bt y u) h
    simp only [bt_and, bt_0] at h1
    rw [bt_pow (by omega)] at h1
    simpa using h1
  · intro h
    apply bt_ext
    intro v hv
    rw [bt_and, bt_0, bt_pow hv]
    by_cases e : u = v
    · subst e; simp [h]
    · simp [e]
/-- the test of a bit in the reference -/
theorem bt_shr {x : Int32} {u : Nat} (hu : u < 8) : ((x >>> (nI u &&& 31)) &&& 1 = 1) ↔ bt x u = true := by
  have key : ∀ v, v < 32 → bt ((x >>> (nI u &&& 31)) &&& 1) v = (decide (v = 0) && bt x u) := by
    intro v hv
    rw [bt_and]
    have h1 : bt (1 : Int32) v = decide (v = 0) := by
      have : bt (nI 1) v = decide (v = 0) := by
        rw [bt_nI _ _ hv]
        cases v with
        | zero => rfl
        | succ v => simp [Nat.testBit_succ]
      exact this
    rw [h1]
    by_cases e : v = 0
    · subst e
      simp only [decide_true, Bool.and_true, Bool.true_and]
      unfold bt
      rw [Int32.toBitVec_shiftRight]
      have h2 : ∀ u, u < 8 → ((nI u &&& 31 : Int32).toBitVec.smod 32).toNat = u := by decide
      show (x.toBitVec.sshiftRight ((nI u &&& 31 : Int32).toBitVec.smod 32).toNat).getLsbD 0 = _
      rw [h2 u hu, BitVec.getLsbD_sshiftRight]
      simp
      omega
    · simp [e]
  constructor
  · intro h
    have h1 := key 0 (by omega)
    rw [h] at h1
    simpa [bt] using h1.symm
  · intro h
    apply bt_ext
    intro v hv
    rw [key v hv, h]
    have : bt (nI 1) v = decide (v = 0) := by
      rw [bt_nI _ _ hv]
      cases v with
      | zero => rfl
      | succ v => simp [Nat.testBit_succ]
    rw [Bool.and_true]
    exact this.symm
