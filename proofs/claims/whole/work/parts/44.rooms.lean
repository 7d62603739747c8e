/-! load; room on a walk -/
def S45 (a _s : Nat) : Bool := match a with
  | 45 => true
  | _ => false
theorem S45_scr : ∀ a s, S45 a s = true → scr a s = true := by
  intro a s h
  unfold S45 at h
  split at h
  · rfl
  · cases h
section
variable {E : am_E} {M B : am_M} {c : Nat}
theorem m_asTurned : ∃ N, am_run (am_I2 E) mI_Mo_asTurned [.inr (.inl (some (25, 0)))] M = some (none, N) ∧ fS S45 M N ∧ ∀ k, k < 3 → N 45 0 k = M 33 0 k := by
  rw [rq_Mo_asTurned]
  have key : ∀ j i N, i + j = 3 → fS S45 M N → (∀ k, k < i → N 45 0 k = M 33 0 k) → ∃ N', am_ex (am_I2 E) mI_Mo_asTurned 2 [some (.inr (.inl (some (25, 0)))), some (.inl (nI i))] [] N = some (none, N') ∧ fS S45 M N' ∧ ∀ k, k < 3 → N' 45 0 k = M 33 0 k := by
    intro j
    induction j with
    | zero =>
      intro i N hi hf h
      have h3 : ¬ nI i < 3 := nI_nlt (b := 3) (by omega) (by omega)
      exact ⟨N, by rw [eq_Mo_asTurned_2, if_neg h3], hf, fun k hk => h k (by omega)⟩
    | succ j ih =>
      intro i N hi hf h
      have h3 : nI i < 3 := nI_lt (b := 3) (by omega) (by omega)
      rw [eq_Mo_asTurned_2, if_pos h3, z_in (by omega) (by omega), z_if, z_if, z_ix (by omega), nI_1]
      refine ih (i + 1) _ (by omega) (fS_up hf rfl) (fun k hk => ?_)
      by_cases e : k = i
      · subst e
        rw [am_up_self]
        exact hf 33 0 k rfl
      · exact (am_up_ne (M := N) (a := 45) (b := 0) (c := i) (x := N 33 0 i) (Or.inr (Or.inr e))).trans (h k (by omega))
  exact key 3 0 M rfl fS_rfl (fun k hk => absurd hk (by omega))
theorem op_load (hI : Inv c M) (x y : Int32) : pr E c M mI_Mx_load mI_Mo_load [.inl x, .inl y] := by
  obtain ⟨n, hN, h2, hR, h4, h5, h6⟩ := id hI
  obtain ⟨hn, hN1, hN2⟩ := id hN
  rcases ob_or x (n := n) (by omega) with hx | ⟨u, hu, rfl⟩
  · refine ⟨-2, M, M, ?_, ?_, Inv_mono hI⟩
    · rw [rq_Mx_load, c_isNode_n hN1 hx, z_bI, if_pos rfl]
    · rw [rq_Mo_load, m_isNode_n hN2 hn hx, z_bI, if_pos rfl]
  · rcases ob_or y (n := n) (by omega) with hy | ⟨v, hv, rfl⟩
    · refine ⟨-2, M, M, ?_, ?_, Inv_mono hI⟩
      · rw [rq_Mx_load, c_isNode_s hN1 hn.2 hu, z_bI, if_neg z_ne10, c_isNode_n hN1 hy, z_bI, if_pos rfl]
      · rw [rq_Mo_load, m_isNode_s hN2 hn hu, z_bI, if_neg z_ne10, m_isNode_n hN2 hn hy, z_bI, if_pos rfl]
    · obtain ⟨N, k1, k2, k3⟩ := c_weigh (E := E) (B := M) (M := M) (a := 0) (mo := 0) hN hR h4 fr_rfl
      have hf1 : fr M N := fS_mono S11_scr k2
      have eN : N 1 0 0 = nI n := (k2 1 0 0 rfl).trans hN1
      have eN2 : N 25 0 0 = nI n := (k2 25 0 0 rfl).trans hN2
      obtain ⟨N2, l1, l2, l3⟩ := m_asTurned (E := E) (M := N)
      have hf2 : fr M N2 := fS_tr hf1 (fS_mono S45_scr l2)
      obtain ⟨N3, m1, m2, m3⟩ := m_needs (E := E) (B := M) (M := N2) (x1 := -1) (x2 := -1) (se := fun k => M 33 0 k) hN hR h4 hf2 (fun k hk => (l3 k hk).trans (k2 33 0 k rfl))
      have hf3 : fr M N3 := fS_tr hf2 (fS_mono S46_scr m2)
      refine ⟨nI (wtN M (fun k => decide (nI k = -1) || decide (nI k = -1)) (fun k => M 33 0 k) 3 (8 * u + v)), N, N3, ?_, ?_, Inv_fr hf3 (Inv_mono hI)⟩
      · rw [rq_Mx_load, c_isNode_s hN1 hn.2 hu, z_bI, if_neg z_ne10, c_isNode_s hN1 hn.2 hv, z_bI, if_neg z_ne10, k1, z_bV, rq_Ju_weightAt, c_isNode_s eN hn.2 hu, z_bI, if_neg z_ne10, c_isNode_s eN hn.2 hv, z_bI, if_neg z_ne10, z_mul8, z_in (by omega) (by omega), z_if, z_ix (by omega), z_bI, Nat.mul_comm u 8, k3 _ (by omega)]
        rw [wtN_congr (sk' := fun k => decide (nI k = -1) || decide (nI k = -1)) (se' := fun k => M 33 0 k) (fun k hk => ⟨by
          show bt 0 k = _
          rw [bt_0, decide_eq_false (nI_m1 (by omega))]
          rfl, by
          show (if bt 0 k = true then _ else M 4 k 6) = M 33 0 k
          rw [bt_0, if_neg (by decide)]
          obtain ⟨t, m, p, d, -, f1, -⟩ := h5 k hk
          rw [f1.1, f1.2]⟩)]
      · rw [rq_Mo_load, m_isNode_s eN2 hn hu, z_bI, if_neg z_ne10, m_isNode_s eN2 hn hv, z_bI, if_neg z_ne10, l1, z_bV, m1, z_bV, z_8mul, z_in (by omega) (by omega), z_if, z_ix (by omega), m3 _ (by omega)]
end
