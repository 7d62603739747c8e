/-! call: walk -/
def bcF (x0 : Int32) : Int32 := ((((((((x0 - (((Int32.toUInt32 x0 >>> (Int32.toUInt32 1 &&& Int32.toUInt32 31)).toInt32) &&& 1431655765)) &&& 858993459) + (((Int32.toUInt32 (x0 - (((Int32.toUInt32 x0 >>> (Int32.toUInt32 1 &&& Int32.toUInt32 31)).toInt32) &&& 1431655765)) >>> (Int32.toUInt32 2 &&& Int32.toUInt32 31)).toInt32) &&& 858993459)) + ((Int32.toUInt32 (((x0 - (((Int32.toUInt32 x0 >>> (Int32.toUInt32 1 &&& Int32.toUInt32 31)).toInt32) &&& 1431655765)) &&& 858993459) + (((Int32.toUInt32 (x0 - (((Int32.toUInt32 x0 >>> (Int32.toUInt32 1 &&& Int32.toUInt32 31)).toInt32) &&& 1431655765)) >>> (Int32.toUInt32 2 &&& Int32.toUInt32 31)).toInt32) &&& 858993459)) >>> (Int32.toUInt32 4 &&& Int32.toUInt32 31)).toInt32)) &&& 252645135) + ((Int32.toUInt32 (((((x0 - (((Int32.toUInt32 x0 >>> (Int32.toUInt32 1 &&& Int32.toUInt32 31)).toInt32) &&& 1431655765)) &&& 858993459) + (((Int32.toUInt32 (x0 - (((Int32.toUInt32 x0 >>> (Int32.toUInt32 1 &&& Int32.toUInt32 31)).toInt32) &&& 1431655765)) >>> (Int32.toUInt32 2 &&& Int32.toUInt32 31)).toInt32) &&& 858993459)) + ((Int32.toUInt32 (((x0 - (((Int32.toUInt32 x0 >>> (Int32.toUInt32 1 &&& Int32.toUInt32 31)).toInt32) &&& 1431655765)) &&& 858993459) + (((Int32.toUInt32 (x0 - (((Int32.toUInt32 x0 >>> (Int32.toUInt32 1 &&& Int32.toUInt32 31)).toInt32) &&& 1431655765)) >>> (Int32.toUInt32 2 &&& Int32.toUInt32 31)).toInt32) &&& 858993459)) >>> (Int32.toUInt32 4 &&& Int32.toUInt32 31)).toInt32)) &&& 252645135) >>> (Int32.toUInt32 8 &&& Int32.toUInt32 31)).toInt32)) + ((Int32.toUInt32 ((((((x0 - (((Int32.toUInt32 x0 >>> (Int32.toUInt32 1 &&& Int32.toUInt32 31)).toInt32) &&& 1431655765)) &&& 858993459) + (((Int32.toUInt32 (x0 - (((Int32.toUInt32 x0 >>> (Int32.toUInt32 1 &&& Int32.toUInt32 31)).toInt32) &&& 1431655765)) >>> (Int32.toUInt32 2 &&& Int32.toUInt32 31)).toInt32) &&& 858993459)) + ((Int32.toUInt32 (((x0 - (((Int32.toUInt32 x0 >>> (Int32.toUInt32 1 &&& Int32.toUInt32 31)).toInt32) &&& 1431655765)) &&& 858993459) + (((Int32.toUInt32 (x0 - (((Int32.toUInt32 x0 >>> (Int32.toUInt32 1 &&& Int32.toUInt32 31)).toInt32) &&& 1431655765)) >>> (Int32.toUInt32 2 &&& Int32.toUInt32 31)).toInt32) &&& 858993459)) >>> (Int32.toUInt32 4 &&& Int32.toUInt32 31)).toInt32)) &&& 252645135) + ((Int32.toUInt32 (((((x0 - (((Int32.toUInt32 x0 >>> (Int32.toUInt32 1 &&& Int32.toUInt32 31)).toInt32) &&& 1431655765)) &&& 858993459) + (((Int32.toUInt32 (x0 - (((Int32.toUInt32 x0 >>> (Int32.toUInt32 1 &&& Int32.toUInt32 31)).toInt32) &&& 1431655765)) >>> (Int32.toUInt32 2 &&& Int32.toUInt32 31)).toInt32) &&& 858993459)) + ((Int32.toUInt32 (((x0 - (((Int32.toUInt32 x0 >>> (Int32.toUInt32 1 &&& Int32.toUInt32 31)).toInt32) &&& 1431655765)) &&& 858993459) + (((Int32.toUInt32 (x0 - (((Int32.toUInt32 x0 >>> (Int32.toUInt32 1 &&& Int32.toUInt32 31)).toInt32) &&& 1431655765)) >>> (Int32.toUInt32 2 &&& Int32.toUInt32 31)).toInt32) &&& 858993459)) >>> (Int32.toUInt32 4 &&& Int32.toUInt32 31)).toInt32)) &&& 252645135) >>> (Int32.toUInt32 8 &&& Int32.toUInt32 31)).toInt32)) >>> (Int32.toUInt32 16 &&& Int32.toUInt32 31)).toInt32)) &&& 63)
theorem bcF_eq : ∀ e, e < 256 → bcF (nI e) = nI (pcN e 8) := by decide +kernel
theorem mt_lt {l : List Nat} (h : ∀ x, x ∈ l → x < 8) : mt l < 256 := lt256 (fun i hi => h i (mt_bit.mp hi))
theorem st_lt {n g k u v : Nat} {B : am_M} {x : Int32} (hn : n ≤ 8) (h : rok n g u (B 5 k u) ∧ rok n g u (B 6 k u)) (hs : st (B 5 k) (B 6 k) (B 2 0) x u = some v) : v < n := by
  unfold st at hs
  rcases rok_N (rok_rl (s := x) h) hn with ⟨h1, h2⟩ | ⟨v', hv', -, -, -, h1, h2⟩
  · rw [h2] at hs; cases hs
  · rw [h2] at hs
    have hv2 : (if B 2 0 (8 * u + v') = 0 then none else some v') = some v := hs
    split at hv2
    · cases hv2
    · cases hv2; exact hv'
theorem wk_lt2 {f : Nat → Option Nat} {n : Nat} (hf : ∀ u v, u < n → f u = some v → v < n) : ∀ {j e u : Nat}, u < n → ∀ x, x ∈ wk f j e u → x < n := by
  intro j
  induction j with
  | zero => intro e u hu x hx; rw [show x = u by simpa [wk] using hx]; exact hu
  | succ j ih =>
    intro e u hu x hx
    cases h : f u with
    | none => rw [wk_none h] at hx; rw [show x = u by simpa using hx]; exact hu
    | some v =>
      cases hv : e.testBit v with
      | true => rw [wk_met h hv] at hx; rw [show x = u by simpa using hx]; exact hu
      | false =>
        rw [wk_go h hv] at hx
        rcases List.mem_cons.mp hx with hx | hx
        · rw [hx]; exact hu
        · exact ih (hf u v hu h) x hx
theorem wkC_lt {n s g z k : Nat} {B : am_M} {x : Int32} (hn : n ≤ 8) (hG : iG n s g z k B) : ∀ y, y ∈ wkC B k x s → y < n := by
  obtain ⟨g0, g1, g2, g3, g4, g5⟩ := hG
  exact wk_lt2 (fun u v hu h => st_lt hn (g5 u (by omega)).2 h) g0.1
theorem wkC_mt {n s g z k : Nat} {B : am_M} {x : Int32} (hn : n ≤ 8) (hG : iG n s g z k B) : 2 ^ s ||| mt (wkC B k x s) < 256 := by
  have h1 := wkC_lt (x := x) hn hG
  have hs := hG.1.1
  exact or_lt (Nat.lt_of_lt_of_le (Nat.pow_lt_pow_right (by omega) (show s < 8 by omega)) (by decide)) (mt_lt (fun y hy => by have := h1 y hy; omega))
theorem la_get : ∀ {l : List Nat}, l ≠ [] → l.getD (l.length - 1) 0 = la l := by
  intro l
  induction l with
  | nil => intro h; exact absurd rfl h
  | cons a l ih =>
    intro _
    cases l with
    | nil => rfl
    | cons b l =>
      have := ih (by simp)
      rw [show la (a :: b :: l) = la (b :: l) from rfl, ← this]
      rfl
section
variable {E : am_E} {M B : am_M} {c : Nat}
theorem c_bitCount {e : Nat} (he : e < 256) : am_run (am_I2 E) mI_Jint_bitCount [.inl (nI e)] M = some (some (.inl (nI (pcN e 8))), M) := by
  rw [← bcF_eq e he]
  exact rq_Jint_bitCount E M (nI e)
theorem m_isOfMovers_s {k r : Nat} (hk : k < 3) (h : sd r (mv (fun u => M 31 0 (8 * k + u)) (fun u => M 32 0 (8 * k + u))) = 0) : am_run (am_I2 E) mI_Mo_isOfMovers [.inr (.inl (some (25, 0))), .inl (nI k), .inl (nI r)] M = some (some (.inl 1), M) := by
  rw [rq_Mo_isOfMovers, m_movers hk, z_bI, nI_sd, h, if_pos (by decide)]
theorem m_isOfMovers_n {k : Nat} {x : Int32} (hk : k < 3) (h : ¬ ∃ r, r < 256 ∧ x = nI r ∧ sd r (mv (fun u => M 31 0 (8 * k + u)) (fun u => M 32 0 (8 * k + u))) = 0) : am_run (am_I2 E) mI_Mo_isOfMovers [.inr (.inl (some (25, 0))), .inl (nI k), .inl x] M = some (some (.inl 0), M) := by
  rw [rq_Mo_isOfMovers, m_movers hk, z_bI, if_neg (fun w => h (sub_of (mv_lt _ _) w))]
theorem S9_scr : ∀ a s, S9 a s = true → scr a s = true := by
  intro a s h
  unfold S9 at h
  split at h
  · rfl
  · rfl
  · cases h
theorem S44_scr : ∀ a s, S44 a s = true → scr a s = true := by
  intro a s h
  unfold S44 at h
  split at h
  · rfl
  · split at h
    · rfl
    · rfl
    · rfl
    · cases h
  · cases h
theorem fr_fS {M N : am_M} : fr M N ↔ fS scr M N := Iff.rfl
theorem fr_9 {N : am_M} (h : fr B M) (h2 : fS S9 M N) : fr B N := fS_tr h (fS_mono S9_scr h2)
theorem fr_44 {N : am_M} (h : fr B M) (h2 : fS S44 M N) : fr B N := fS_tr h (fS_mono S44_scr h2)
theorem op_walk (hI : Inv c M) (x y z : Int32) : pr E c M mI_Mx_walk mI_Mo_walk [.inl x, .inl y, .inl z] := by
  obtain ⟨n, hN, h2, hR, h4, h5, h6⟩ := id hI
  have hn := hN.1
  rcases ob_or x (n := 3) (by omega) with hx | ⟨k, hk, rfl⟩
  · refine ⟨-2, M, M, ?_, ?_, Inv_mono hI⟩
    · rw [rq_Mx_walk, c_flowAt_n hx, z_bR, eq_Mx_walk_8v0]
    · rw [rq_Mo_walk, m_isFlow_n hx, z_bI, if_pos rfl]
  · obtain ⟨s, g, w, hG⟩ := h4 k hk
    obtain ⟨g0, g1, g2, g3, g4, g5⟩ := id hG
    have hmv : mv (fun u => M 31 0 (8 * k + u)) (fun u => M 32 0 (8 * k + u)) = mv (M 5 k) (M 6 k) := (mv_congr (fun u hu => (g5 u hu).1)).symm
    by_cases hr : ∃ r, r < 256 ∧ y = nI r ∧ sd r (mv (M 5 k) (M 6 k)) = 0
    · obtain ⟨r, hr1, rfl, hr2⟩ := hr
      obtain ⟨N, k1, k2, k3, k4, k5, k6⟩ := c_follow (E := E) (M := M) (x := nI r) hN hR hG fr_rfl
      have hfN : fr M N := fr_9 fr_rfl k2
      have hmvN : sd r (mv (fun u => N 31 0 (8 * k + u)) (fun u => N 32 0 (8 * k + u))) = 0 := by
        rw [show (fun u => N 31 0 (8 * k + u)) = (fun u => M 31 0 (8 * k + u)) from funext (fun u => k2 31 0 _ rfl), show (fun u => N 32 0 (8 * k + u)) = (fun u => M 32 0 (8 * k + u)) from funext (fun u => k2 32 0 _ rfl), hmv]
        exact hr2
      obtain ⟨N2, l1, l2, l3, l4, l5, l6, l7⟩ := m_walks (E := E) (B := M) (M := N) (x := nI r) hk hN hR hG hfN
      have hI2 : Inv (c + 1) N2 := Inv_fr (fr_44 hfN l2) (Inv_mono hI)
      have hmt := wkC_mt (x := nI r) hn.2 hG
      obtain ⟨l, hl⟩ := wk_head (st (M 5 k) (M 6 k) (M 2 0) (nI r)) 8 (2 ^ s) s
      have hlen : 1 ≤ (wkC M k (nI r) s).length := by
        rw [show wkC M k (nI r) s = s :: l from hl]; simp
      have hle8 := pcN_le1 (2 ^ s ||| mt (wkC M k (nI r) s)) 8
      have hne : wkC M k (nI r) s ≠ [] := by rw [show wkC M k (nI r) s = s :: l from hl]; simp
      by_cases hz : ob z 3
      · refine ⟨-3, N, N, ?_, ?_, Inv_fr hfN (Inv_mono hI)⟩
        · rw [rq_Mx_walk, c_flowAt_s hk, z_bR, eq_Mx_walk_8v1, c_areMovers_s hr2, z_bI, if_neg z_ne10, k1, z_bV]
          have q : ∀ j : Nat, j < 3 → ¬ z = nI j := by
            intro j hj w
            rcases hz with hz | hz
            · rw [w] at hz; exact nI_pos (by omega) hz
            · rw [w] at hz; exact nI_ge hj (by omega) hz
          rw [if_neg (show ¬ z = 0 from q 0 (by omega)), if_neg (show ¬ z = 1 from q 1 (by omega)), if_neg (show ¬ z = 2 from q 2 (by omega))]
        · rw [rq_Mo_walk, m_isFlow_s hk, z_bI, if_neg z_ne10, m_isOfMovers_s hk hmvN, z_bI, if_neg z_ne10, m_in_n (a := 0) (b := 2) (A := Int64.ofNat 0) (B := 2) rfl rfl (ob_gt hz (by decide)), z_bI, if_pos rfl]
      · rcases ob_or z (n := 3) (by omega) with w | ⟨j, hj, rfl⟩
        · exact absurd w hz
        · have hj2 : nI j ≤ 2 := nI_le (b := 2) (by omega) (by omega)
          have c1 : am_run (am_I2 E) mI_Mx_walk [.inr (.inl (some (0, 0))), .inl (nI k), .inl (nI r), .inl (nI j)] M = if nI j = 0 then (some (some (.inl (N 9 0 0)), N)) else (if nI j = 1 then (am_bI (am_run (am_I2 E) mI_Jint_bitCount [.inl (N 9 0 0)] N) (fun v3 M3 => some (some (.inl v3), M3))) else (if nI j = 2 then (some (some (.inl (N 9 0 1)), N)) else (some (some (.inl (-3 : Int32)), N)))) := by
            rw [rq_Mx_walk, c_flowAt_s hk, z_bR, eq_Mx_walk_8v1, c_areMovers_s hr2, z_bI, if_neg z_ne10, k1, z_bV]
          have c2 : am_run (am_I2 E) mI_Mo_walk [.inr (.inl (some (25, 0))), .inl (nI k), .inl (nI r), .inl (nI j)] N = if nI j = 0 then (some (some (.inl (N2 25 0 34)), N2)) else (if nI j = 1 then (some (some (.inl (N2 25 0 33)), N2)) else (am_if (am_in ((N2 25 0 33) - 1) 8) (some (some (.inl (N2 44 0 (am_ix ((N2 25 0 33) - 1)))), N2)))) := by
            rw [rq_Mo_walk, m_isFlow_s hk, z_bI, if_neg z_ne10, m_isOfMovers_s hk hmvN, z_bI, if_neg z_ne10, m_in_s (a := 0) (b := 2) (A := Int64.ofNat 0) (B := 2) rfl rfl (nI_pos (by omega)) hj2, z_bI, if_neg z_ne10, l1, z_bV]
          have hjj : j = 0 ∨ j = 1 ∨ j = 2 := by omega
          rcases hjj with rfl | rfl | rfl
          · refine ⟨nI (2 ^ s ||| mt (wkC M k (nI r) s)), N, N2, ?_, ?_, hI2⟩
            · rw [c1, if_pos (by decide), k3]
            · rw [c2, if_pos (by decide), l5]
          · refine ⟨nI (wkC M k (nI r) s).length, N, N2, ?_, ?_, hI2⟩
            · rw [c1, if_neg (by decide), if_pos (by decide), k3, c_bitCount hmt, z_bI, l7]
            · rw [c2, if_neg (by decide), if_pos (by decide), l3]
          · refine ⟨nI (la (wkC M k (nI r) s)), N, N2, ?_, ?_, hI2⟩
            · rw [c1, if_neg (by decide), if_neg (by decide), if_pos (by decide), k4]
            · have e1 : N2 25 0 33 - 1 = nI ((wkC M k (nI r) s).length - 1) := by
                rw [l3]
                have := nI_pred ((wkC M k (nI r) s).length - 1)
                rw [show (wkC M k (nI r) s).length - 1 + 1 = (wkC M k (nI r) s).length by omega] at this
                exact this
              rw [c2, if_neg (by decide), if_neg (by decide), e1, z_in (by omega) (by omega), z_if, z_ix (by omega), l4 _ (by omega), la_get hne]
    · refine ⟨-3, M, M, ?_, ?_, Inv_mono hI⟩
      · rw [rq_Mx_walk, c_flowAt_s hk, z_bR, eq_Mx_walk_8v1, c_areMovers_n hr, z_bI, if_pos rfl]
      · rw [rq_Mo_walk, m_isFlow_s hk, z_bI, if_neg z_ne10, m_isOfMovers_n hk (by rw [hmv]; exact hr), z_bI, if_pos rfl]
end
