/-! calls: plan, rounds, advance, order -/
section
variable {E : am_E} {M B : am_M} {c : Nat}
theorem fr_P {N : am_M} (h : fr B M) (h2 : fS SP M N) : fr B N := fS_tr h (fS_mono SP_scr h2)
theorem op_plan (hI : Inv c M) (x y : Int32) : pr E c M mI_Mx_plan mI_Mo_plan [.inl x, .inl y] := by
  obtain ⟨n, hN, ⟨⟨w, hw16, hwa, hwb⟩, hs⟩, hR, h4, h5, h6⟩ := id hI
  have hn := hN.1
  have hGc : ∀ k, k < 3 → iG n (sr M k) (gl M k) (sz M k) k M := fun k hk => by
    obtain ⟨s, g, z, h⟩ := h4 k hk
    exact iG_can hn.2 h
  have hTT : ∀ j, j < 3 → M 4 j 6 = M 33 0 j := fun j hj => by
    obtain ⟨t, m, p, d, -, f1, -⟩ := h5 j hj
    rw [f1.1, f1.2]
  rcases ob_or x (n := 3) (by omega) with hx | ⟨k, hk, rfl⟩
  · refine ⟨-2, M, M, ?_, ?_, Inv_mono hI⟩
    · rw [rq_Mx_plan, c_flowAt_n hx, z_bR, eq_Mx_plan_8v0]
    · rw [rq_Mo_plan, m_isFlow_n hx, z_bI, if_pos rfl]
  · obtain ⟨t, m, p, d, hH⟩ := h5 k hk
    obtain ⟨f0, f1, f2, f3, f4, f5⟩ := id hH
    have hA : mv (M 5 k) (M 6 k) < 256 := mv_lt _ _
    obtain ⟨N1, k1, k2, k3, k4⟩ := c_findPlan (E := E) (B := M) (M := M) (mo := 0) (y := 0) hk hN hR hGc fr_rfl hTT f1.1 f0.2.1 hwa hw16 rfl rfl rfl
    have hf1 : fr M N1 := fr_P fr_rfl k2
    obtain ⟨N2, q1, q2, q3, q4⟩ := m_plansNow (E := E) (B := M) (M := N1) hk hN hR hGc hf1 hwb hw16 rfl rfl
    have e33 : N2 33 0 k = nI t := (q2 33 0 k rfl).trans f1.2
    have d0 := k4 0 (Nat.zero_and _)
    rw [Nat.or_zero] at d0
    generalize hAA : mv (M 5 k) (M 6 k) = A at *
    generalize hSS : sB M n k w (WT M (2 ^ k) 0) = S at *
    have hI2 : Inv (c + 1) N2 := Inv_fr q2 (Inv_mono hI)
    have t1 : am_run (am_I2 E) mI_Mx_plan [.inr (.inl (some (0, 0))), .inl (nI k), .inl y] M = am_bI (some (some (.inl (aI (LL A S 8 t).isSome)), N1)) (fun v1 M1 => if v1 = 0 then (some (some (.inl (-4 : Int32)), M1)) else (if y < 0 then (some (some (.inl (-3 : Int32)), M1)) else (am_bI (am_run (am_I2 E) mI_Pl_roundCount [.inr (.inl (some (12, 0)))] M1) (fun v2 M2 => if y < v2 then (am_bI (am_run (am_I2 E) mI_Pl_roundAt [.inr (.inl (some (12, 0))), .inl y] M2) (fun v3 M3 => some (some (.inl v3), M3))) else (some (some (.inl (-3 : Int32)), M2)))))) := by
      rw [rq_Mx_plan, c_flowAt_s hk, z_bR, eq_Mx_plan_8v1, k1]
    have t2 : am_run (am_I2 E) mI_Mo_plan [.inr (.inl (some (25, 0))), .inl (nI k), .inl y] N1 = if oI (LL A S 8 t) = -1 then (some (some (.inl (-4 : Int32)), N2)) else (am_bI (am_run (am_I2 E) mI_Mo_in [.inr (.inr (Int32.toInt64 y)), .inr (.inr (Int64.ofNat 0)), .inr (.inr (Int32.toInt64 (oI (LL A S 8 t) - 1)))] N2) (fun v3 M3 => if v3 = 0 then (some (some (.inl (-3 : Int32)), M3)) else (am_ex (am_I2 E) mI_Mo_plan 59 [some (.inr (.inl (some (25, 0)))), some (.inl (nI k)), some (.inl y), some (.inl (nI t)), some (.inl 0)] [] M3))) := by
      rw [rq_Mo_plan, m_isFlow_s hk, z_bI, if_neg z_ne10, q1, z_bV, z_in hk (by omega), z_if, z_ix (by omega), e33, z_in f0.1 (by omega), z_if, z_if, z_ix (by omega), q3 t f0.2.1]
    rcases LL_or (A := A) (S := S) (j := 8) (s := t) with ⟨D, hL⟩ | hL
    · have hD := LL_le hL
      rw [hL] at t1 t2
      have hm1 : ¬ nI D = -1 := nI_m1 (by omega)
      have crc := c_roundCount (E := E) (M := N1) (A := A) (S := S) (t := t) hA f0.2.1 k3 d0.2.1
      rw [hL, oI_some] at crc
      rcases ob_or y (n := D) (by omega) with hy | ⟨j, hj, rfl⟩
      · refine ⟨-3, N1, N2, ?_, ?_, hI2⟩
        · rw [t1, z_bI, show aI (some D).isSome = 1 from rfl, if_neg z_ne10]
          by_cases hy0 : y < 0
          · rw [if_pos hy0]
          · rw [if_neg hy0, crc, z_bI, if_neg]
            rcases hy with hy | hy
            · exact absurd hy hy0
            · exact Int32.not_lt.mpr hy
        · rw [t2, oI_some, if_neg hm1, m_in_n (a := 0) (b := nI D - 1) (A := Int64.ofNat 0) rfl rfl (ob_pred (by omega) hy), z_bI, if_pos rfl]
      · have hDe : ∃ e, D = e + 1 := ⟨D - 1, by omega⟩
        obtain ⟨e, rfl⟩ := hDe
        obtain ⟨r, -, -, w1, w2⟩ := plan_way (E := E) (A := A) (S := S) (t := t) (Na := N1) (Nb := N2) (x1 := nI k) (x2 := nI k) hA f0.2.1 k4 q4 j 0 t j f0.2.1 ⟨0, Nat.zero_and _, by rw [Nat.or_zero]⟩ (by omega) (by omega) ⟨e, hL, by omega⟩
        refine ⟨nI r, N1, N2, ?_, ?_, hI2⟩
        · rw [t1, z_bI, show aI (some (e + 1)).isSome = 1 from rfl, if_neg z_ne10, if_neg (nI_pos (by omega)), crc, z_bI, if_pos (nI_lt hj (by omega)), rq_Pl_roundAt, k3]
          rw [show am_ex (am_I2 E) mI_Pl_roundAt 7 [some (.inr (.inl (some (12, 0)))), some (.inl (nI j)), some (.inl (nI t)), some (.inl 0)] [] N1 = some (some (.inl (nI r)), N1) from w1, z_bI]
        · rw [t2, oI_some, if_neg hm1, m_in_s (a := 0) (b := nI (e + 1) - 1) (A := Int64.ofNat 0) rfl rfl (nI_pos (by omega)) (by rw [nI_pred]; exact nI_le (by omega) (by omega)), z_bI, if_neg z_ne10]
          exact w2
    · rw [hL] at t1 t2
      refine ⟨-4, N1, N2, ?_, ?_, hI2⟩
      · rw [t1, z_bI, show aI (none : Option Nat).isSome = 0 from rfl, if_pos rfl]
      · rw [t2, oI_none, if_pos rfl]
theorem op_rounds (hI : Inv c M) (x : Int32) : pr E c M mI_Mx_rounds mI_Mo_rounds [.inl x] := by
  obtain ⟨n, hN, ⟨⟨w, hw16, hwa, hwb⟩, hs⟩, hR, h4, h5, h6⟩ := id hI
  have hn := hN.1
  have hGc : ∀ k, k < 3 → iG n (sr M k) (gl M k) (sz M k) k M := fun k hk => by
    obtain ⟨s, g, z, h⟩ := h4 k hk
    exact iG_can hn.2 h
  have hTT : ∀ j, j < 3 → M 4 j 6 = M 33 0 j := fun j hj => by
    obtain ⟨t, m, p, d, -, f1, -⟩ := h5 j hj
    rw [f1.1, f1.2]
  rcases ob_or x (n := 3) (by omega) with hx | ⟨k, hk, rfl⟩
  · refine ⟨-2, M, M, ?_, ?_, Inv_mono hI⟩
    · rw [rq_Mx_rounds, c_flowAt_n hx, z_bR, eq_Mx_rounds_8v0]
    · rw [rq_Mo_rounds, m_isFlow_n hx, z_bI, if_pos rfl]
  · obtain ⟨t, m, p, d, hH⟩ := h5 k hk
    obtain ⟨f0, f1, f2, f3, f4, f5⟩ := id hH
    have hA : mv (M 5 k) (M 6 k) < 256 := mv_lt _ _
    obtain ⟨N1, k1, k2, k3, k4⟩ := c_findPlan (E := E) (B := M) (M := M) (mo := 0) (y := 0) hk hN hR hGc fr_rfl hTT f1.1 f0.2.1 hwa hw16 rfl rfl rfl
    have hf1 : fr M N1 := fr_P fr_rfl k2
    obtain ⟨N2, q1, q2, q3, q4⟩ := m_plansNow (E := E) (B := M) (M := N1) hk hN hR hGc hf1 hwb hw16 rfl rfl
    have e33 : N2 33 0 k = nI t := (q2 33 0 k rfl).trans f1.2
    have d0 := k4 0 (Nat.zero_and _)
    rw [Nat.or_zero] at d0
    generalize hAA : mv (M 5 k) (M 6 k) = A at *
    generalize hSS : sB M n k w (WT M (2 ^ k) 0) = S at *
    have crc := c_roundCount (E := E) (M := N1) (A := A) (S := S) (t := t) hA f0.2.1 k3 d0.2.1
    refine ⟨oI (LL A S 8 t), N1, N2, ?_, ?_, Inv_fr q2 (Inv_mono hI)⟩
    · rw [rq_Mx_rounds, c_flowAt_s hk, z_bR, eq_Mx_rounds_8v1, k1, z_bI, crc, z_bI]
      cases LL A S 8 t with
      | none => rfl
      | some D => rfl
    · rw [rq_Mo_rounds, m_isFlow_s hk, z_bI, if_neg z_ne10, q1, z_bV, z_in hk (by omega), z_if, z_ix (by omega), e33, z_in f0.1 (by omega), z_if, z_ix (by omega), q3 t f0.2.1]
theorem op_advance (hc : c < 2 ^ 30) (hI : Inv c M) (x : Int32) : pr E c M mI_Mx_advance mI_Mo_advance [.inl x] := by
  obtain ⟨n, hN, ⟨⟨w, hw16, hwa, hwb⟩, hs⟩, hR, h4, h5, ⟨ml, hL⟩, h7⟩ := id hI
  have hn := hN.1
  have hS := iS_L hL
  have hGc : ∀ k, k < 3 → iG n (sr M k) (gl M k) (sz M k) k M := fun k hk => by
    obtain ⟨s, g, z, h⟩ := h4 k hk
    exact iG_can hn.2 h
  have hTT : ∀ j, j < 3 → M 4 j 6 = M 33 0 j := fun j hj => by
    obtain ⟨t, m, p, d, -, f1, -⟩ := h5 j hj
    rw [f1.1, f1.2]
  rcases ob_or x (n := 3) (by omega) with hx | ⟨k, hk, rfl⟩
  · refine ⟨-2, M, M, ?_, ?_, Inv_mono hI⟩
    · rw [rq_Mx_advance, c_flowAt_n hx, z_bR, eq_Mx_advance_8v0]
    · rw [rq_Mo_advance, m_isFlow_n hx, z_bI, if_pos rfl]
  · have hG := hGc k hk
    obtain ⟨t, m, p, d, hH⟩ := h5 k hk
    obtain ⟨f0, f1, f2, f3, f4, f5⟩ := id hH
    have hA : mv (M 5 k) (M 6 k) < 256 := mv_lt _ _
    by_cases hp : p = 0
    · subst hp
      have e7 : M 4 k 7 = 0 := f2.1
      have e34 : M 34 0 k = 0 := f2.2
      have c1 := c_hasStale (E := E) hk hL.1 hL.2.1.1 hS f5.1 f5.2 (by omega)
      have stale : ∀ N, fr M N → am_run (am_I2 E) mI_Mo_isStale [.inr (.inl (some (25, 0))), .inl (nI k)] N = some (some (.inl (aI (sN (M 38 0) (nI k) (M 37 0 k) ml))), N) := by
        intro N hf
        rw [m_isStale (E := E) (M := N) hk hL.1 ((hf 25 0 16 rfl).trans hL.2.1.2), show N 38 0 = M 38 0 from funext (fun i => hf 38 0 i rfl), hf 37 0 k rfl]
      cases hst : sN (M 38 0) (nI k) (M 37 0 k) ml with
      | true =>
        have m1 := stale M fr_rfl
        rw [hst] at c1 m1
        refine ⟨-4, M, M, ?_, ?_, Inv_mono hI⟩
        · rw [rq_Mx_advance, c_flowAt_s hk, z_bR, eq_Mx_advance_8v1, if_pos e7, c1, z_bI, aI_t, if_neg z_ne10]
        · rw [rq_Mo_advance, m_isFlow_s hk, z_bI, if_neg z_ne10, z_in hk (by decide), z_if, z_ix (by omega), if_pos e34, m1, z_bI, aI_t, if_neg z_ne10]
      | false =>
        rw [hst] at c1
        by_cases htA : t = mv (M 5 k) (M 6 k)
        · have m1 := stale M fr_rfl
          rw [hst] at m1
          refine ⟨-4, M, M, ?_, ?_, Inv_mono hI⟩
          · rw [rq_Mx_advance, c_flowAt_s hk, z_bR, eq_Mx_advance_8v1, if_pos e7, c1, z_bI, aI_f, if_pos rfl, c_movers, z_bI, f1.1, if_pos (by rw [← htA])]
          · rw [rq_Mo_advance, m_isFlow_s hk, z_bI, if_neg z_ne10, z_in hk (by decide), z_if, z_ix (by omega), if_pos e34, m1, z_bI, aI_f, if_pos rfl, z_if, m_movers hk, mvr fr_rfl hG, z_bI, f1.2, if_pos (by rw [← htA])]
        · have hne : ¬ nI t = nI (mv (M 5 k) (M 6 k)) := fun z => htA ((nI_eq (by have := f0.1; omega) (by omega)).mp z)
          obtain ⟨N1, k1, k2, k3, k4⟩ := c_findPlan (E := E) (B := M) (M := M) (mo := 0) (y := 0) hk hN hR hGc fr_rfl hTT f1.1 f0.2.1 hwa hw16 rfl rfl rfl
          have hf1 : fr M N1 := fr_P fr_rfl k2
          have d0 := k4 0 (Nat.zero_and _)
          rw [Nat.or_zero] at d0
          rcases LL_or (A := mv (M 5 k) (M 6 k)) (S := sB M n k w (WT M (2 ^ k) 0)) (j := 8) (s := t) with ⟨D, hLL⟩ | hLL
          · obtain ⟨e, rfl⟩ : ∃ e, D = e + 1 := by
              cases D with
              | zero => exact absurd (LL_0 hLL) htA
              | succ e => exact ⟨e, rfl⟩
            obtain ⟨r, hr1, hr2⟩ := d0.2.2 e hLL
            obtain ⟨-, -, hsf, -⟩ := id hr1
            have hrA := sub_le hsf.2.1
            have hsdA := sd_lt (a := mv (M 5 k) (M 6 k)) (b := t) hA
            have r1 : r < 256 := by omega
            have r3 : sd r (mv (M 5 k) (M 6 k)) = 0 := sd0_iff.mpr (fun i hi => by
              have := (sub_bits.mp hsf.2.1) i hi
              rw [sd_bit, Bool.and_eq_true] at this
              exact this.1)
            have r4 : r &&& t = 0 := sub_t0 hsf.2.1
            have hm : m < 8 := rdk_lt8 f0.1 hsf.1 r1 r4 f4
            have hfQ : fr (tC k m r t d M) (tC k m r t d N1) := fr_tC hf1 k m r t d
            have hG' : iG n (sr (tC k m r t d M) k) (gl (tC k m r t d M) k) (sz (tC k m r t d M) k) k (tC k m r t d M) := hG
            have hGc' : ∀ j, j < 3 → iG n (sr (tC k m r t d M) j) (gl (tC k m r t d M) j) (sz (tC k m r t d M) j) j (tC k m r t d M) := hGc
            have mvQ := mvr hfQ hG'
            have e25 : (tC k m r t d N1) 25 0 16 = nI ml := (hfQ 25 0 16 rfl).trans hL.2.1.2
            have e38 : (tC k m r t d N1) 38 0 = M 38 0 := funext (fun i => hfQ 38 0 i rfl)
            have e37 : (tC k m r t d N1) 37 0 k = M 37 0 k := hfQ 37 0 k rfl
            have m1 := m_isStale (E := E) (M := tC k m r t d N1) hk hL.1 e25
            rw [e38, e37, hst] at m1
            obtain ⟨P1, q1, q2, q3, q4⟩ := m_plansNow (E := E) (B := tC k m r t d M) (M := tC k m r t d N1) (A := mv (M 5 k) (M 6 k)) (S := sB M n k w (WT M (2 ^ k) 0)) hk hN hR hGc' hfQ hwb hw16 rfl (sB_tC n k w k m r t d (2 ^ k) 0).symm
            obtain ⟨r', hr1', hr2'⟩ := q4 t e f0.2.1 hLL
            rw [isF_uni hr1' hr1] at hr2'
            have p36 : P1 36 0 k = nI m := (q2 36 0 k rfl).trans f3.2
            have p33 : P1 33 0 k = nI t := (q2 33 0 k rfl).trans f1.2
            have p37 : P1 37 0 k = nI d := (q2 37 0 k rfl).trans f5.2
            have e34' : (tC k m r t d N1) 34 0 k = 0 := (hfQ 34 0 k rfl).trans e34
            have e33' : (tC k m r t d N1) 33 0 k = nI t := (hfQ 33 0 k rfl).trans f1.2
            have mvQ2 : mv ((tC k m r t d M) 5 k) ((tC k m r t d M) 6 k) = mv (M 5 k) (M 6 k) := rfl
            have h48 := q3 t f0.2.1
            rw [hLL, oI_some] at h48
            have w1 : am_run (am_I2 E) mI_Pl_roundAt [.inr (.inl (some (12, 0))), .inl 0] N1 = some (some (.inl (nI r)), N1) := by
              rw [rq_Pl_roundAt, k3, eq_Pl_roundAt_7, if_neg (by decide), c_firstFrom f0.1, z_bI, hr2]
            refine ⟨nI r, tC k m r t d N1, tM k m r t d P1, ?_, ?_, Inv_fr (fr_tM q2 k m r t d) (Inv_tC hc hI hH hsf.1 r1 r3 r4)⟩
            · rw [rq_Mx_advance, c_flowAt_s hk, z_bR, eq_Mx_advance_8v1, if_pos e7, c1, z_bI, aI_f, if_pos rfl, c_movers, z_bI, f1.1, if_neg hne, k1, z_bI, hLL, show aI (some (e + 1)).isSome = 1 from rfl, if_neg z_ne10, w1, z_bI, c_turnRound ((hf1 4 k 9 rfl).trans f3.1) hm ((hf1 4 k 6 rfl).trans f1.1) ((hf1 4 k 10 rfl).trans f5.1), z_bV]
            · rw [rq_Mo_advance, m_isFlow_s hk, z_bI, if_neg z_ne10, z_in hk (by decide), z_if, z_ix (by omega), if_pos e34', m1, z_bI, aI_f, if_pos rfl, z_if, m_movers hk, mvQ, mvQ2, z_bI, e33', if_neg hne, q1, z_bV, z_if, p33, z_in f0.1 (by omega), z_if, z_if, z_if, z_ix (by have := f0.1; omega), h48, if_neg (nI_m1 (by have := LL_le hLL; omega)), hr2', m_turns hk p36 hm p33 p37, z_bV]
          · have m1 := stale N1 hf1
            rw [hst] at m1
            obtain ⟨P1, q1, q2, q3, q4⟩ := m_plansNow (E := E) (B := M) (M := N1) hk hN hR hGc hf1 hwb hw16 rfl rfl
            have p33 : P1 33 0 k = nI t := (q2 33 0 k rfl).trans f1.2
            have h48 := q3 t f0.2.1
            rw [hLL, oI_none] at h48
            refine ⟨-1, N1, P1, ?_, ?_, Inv_fr q2 (Inv_mono hI)⟩
            · rw [rq_Mx_advance, c_flowAt_s hk, z_bR, eq_Mx_advance_8v1, if_pos e7, c1, z_bI, aI_f, if_pos rfl, c_movers, z_bI, f1.1, if_neg hne, k1, z_bI, hLL, show aI (none : Option Nat).isSome = 0 from rfl, if_pos rfl]
            · rw [rq_Mo_advance, m_isFlow_s hk, z_bI, if_neg z_ne10, z_in hk (by decide), z_if, z_ix (by omega), if_pos ((hf1 34 0 k rfl).trans e34), m1, z_bI, aI_f, if_pos rfl, z_if, m_movers hk, mvr hf1 hG, z_bI, (hf1 33 0 k rfl).trans f1.2, if_neg hne, q1, z_bV, z_if, p33, z_in f0.1 (by omega), z_if, z_ix (by have := f0.1; omega), h48, if_pos rfl]
    · refine ⟨-4, M, M, ?_, ?_, Inv_mono hI⟩
      · rw [rq_Mx_advance, c_flowAt_s hk, z_bR, eq_Mx_advance_8v1, f2.1, if_neg (p_ne0 f0.2.2.2.1 hp)]
      · rw [rq_Mo_advance, m_isFlow_s hk, z_bI, if_neg z_ne10, z_in hk (by decide), z_if, z_ix (by omega), f2.2, if_neg (p_ne0 f0.2.2.2.1 hp)]
end
