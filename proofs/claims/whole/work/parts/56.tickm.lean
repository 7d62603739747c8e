/-! letters of the reference; call: tick -/
section
variable {E : am_E} {M B N : am_M} {c : Nat}
/-- cells that a hop of row i changes -/
def tw (i a s : Nat) : Bool := match a with
  | 38 => Nat.beq (s / 8) i
  | 25 => match s with
    | 17 => true
    | 18 => true
    | 19 => true
    | 20 => true
    | _ => false
  | _ => false
theorem tw_up {i : Nat} {P Q : am_M} (h : ∀ a b s, tw i a s = false → Q a b s = P a b s) {a b d : Nat} {x : Int32} (ht : tw i a d = true) : ∀ a' b' s, tw i a' s = false → am_up Q a b d x a' b' s = P a' b' s := by
  intro a' b' s e
  rw [am_up_ne]
  · exact h a' b' s e
  · by_cases h1 : a' = a
    · by_cases h2 : s = d
      · subst h1; subst h2
        rw [ht] at e
        cases e
      · exact Or.inr (Or.inr h2)
    · exact Or.inl h1
theorem tw38 {i x : Nat} (hx : x < 8) : tw i 38 (8 * i + x) = true := by
  show Nat.beq ((8 * i + x) / 8) i = true
  rw [show (8 * i + x) / 8 = i by omega]
  exact Nat.beq_refl i
theorem m_hops {n i : Nat} {Y : Nat → Nat} (hi : i < 12) (hN : iN n B) (hR : iR B) (hG : ∀ k, k < 3 → iG n (sr B k) (gl B k) (sz B k) k B) (hH : ∀ k, k < 3 → ∃ t m p d, iH c t m p d k B) (hf : frl B N) (hv : vY n B Y) (hm : mY i Y N) : ∃ N', am_run (am_I2 E) mI_Mo_hops [.inr (.inl (some (25, 0))), .inl (nI (8 * i))] N = some (some (.inl (aI (decide (stt B Y = 0)))), N') ∧ (stt B Y = 0 → mY i (aY B Y) N') ∧ (∀ a b s, tw i a s = false → N' a b s = N a b s) ∧ N' 25 0 17 = N 25 0 17 + nI (if stt B Y = 1 then 1 else 0) ∧ N' 25 0 18 = N 25 0 18 + nI (if stt B Y = 1 then d2 B Y else 0) ∧ N' 25 0 19 = N 25 0 19 + nI (if stt B Y = 1 then d3 B Y else 0) ∧ N' 25 0 20 = N 25 0 20 + nI (if stt B Y = 2 then 1 else 0) := by
  obtain ⟨⟨v0, v1, v2, v3, v5, v6, v7, v8⟩, v4, vp⟩ := id hv
  have hn := hN.1
  have hGk := hG (Y 0) v0
  obtain ⟨t, m, p, d, f0, f1, -⟩ := hH (Y 0) v0
  have a00 : ∀ x : Int32, x + nI 0 = x := fun x => Int32.add_zero x
  have a0' : ∀ x : Int32, x + 0 = x := fun x => Int32.add_zero x
  have x1 : nI (8 * i) + 1 = nI (8 * i + 1) := nI_add (8 * i) 1
  have x2 : nI (8 * i) + 2 = nI (8 * i + 2) := nI_add (8 * i) 2
  have x3 : nI (8 * i) + 3 = nI (8 * i + 3) := nI_add (8 * i) 3
  have x5 : nI (8 * i) + 5 = nI (8 * i + 5) := nI_add (8 * i) 5
  have x6 : nI (8 * i) + 6 = nI (8 * i + 6) := nI_add (8 * i) 6
  have x7 : nI (8 * i) + 7 = nI (8 * i + 7) := nI_add (8 * i) 7
  have hin : ∀ x, x < 8 → am_in (nI (8 * i + x)) 96 = true := fun x hx => z_in (by omega) (by omega)
  have hix : ∀ x, x < 8 → am_ix (nI (8 * i + x)) = 8 * i + x := fun x hx => z_ix (by omega)
  have hin0 : am_in (nI (8 * i)) 96 = true := z_in (by omega) (by omega)
  have hix0 : am_ix (nI (8 * i)) = 8 * i := z_ix (by omega)
  have m0 : N 38 0 (8 * i) = nI (Y 0) := hm 0 (by omega)
  have m1 := hm 1 (by omega)
  have m2 := hm 2 (by omega)
  have m3 := hm 3 (by omega)
  have m7 := hm 7 (by omega)
  have inf : am_in (nI (Y 0)) 3 = true := z_in v0 (by omega)
  have ixf : am_ix (nI (Y 0)) = Y 0 := z_ix (by omega)
  have e33 : N 33 0 (Y 0) = nI t := (hf 33 0 _ rfl).trans f1.2
  have hbn : bn B Y = (decide (Y 3 = 1) || t.testBit (Y 1)) := by
    unfold bn
    rw [f1.2, nI_clamp (by omega)]
  have to46 : am_run (am_I2 E) mI_Mo_hops [.inr (.inl (some (25, 0))), .inl (nI (8 * i))] N = am_ex (am_I2 E) mI_Mo_hops 46 [some (.inr (.inl (some (25, 0)))), some (.inl (nI (8 * i))), some (.inl (nI (Y 0))), some (.inl (nI (Y 1))), none, none] [.inl (aI (bn B Y))] N := by
    rw [rq_Mo_hops, x1, x3, hin0, hin 1 (by omega), hin 3 (by omega), z_if, z_if, z_if, hix 3 (by omega), hix 1 (by omega), hix0, m3, m0, m1, inf, z_if, ixf, e33, m_has (by omega), z_bI, bt_nI _ _ (by omega), hbn]
    rcases b01 v3 with e | e
    · rw [e, if_neg (by decide)]
      cases hb : t.testBit (Y 1) with
      | true => rw [show (if true = true then (1 : Int32) else 0) = 1 from rfl, if_neg z_ne10]; rfl
      | false => rw [show (if false = true then (1 : Int32) else 0) = 0 from rfl, if_pos rfl]; rfl
    · rw [e, if_pos (by decide)]
      rfl
  have e31 : N 31 0 (8 * Y 0 + Y 1) = B 5 (Y 0) (Y 1) := (hf 31 0 _ rfl).trans (hGk.2.2.2.2.2 (Y 1) (by omega)).1.1.symm
  have e32 : N 32 0 (8 * Y 0 + Y 1) = B 6 (Y 0) (Y 1) := (hf 32 0 _ rfl).trans (hGk.2.2.2.2.2 (Y 1) (by omega)).1.2.symm
  have to78 : am_ex (am_I2 E) mI_Mo_hops 46 [some (.inr (.inl (some (25, 0)))), some (.inl (nI (8 * i))), some (.inl (nI (Y 0))), some (.inl (nI (Y 1))), none, none] [.inl (aI (bn B Y))] N = am_ex (am_I2 E) mI_Mo_hops 78 [some (.inr (.inl (some (25, 0)))), some (.inl (nI (8 * i))), some (.inl (nI (Y 0))), some (.inl (nI (Y 1))), some (.inl (aI (bn B Y))), none] [.inl (ru B Y)] N := by
    rw [eq_Mo_hops_46, z_8mul, z_in (by omega) (by omega), z_if, z_if, z_ix (by omega), e31, e32]
    unfold ru
    cases hb : bn B Y with
    | true => rw [aI_t, if_neg z_ne10, if_pos rfl]
    | false => rw [aI_f, if_pos rfl, if_neg (by decide)]
  have lostN : ∀ P : am_M, stt B Y = 2 → (∃ N', (some (some (.inl 0), am_up N 25 0 20 (N 25 0 20 + 1)) : Option (Option am_V × am_M)) = some (some (.inl (aI (decide (stt B Y = 0)))), N') ∧ (stt B Y = 0 → mY i (aY B Y) N') ∧ (∀ a b s, tw i a s = false → N' a b s = N a b s) ∧ N' 25 0 17 = N 25 0 17 + nI (if stt B Y = 1 then 1 else 0) ∧ N' 25 0 18 = N 25 0 18 + nI (if stt B Y = 1 then d2 B Y else 0) ∧ N' 25 0 19 = N 25 0 19 + nI (if stt B Y = 1 then d3 B Y else 0) ∧ N' 25 0 20 = N 25 0 20 + nI (if stt B Y = 2 then 1 else 0)) := by
    intro _ hst
    rw [hst]
    exact ⟨_, rfl, (fun w => by cases w), tw_up (fun _ _ _ _ => rfl) rfl, (a00 _).symm, (a00 _).symm, (a00 _).symm, rfl⟩
  rw [to46, to78, eq_Mo_hops_78]
  rcases tg_or (Y := Y) hn.2 hR v1 hGk with ⟨h1, h2⟩ | ⟨v, r, hvn, hr, h1, -, r2, ⟨h0, h2⟩ | ⟨h0, h2⟩⟩
  · have hst : stt B Y = 2 := by unfold stt; rw [h2]
    rw [h1, if_pos rfl]
    exact lostN N hst
  · have hst : stt B Y = 2 := by unfold stt; rw [h2]
    rw [h1, if_neg (nI_m1 (by omega)), z_8mul, z_in (by omega) (by omega), z_if, z_ix (by omega), (hf 26 0 _ rfl).trans r2, h0, if_pos (by decide)]
    exact lostN N hst
  · have hst : stt B Y = if v = gl B (Y 0) then 1 else if Y 2 + 1 < 20 then 0 else 2 := by unfold stt; rw [h2]
    have haY : aY B Y = nY B Y v := by funext x; unfold aY; rw [h2]
    have hmv : mv (fun u => N 31 0 (8 * (Y 0) + u)) (fun u => N 32 0 (8 * (Y 0) + u)) = mv (B 5 (Y 0)) (B 6 (Y 0)) := by
      rw [show (fun u => N 31 0 (8 * Y 0 + u)) = (fun u => B 31 0 (8 * Y 0 + u)) from funext (fun u => hf 31 0 _ rfl), show (fun u => N 32 0 (8 * Y 0 + u)) = (fun u => B 32 0 (8 * Y 0 + u)) from funext (fun u => hf 32 0 _ rfl)]
      exact (mv_congr (fun u hu => (hGk.2.2.2.2.2 u hu).1)).symm
    have hmb : (mv (B 5 (Y 0)) (B 6 (Y 0))).testBit (Y 1) = mb B Y := by
      rw [mv_bit, decide_eq_true (show Y 1 < 8 by omega), Bool.true_and]
      unfold mb
      by_cases e : B 5 (Y 0) (Y 1) = B 6 (Y 0) (Y 1)
      · rw [decide_eq_true e, decide_eq_false (fun w => w e)]; rfl
      · rw [decide_eq_false e, decide_eq_true e]; rfl
    rw [h1, if_neg (nI_m1 (by omega)), z_8mul, z_in (by omega) (by omega), z_if, z_ix (by omega), (hf 26 0 _ rfl).trans r2, if_neg (nI_ne0 (by omega) (by omega)), m_movers v0, z_bI, hmv, m_has (by omega), z_bI, bt_nI _ _ (by omega), hmb, x5, x6, hin 5 (by omega), hin 6 (by omega), z_if, z_if, hix 5 (by omega), hix 6 (by omega)]
    have q5 : nY B Y v 5 = if (mb B Y && !bn B Y) = true then 1 else Y 5 := rfl
    have q6 : nY B Y v 6 = if (mb B Y && bn B Y) = true then 1 else Y 6 := rfl
    -- to 146 with the marks
    have to146 : ∃ N1, (if (if mb B Y = true then (1 : Int32) else 0) = 0 then am_ex (am_I2 E) mI_Mo_hops 146 [some (.inr (.inl (some (25, 0)))), some (.inl (nI (8 * i))), some (.inl (nI (Y 0))), some (.inl (nI (Y 1))), some (.inl (aI (bn B Y))), some (.inl (nI v))] [] N else (if aI (bn B Y) = 0 then am_ex (am_I2 E) mI_Mo_hops 146 [some (.inr (.inl (some (25, 0)))), some (.inl (nI (8 * i))), some (.inl (nI (Y 0))), some (.inl (nI (Y 1))), some (.inl (aI (bn B Y))), some (.inl (nI v))] [] (am_up N 38 0 (8 * i + 5) 1) else am_ex (am_I2 E) mI_Mo_hops 146 [some (.inr (.inl (some (25, 0)))), some (.inl (nI (8 * i))), some (.inl (nI (Y 0))), some (.inl (nI (Y 1))), some (.inl (aI (bn B Y))), some (.inl (nI v))] [] (am_up N 38 0 (8 * i + 6) 1))) = am_ex (am_I2 E) mI_Mo_hops 146 [some (.inr (.inl (some (25, 0)))), some (.inl (nI (8 * i))), some (.inl (nI (Y 0))), some (.inl (nI (Y 1))), some (.inl (aI (bn B Y))), some (.inl (nI v))] [] N1 ∧ (∀ x, x < 8 → N1 38 0 (8 * i + x) = nI (if x = 5 then nY B Y v 5 else if x = 6 then nY B Y v 6 else Y x)) ∧ (∀ a b s, tw i a s = false → N1 a b s = N a b s) ∧ ∀ s, N1 25 0 s = N 25 0 s := by
      cases hmbv : mb B Y with
      | false =>
        rw [hmbv, Bool.false_and, if_neg (by decide)] at q5
        rw [hmbv, Bool.false_and, if_neg (by decide)] at q6
        refine ⟨N, by rw [if_pos (show (if false = true then (1 : Int32) else 0) = 0 by decide)], fun x hx => ?_, fun _ _ _ _ => rfl, fun _ => rfl⟩
        rw [hm x hx, q5, q6]
        split
        · rename_i e; rw [e]
        · split
          · rename_i e; rw [e]
          · rfl
      | true =>
        rw [if_neg (show ¬ (if true = true then (1 : Int32) else 0) = 0 by decide)]
        cases hbv : bn B Y with
        | false =>
          rw [hmbv, hbv] at q5 q6
          refine ⟨am_up N 38 0 (8 * i + 5) 1, by rw [aI_f, if_pos rfl], fun x hx => ?_, tw_up (fun _ _ _ _ => rfl) (tw38 (by omega)), fun _ => rfl⟩
          rw [q5, q6]
          by_cases e : x = 5
          · rw [if_pos e, e, am_up_self]; rfl
          · rw [if_neg e, am_up_ne (Or.inr (Or.inr (by omega))), hm x hx]
            split
            · rename_i e2; rw [e2]; rfl
            · rfl
        | true =>
          rw [hmbv, hbv] at q5 q6
          refine ⟨am_up N 38 0 (8 * i + 6) 1, by rw [aI_t, if_neg z_ne10], fun x hx => ?_, tw_up (fun _ _ _ _ => rfl) (tw38 (by omega)), fun _ => rfl⟩
          rw [q5, q6]
          by_cases e : x = 6
          · rw [if_neg (by omega), if_pos e, e, am_up_self]; rfl
          · rw [am_up_ne (Or.inr (Or.inr (by omega))), hm x hx]
            by_cases e2 : x = 5
            · rw [if_pos e2, e2]; rfl
            · rw [if_neg e2, if_neg e]
    obtain ⟨N1, k1, k2, k3, k4⟩ := to146
    refine Exists.imp (fun N' h => ⟨Eq.trans k1 h.1, h.2⟩) (?_ : ∃ N', _ ∧ _)
    have n2 : N1 38 0 (8 * i + 2) = nI (Y 2) := k2 2 (by omega)
    have n7 : N1 38 0 (8 * i + 7) = nI (Y 7) := k2 7 (by omega)
    have n30 : N1 30 0 (Y 0) = B 30 0 (Y 0) := (k3 30 0 _ rfl).trans (hf 30 0 _ rfl)
    have n28 : N1 28 0 (Y 0) = nI (gl B (Y 0)) := ((k3 28 0 _ rfl).trans (hf 28 0 _ rfl)).trans hGk.2.2.1.2
    have hgl : gl B (Y 0) < n := hGk.1.2.1
    -- node and hops are written
    have hN2 : ∃ N2, N2 = am_up (am_up N1 38 0 (8 * i + 1) (nI v)) 38 0 (8 * i + 2) (nI (Y 2 + 1)) := ⟨_, rfl⟩
    obtain ⟨N2, hN2⟩ := hN2
    have u2 : (am_up N1 38 0 (8 * i + 1) (nI v)) 38 0 (8 * i + 2) = nI (Y 2) := (am_up_ne (Or.inr (Or.inr (by omega)))).trans n2
    have u7 : N2 38 0 (8 * i + 7) = nI (Y 7) := by
      rw [hN2, am_up_ne (Or.inr (Or.inr (by omega))), am_up_ne (Or.inr (Or.inr (by omega)))]
      exact n7
    have q7 : nY B Y v 7 = if B 30 0 (Y 0) = nI v then 1 else Y 7 := rfl
    have or1 : ∀ a, a < 2 → nI a ||| 1 = nI 1 := by decide
    have or0 : ∀ a, a < 2 → nI a ||| 0 = nI a := by decide
    have to194 : ∃ y0 : Int32, nI (Y 7) ||| y0 = nI (nY B Y v 7) ∧ am_ex (am_I2 E) mI_Mo_hops 146 [some (.inr (.inl (some (25, 0)))), some (.inl (nI (8 * i))), some (.inl (nI (Y 0))), some (.inl (nI (Y 1))), some (.inl (aI (bn B Y))), some (.inl (nI v))] [] N1 = am_ex (am_I2 E) mI_Mo_hops 194 [some (.inr (.inl (some (25, 0)))), some (.inl (nI (8 * i))), some (.inl (nI (Y 0))), some (.inl (nI (Y 1))), some (.inl (aI (bn B Y))), some (.inl (nI v))] [.inl y0, .inl (nI (Y 7)), .inl (nI (8 * i + 7)), .inr (.inl (some (38, 0)))] N2 := by
      rw [eq_Mo_hops_146, x1, x2, x7, hin 1 (by omega), hin 2 (by omega), hin 7 (by omega), inf, z_if, z_if, z_if, z_if, z_if, hix 1 (by omega), hix 2 (by omega), hix 7 (by omega), ixf, u2, nI_1, ← hN2, u7, n30, q7]
      by_cases e : nI v = B 30 0 (Y 0)
      · rw [if_pos e, if_pos e.symm]
        exact ⟨1, or1 _ v7, rfl⟩
      · rw [if_neg e, if_neg (fun w => e w.symm)]
        exact ⟨0, or0 _ v7, rfl⟩
    obtain ⟨y0, hy0, l1⟩ := to194
    refine Exists.imp (fun N' h => ⟨Eq.trans l1 h.1, h.2⟩) (?_ : ∃ N', _ ∧ _)
    have hN3 : ∃ N3, N3 = am_up N2 38 0 (8 * i + 7) (nI (nY B Y v 7)) := ⟨_, rfl⟩
    obtain ⟨N3, hN3⟩ := hN3
    have row : ∀ x, x < 8 → N3 38 0 (8 * i + x) = nI (nY B Y v x) := by
      intro x hx
      rw [hN3]
      by_cases e7 : x = 7
      · rw [e7, am_up_self]
      · rw [am_up_ne (Or.inr (Or.inr (by omega))), hN2]
        by_cases e2 : x = 2
        · rw [e2, am_up_self]; rfl
        · rw [am_up_ne (Or.inr (Or.inr (by omega)))]
          by_cases e1 : x = 1
          · rw [e1, am_up_self]; rfl
          · rw [am_up_ne (Or.inr (Or.inr (by omega))), k2 x hx]
            by_cases e5 : x = 5
            · rw [if_pos e5, e5]
            · rw [if_neg e5]
              by_cases e6 : x = 6
              · rw [if_pos e6, e6]
              · rw [if_neg e6]
                have hx' : x = 0 ∨ x = 3 ∨ x = 4 := by omega
                rcases hx' with rfl | rfl | rfl <;> rfl
    have oth3 : ∀ a b s, tw i a s = false → N3 a b s = N a b s := by
      rw [hN3, hN2]
      exact tw_up (tw_up (tw_up k3 (tw38 (by omega))) (tw38 (by omega))) (tw38 (by omega))
    have c25 : ∀ s, N3 25 0 s = N 25 0 s := fun s => by rw [hN3, hN2]; exact k4 s
    have c25b : ∀ s, N2 25 0 s = N 25 0 s := fun s => by rw [hN2]; exact k4 s
    have n30' : N2 30 0 (Y 0) = B 30 0 (Y 0) := by rw [hN2]; exact n30
    have n28' : N2 28 0 (Y 0) = nI (gl B (Y 0)) := by rw [hN2]; exact n28
    rw [eq_Mo_hops_194, hin 7 (by omega), inf, z_if, z_if, z_if, hix 7 (by omega), ixf, hy0, ← hN3, n28', n30', x7, hin 7 (by omega), z_if, hix 7 (by omega), row 7 (by omega), x2, hin 2 (by omega), z_if, hix 2 (by omega), row 2 (by omega), c25b, c25b, c25b, hst]
    by_cases eg : v = gl B (Y 0)
    · rw [if_pos (by rw [eg])]
      simp only [if_pos eg]
      -- it is there
      have fin : ∀ z0 : Int32, z0 = nI (d2 B Y) → ∃ N', am_ex (am_I2 E) mI_Mo_hops 249 [some (.inr (.inl (some (25, 0)))), some (.inl (nI (8 * i))), some (.inl (nI (Y 0))), some (.inl (nI (Y 1))), some (.inl (aI (bn B Y))), some (.inl (nI v))] [.inl z0, .inl (N 25 0 18), .inr (.inl (some (25, 0)))] (am_up N3 25 0 17 (N 25 0 17 + 1)) = some (some (.inl (aI (decide (1 = 0)))), N') ∧ (1 = 0 → mY i (aY B Y) N') ∧ (∀ a b s, tw i a s = false → N' a b s = N a b s) ∧ N' 25 0 17 = N 25 0 17 + nI (if 1 = 1 then 1 else 0) ∧ N' 25 0 18 = N 25 0 18 + nI (if 1 = 1 then d2 B Y else 0) ∧ N' 25 0 19 = N 25 0 19 + nI (if 1 = 1 then d3 B Y else 0) ∧ N' 25 0 20 = N 25 0 20 + nI (if 1 = 2 then 1 else 0) := by
        intro z0 hz0
        have p5 : (am_up N3 25 0 17 (N 25 0 17 + 1)) 38 0 (8 * i + 5) = nI (aY B Y 5) := by rw [haY]; exact row 5 (by omega)
        have p6 : (am_up N3 25 0 17 (N 25 0 17 + 1)) 38 0 (8 * i + 6) = nI (aY B Y 6) := by rw [haY]; exact row 6 (by omega)
        have p19 : (am_up N3 25 0 17 (N 25 0 17 + 1)) 25 0 19 = N 25 0 19 := c25 19
        have a5 : aY B Y 5 < 2 := by rw [haY, q5]; split <;> omega
        have a6 : aY B Y 6 < 2 := by rw [haY, q6]; split <;> omega
        have sum2 : ∀ a, a < 2 → ∀ b, b < 2 → (nI a + nI b = 2 ↔ (a = 1 ∧ b = 1)) := by decide
        have hd3 : ∀ y : Int32, (if nI (aY B Y 5) + nI (aY B Y 6) = 2 then y = 1 else y = 0) → y = nI (d3 B Y) := by
          intro y hy
          unfold d3
          by_cases e : aY B Y 5 = 1
          · by_cases e2 : aY B Y 6 = 1
            · rw [if_pos ((sum2 _ a5 _ a6).mpr ⟨e, e2⟩)] at hy
              rw [if_pos e, if_pos e2]; exact hy
            · rw [if_neg (fun w => e2 ((sum2 _ a5 _ a6).mp w).2)] at hy
              rw [if_pos e, if_neg e2]; exact hy
          · rw [if_neg (fun w => e ((sum2 _ a5 _ a6).mp w).1)] at hy
            rw [if_neg e]; exact hy
        rw [eq_Mo_hops_249, x5, x6, hin 5 (by omega), hin 6 (by omega), z_if, z_if, hix 5 (by omega), hix 6 (by omega), p5, p6, p19, hz0]
        have ends : ∀ y : Int32, y = nI (d3 B Y) → ∃ N', am_ex (am_I2 E) mI_Mo_hops 285 [some (.inr (.inl (some (25, 0)))), some (.inl (nI (8 * i))), some (.inl (nI (Y 0))), some (.inl (nI (Y 1))), some (.inl (aI (bn B Y))), some (.inl (nI v))] [.inl y, .inl (N 25 0 19), .inr (.inl (some (25, 0)))] (am_up (am_up N3 25 0 17 (N 25 0 17 + 1)) 25 0 18 (N 25 0 18 + nI (d2 B Y))) = some (some (.inl (aI (decide (1 = 0)))), N') ∧ (1 = 0 → mY i (aY B Y) N') ∧ (∀ a b s, tw i a s = false → N' a b s = N a b s) ∧ N' 25 0 17 = N 25 0 17 + nI (if 1 = 1 then 1 else 0) ∧ N' 25 0 18 = N 25 0 18 + nI (if 1 = 1 then d2 B Y else 0) ∧ N' 25 0 19 = N 25 0 19 + nI (if 1 = 1 then d3 B Y else 0) ∧ N' 25 0 20 = N 25 0 20 + nI (if 1 = 2 then 1 else 0) := by
          intro y hy
          rw [eq_Mo_hops_285, hy]
          refine ⟨_, rfl, (fun w => absurd w (by decide)), tw_up (tw_up (tw_up oth3 rfl) rfl) rfl, rfl, rfl, rfl, ?_⟩
          exact (c25 20).trans (a00 _).symm
        by_cases e : nI (aY B Y 5) + nI (aY B Y 6) = 2
        · rw [if_pos e]
          exact ends 1 (hd3 1 (by rw [if_pos e]))
        · rw [if_neg e]
          exact ends 0 (hd3 0 (by rw [if_neg e]))
      by_cases ep : B 30 0 (Y 0) = -1
      · rw [if_pos ep]
        exact fin 0 (by unfold d2; rw [if_pos ep]; rfl)
      · rw [if_neg ep]
        have a7 : nY B Y v 7 < 2 := by rw [q7]; split <;> omega
        have hd2 : d2 B Y = if nY B Y v 7 = 0 then 1 else 0 := by unfold d2; rw [if_neg ep, haY]
        by_cases e7 : nY B Y v 7 = 0
        · rw [if_pos (by rw [e7]; decide)]
          exact fin 1 (by rw [hd2, if_pos e7]; rfl)
        · rw [if_neg (nI_ne0 (by omega) (by omega))]
          exact fin 0 (by rw [hd2, if_neg e7]; rfl)
    · rw [if_neg (fun w => eg ((nI_eq (by omega) (by omega)).mp w))]
      simp only [if_neg eg]
      have hh : nY B Y v 2 = Y 2 + 1 := rfl
      rw [hh]
      by_cases e20 : Y 2 + 1 < 20
      · have h20 : nI (Y 2 + 1) < 20 := nI_lt (b := 20) e20 (by omega)
        have hne : ¬ nI (Y 2 + 1) = 20 := fun w => by have := (nI_eq (b := 20) (by omega) (by omega)).mp w; omega
        rw [if_neg hne, eq_Mo_hops_314, x2, hin 2 (by omega), z_if, hix 2 (by omega), row 2 (by omega), hh, if_pos h20]
        simp only [if_pos e20]
        refine ⟨_, rfl, fun _ => ?_, tw_up oth3 rfl, ?_, ?_, ?_, ?_⟩
        · rw [haY]
          exact row
        · exact (c25 17).trans (a00 _).symm
        · exact (c25 18).trans (a00 _).symm
        · exact (c25 19).trans (a00 _).symm
        · exact rfl
      · have h20 : ¬ nI (Y 2 + 1) < 20 := nI_nlt (b := 20) (by omega) (by omega)
        have hne : nI (Y 2 + 1) = 20 := by rw [show Y 2 + 1 = 20 by omega]; rfl
        rw [if_pos hne, eq_Mo_hops_314, x2, hin 2 (by omega), z_if, hix 2 (by omega), row 2 (by omega), hh, if_neg h20]
        simp only [if_neg e20]
        refine ⟨_, rfl, (fun w => absurd w (by decide)), tw_up oth3 rfl, ?_, ?_, ?_, ?_⟩
        · exact (c25 17).trans (a00 _).symm
        · exact (c25 18).trans (a00 _).symm
        · exact (c25 19).trans (a00 _).symm
        · exact rfl
end
