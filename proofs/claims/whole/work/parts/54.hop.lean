/-! a hop of a letter -/
theorem up_ap (M : am_M) (a b d : Nat) (x : Int32) (a' b' d' : Nat) : am_up M a b d x a' b' d' = if a' = a ∧ b' = b ∧ d' = d then x else M a' b' d' := by
  by_cases h1 : a' = a ∧ b' = b ∧ d' = d
  · rw [if_pos h1]
    obtain ⟨rfl, rfl, rfl⟩ := h1
    exact am_up_self _ _ _ _ _
  · rw [if_neg h1]
    apply am_up_ne
    by_cases e1 : a' = a
    · by_cases e2 : b' = b
      · exact Or.inr (Or.inr (fun e3 => h1 ⟨e1, e2, e3⟩))
      · exact Or.inr (Or.inl e2)
    · exact Or.inl e1
/-- a letter as a row of numbers: flow, node, hops, stamped, rounds then, by old, by new, the post met, all met -/
def vY (n : Nat) (B : am_M) (Y : Nat → Nat) : Prop := (Y 0 < 3 ∧ Y 1 < n ∧ Y 2 < 20 ∧ Y 3 < 2 ∧ Y 5 < 2 ∧ Y 6 < 2 ∧ Y 7 < 2 ∧ Y 8 < 256) ∧ Y 4 ≤ (B 37 0 (Y 0)).toNatClampNeg ∧ ∀ p, p < 8 → B 30 0 (Y 0) = nI p → ((Y 8).testBit p = true ↔ Y 7 = 1)
def cY (j : Nat) (Y : Nat → Nat) (M : am_M) : Prop := M 19 j 0 = nI (Y 0) ∧ M 19 j 1 = nI (Y 1) ∧ M 19 j 2 = nI (Y 2) ∧ M 19 j 3 = nI (Y 8) ∧ M 19 j 4 = nI (Y 4) ∧ M 19 j 5 = nI (Y 3) ∧ M 19 j 6 = nI (Y 5) ∧ M 19 j 7 = nI (Y 6)
def mY (i : Nat) (Y : Nat → Nat) (M : am_M) : Prop := ∀ x, x < 8 → M 38 0 (8 * i + x) = nI (Y x)
/-- whether it goes by its new rule -/
def bn (B : am_M) (Y : Nat → Nat) : Bool := decide (Y 3 = 1) || ((B 33 0 (Y 0)).toNatClampNeg).testBit (Y 1)
def ru (B : am_M) (Y : Nat → Nat) : Int32 := if bn B Y = true then B 6 (Y 0) (Y 1) else B 5 (Y 0) (Y 1)
def tg (B : am_M) (Y : Nat → Nat) : Option Nat := match rN (ru B Y) with
  | none => none
  | some v => if B 2 0 (8 * Y 1 + v) = 0 then none else some v
def mb (B : am_M) (Y : Nat → Nat) : Bool := !decide (B 5 (Y 0) (Y 1) = B 6 (Y 0) (Y 1))
def nY (B : am_M) (Y : Nat → Nat) (v x : Nat) : Nat := match x with
  | 1 => v
  | 2 => Y 2 + 1
  | 5 => if (mb B Y && !bn B Y) = true then 1 else Y 5
  | 6 => if (mb B Y && bn B Y) = true then 1 else Y 6
  | 7 => if B 30 0 (Y 0) = nI v then 1 else Y 7
  | 8 => Y 8 ||| 2 ^ v
  | _ => Y x
def stt (B : am_M) (Y : Nat → Nat) : Nat := match tg B Y with
  | none => 2
  | some v => if v = gl B (Y 0) then 1 else if Y 2 + 1 < 20 then 0 else 2
def aY (B : am_M) (Y : Nat → Nat) (x : Nat) : Nat := match tg B Y with
  | none => Y x
  | some v => nY B Y v x
/-- it is there, and missed its post; it is there, and went by old and new rules -/
def d2 (B : am_M) (Y : Nat → Nat) : Nat := if B 30 0 (Y 0) = -1 then 0 else if aY B Y 7 = 0 then 1 else 0
def d3 (B : am_M) (Y : Nat → Nat) : Nat := if aY B Y 5 = 1 then (if aY B Y 6 = 1 then 1 else 0) else 0
section
variable {E : am_E} {M B N : am_M} {c : Nat}
theorem tg_or {n s g z : Nat} {Y : Nat → Nat} (hn : n ≤ 8) (hR : iR B) (hv : Y 1 < n) (hG : iG n s g z (Y 0) B) : (ru B Y = -1 ∧ tg B Y = none) ∨ ∃ v r, v < n ∧ r ≤ 9 ∧ ru B Y = nI v ∧ B 2 0 (8 * Y 1 + v) = nI r ∧ B 26 0 (8 * Y 1 + v) = nI r ∧ ((r = 0 ∧ tg B Y = none) ∨ (r ≠ 0 ∧ tg B Y = some v)) := by
  have hrok : rok n g (Y 1) (ru B Y) := by
    unfold ru
    split
    · exact (hG.2.2.2.2.2 (Y 1) (by omega)).2.2
    · exact (hG.2.2.2.2.2 (Y 1) (by omega)).2.1
  rcases rok_N hrok hn with ⟨h1, h2⟩ | ⟨v, hv1, -, -, -, h1, h2⟩
  · left
    refine ⟨h1, ?_⟩
    unfold tg
    rw [h2]
  · right
    obtain ⟨r, hr, r1, r2⟩ := hR (8 * Y 1 + v) (by omega)
    have ht : tg B Y = if B 2 0 (8 * Y 1 + v) = 0 then none else some v := by
      unfold tg
      rw [h2]
    refine ⟨v, r, hv1, hr, h1, r1, r2, ?_⟩
    rw [r1] at ht
    by_cases e : r = 0
    · left
      refine ⟨e, ?_⟩
      rw [ht, if_pos (by rw [e]; decide)]
    · right
      refine ⟨e, ?_⟩
      rw [ht, if_neg (nI_ne0 (by omega) (by omega))]
theorem aI_b (b : Bool) : aI b = 0 ↔ b = false := by cases b <;> decide
theorem c_hop {n j : Nat} {Y : Nat → Nat} (hN : iN n B) (hR : iR B) (hG : ∀ k, k < 3 → iG n (sr B k) (gl B k) (sz B k) k B) (hH : ∀ k, k < 3 → ∃ t m p d, iH c t m p d k B) (hf : frl B N) (hv : vY n B Y) (hc : cY j Y N) : ∃ N', am_run (am_I2 E) mI_Ma_hop [.inr (.inl (some (17, 0))), .inr (.inl (some (19, j)))] N = some (some (.inl (nI (stt B Y))), N') ∧ cY j (aY B Y) N' ∧ ∀ a b s, (a ≠ 19 ∨ b ≠ j) → N' a b s = N a b s := by
  obtain ⟨⟨v0, v1, v2, v3, v5, v6, v7, v8⟩, v4, vp⟩ := hv
  obtain ⟨c0, c1, c2, c3, c4, c5, c6, c7⟩ := id hc
  have hn := hN.1
  have hGk := hG (Y 0) v0
  obtain ⟨t, m, p, d, f0, f1, -⟩ := hH (Y 0) v0
  have eN : N 1 0 0 = nI n := (hf 1 0 0 rfl).trans hN.2.1
  have e6 : N 4 (Y 0) 6 = nI t := (hf 4 _ 6 rfl).trans f1.1
  have e41 : N 4 (Y 0) 1 = nI (gl B (Y 0)) := (hf 4 _ 1 rfl).trans hGk.2.2.1.1
  have n5 : N 5 (Y 0) (Y 1) = B 5 (Y 0) (Y 1) := hf 5 _ _ rfl
  have n6 : N 6 (Y 0) (Y 1) = B 6 (Y 0) (Y 1) := hf 6 _ _ rfl
  have hbn : bn B Y = (decide (Y 3 = 1) || t.testBit (Y 1)) := by
    unfold bn
    rw [f1.2, nI_clamp (by omega)]
  have to44 : am_run (am_I2 E) mI_Ma_hop [.inr (.inl (some (17, 0))), .inr (.inl (some (19, j)))] N = am_ex (am_I2 E) mI_Ma_hop 44 [some (.inr (.inl (some (17, 0)))), some (.inr (.inl (some (19, j)))), some (.inr (.inl (some (4, Y 0)))), none, none] [.inl (aI (bn B Y))] N := by
    rw [rq_Ma_hop, c0, c_flowAt_s v0, z_bR, eq_Ma_hop_11v1, c5, c1, e6, hbn]
    rcases b01 v3 with e | e
    · rw [e, if_pos (by decide)]
      cases hb : t.testBit (Y 1) with
      | true =>
        have hne : ¬ nI t &&& (1 : Int32) <<< (nI (Y 1) &&& 31) = 0 := fun w => by
          have := (bt_ne0 (by omega)).mp w
          rw [bt_nI _ _ (by omega), hb] at this
          cases this
        rw [if_neg hne]
        rfl
      | false =>
        rw [if_pos ((bt_ne0 (by omega)).mpr (by rw [bt_nI _ _ (by omega)]; exact hb))]
        rfl
    · rw [e, if_neg (by decide)]
      rfl
  have to68 : am_ex (am_I2 E) mI_Ma_hop 44 [some (.inr (.inl (some (17, 0)))), some (.inr (.inl (some (19, j)))), some (.inr (.inl (some (4, Y 0)))), none, none] [.inl (aI (bn B Y))] N = am_ex (am_I2 E) mI_Ma_hop 68 [some (.inr (.inl (some (17, 0)))), some (.inr (.inl (some (19, j)))), some (.inr (.inl (some (4, Y 0)))), some (.inl (aI (bn B Y))), none] [.inl (ru B Y)] N := by
    rw [eq_Ma_hop_44, c1, c_oldAt (by omega), c_newAt (by omega), z_bI, z_bI, n5, n6]
    unfold ru
    cases hb : bn B Y with
    | true => rw [aI_t, if_neg z_ne10, if_pos rfl]
    | false => rw [aI_f, if_pos rfl, if_neg (by decide)]
  rw [to44, to68, eq_Ma_hop_68, c1]
  rcases tg_or (Y := Y) hn.2 hR v1 hGk with ⟨h1, h2⟩ | ⟨v, r, hvn, hr, h1, r1, -, ⟨h0, h2⟩ | ⟨h0, h2⟩⟩
  · have hst : stt B Y = 2 := by unfold stt; rw [h2]
    have haY : aY B Y = Y := by funext x; unfold aY; rw [h2]
    rw [h1, c_roomAt_n eN hn.2 v1 (ob_m1 n), z_bI, if_pos rfl, hst, haY]
    exact ⟨N, rfl, hc, fun _ _ _ _ => rfl⟩
  · have hst : stt B Y = 2 := by unfold stt; rw [h2]
    have haY : aY B Y = Y := by funext x; unfold aY; rw [h2]
    rw [h1, c_roomAt_s eN hn.2 v1 hvn, z_bI, (hf 2 0 _ rfl).trans r1, h0, if_pos (by decide), hst, haY]
    exact ⟨N, rfl, hc, fun _ _ _ _ => rfl⟩
  · have hst : stt B Y = if v = gl B (Y 0) then 1 else if Y 2 + 1 < 20 then 0 else 2 := by unfold stt; rw [h2]
    have haY : aY B Y = nY B Y v := by funext x; unfold aY; rw [h2]
    rw [h1, c_roomAt_s eN hn.2 v1 hvn, z_bI, (hf 2 0 _ rfl).trans r1, if_neg (nI_ne0 (by omega) (by omega)), c1, rq_Fl_isMover, c_oldAt (by omega), z_bI, c_newAt (by omega), z_bI, n5, n6, hst, haY]
    have to127 : ∃ N1, (am_bI (if B 5 (Y 0) (Y 1) = B 6 (Y 0) (Y 1) then (some (some (.inl 0), N) : Option (Option am_V × am_M)) else some (some (.inl 1), N)) (fun v2 M2 => if v2 = 0 then am_ex (am_I2 E) mI_Ma_hop 127 [some (.inr (.inl (some (17, 0)))), some (.inr (.inl (some (19, j)))), some (.inr (.inl (some (4, Y 0)))), some (.inl (aI (bn B Y))), some (.inl (nI v))] [] M2 else (if aI (bn B Y) = 0 then (am_if (am_z ((M2 19 j 6) ||| 1)) (am_if (am_z ((M2 19 j 7) ||| aI (bn B Y))) (am_ex (am_I2 E) mI_Ma_hop 127 [some (.inr (.inl (some (17, 0)))), some (.inr (.inl (some (19, j)))), some (.inr (.inl (some (4, Y 0)))), some (.inl (aI (bn B Y))), some (.inl (nI v))] [] (am_up (am_up M2 19 j 6 ((M2 19 j 6) ||| 1)) 19 j 7 ((M2 19 j 7) ||| aI (bn B Y)))))) else (am_if (am_z ((M2 19 j 6) ||| 0)) (am_if (am_z ((M2 19 j 7) ||| aI (bn B Y))) (am_ex (am_I2 E) mI_Ma_hop 127 [some (.inr (.inl (some (17, 0)))), some (.inr (.inl (some (19, j)))), some (.inr (.inl (some (4, Y 0)))), some (.inl (aI (bn B Y))), some (.inl (nI v))] [] (am_up (am_up M2 19 j 6 ((M2 19 j 6) ||| 0)) 19 j 7 ((M2 19 j 7) ||| aI (bn B Y)))))))) ) = am_ex (am_I2 E) mI_Ma_hop 127 [some (.inr (.inl (some (17, 0)))), some (.inr (.inl (some (19, j)))), some (.inr (.inl (some (4, Y 0)))), some (.inl (aI (bn B Y))), some (.inl (nI v))] [] N1 ∧ N1 19 j 6 = nI (nY B Y v 5) ∧ N1 19 j 7 = nI (nY B Y v 6) ∧ ∀ a b s, (a ≠ 19 ∨ b ≠ j ∨ (s ≠ 6 ∧ s ≠ 7)) → N1 a b s = N a b s := by
      have q5 : nY B Y v 5 = if (mb B Y && !bn B Y) = true then 1 else Y 5 := rfl
      have q6 : nY B Y v 6 = if (mb B Y && bn B Y) = true then 1 else Y 6 := rfl
      have other : ∀ x y : Int32, ∀ a b s, (a ≠ 19 ∨ b ≠ j ∨ (s ≠ 6 ∧ s ≠ 7)) → (am_up (am_up N 19 j 6 x) 19 j 7 y) a b s = N a b s := by
        intro x y a b s h
        rw [am_up_ne, am_up_ne]
        · rcases h with h | h | h
          · exact Or.inl h
          · exact Or.inr (Or.inl h)
          · exact Or.inr (Or.inr h.1)
        · rcases h with h | h | h
          · exact Or.inl h
          · exact Or.inr (Or.inl h)
          · exact Or.inr (Or.inr h.2)
      have or1 : ∀ a, a < 2 → nI a ||| 1 = nI 1 := by decide
      have or0 : ∀ a, a < 2 → nI a ||| 0 = nI a := by decide
      have zz : ∀ a, a < 2 → am_z (nI a) = true := by decide
      by_cases e : B 5 (Y 0) (Y 1) = B 6 (Y 0) (Y 1)
      · have hm : mb B Y = false := by unfold mb; rw [decide_eq_true e]; rfl
        rw [if_pos e, z_bI, if_pos rfl]
        refine ⟨N, rfl, ?_, ?_, fun _ _ _ _ => rfl⟩
        · rw [q5, hm, Bool.false_and, if_neg (by decide)]; exact c6
        · rw [q6, hm, Bool.false_and, if_neg (by decide)]; exact c7
      · have hm : mb B Y = true := by unfold mb; rw [decide_eq_false e]; rfl
        rw [if_neg e, z_bI, if_neg z_ne10, c6, c7]
        cases hb : bn B Y with
        | false =>
          rw [hm, hb] at q5 q6
          rw [aI_f, if_pos rfl, or1 _ v5, or0 _ v6, zz 1 (by omega), zz _ v6, z_if, z_if]
          refine ⟨_, rfl, ?_, ?_, other _ _⟩
          · rw [q5]; exact am_up_self N 19 j 6 _
          · rw [q6]; exact am_up_self _ 19 j 7 _
        | true =>
          rw [hm, hb] at q5 q6
          rw [aI_t, if_neg z_ne10, or1 _ v6, or0 _ v5, zz 1 (by omega), zz _ v5, z_if, z_if]
          refine ⟨_, rfl, ?_, ?_, other _ _⟩
          · rw [q5]; exact am_up_self N 19 j 6 _
          · rw [q6]; exact am_up_self _ 19 j 7 _
    obtain ⟨N1, k1, k2, k3, k4⟩ := to127
    refine Exists.imp (fun N' h => ⟨Eq.trans k1 h.1, h.2⟩) (?_ : ∃ N', _ ∧ _)
    have g1 : N1 4 (Y 0) 1 = nI (gl B (Y 0)) := (k4 4 (Y 0) 1 (Or.inl (by decide))).trans e41
    have g2 : N1 19 j 2 = nI (Y 2) := (k4 19 j 2 (Or.inr (Or.inr ⟨by decide, by decide⟩))).trans c2
    have g3 : N1 19 j 3 = nI (Y 8) := (k4 19 j 3 (Or.inr (Or.inr ⟨by decide, by decide⟩))).trans c3
    have hgl : gl B (Y 0) < n := hGk.1.2.1
    rw [eq_Ma_hop_127, g1, g2, g3, nI_shl (by omega), nI_or, nI_1, am_up_self]
    have last : cY j (nY B Y v) (am_up (am_up (am_up N1 19 j 1 (nI v)) 19 j 3 (nI (Y 8 ||| 2 ^ v))) 19 j 2 (nI (Y 2 + 1))) ∧ ∀ a b s, (a ≠ 19 ∨ b ≠ j) → (am_up (am_up (am_up N1 19 j 1 (nI v)) 19 j 3 (nI (Y 8 ||| 2 ^ v))) 19 j 2 (nI (Y 2 + 1))) a b s = N a b s := by
      refine ⟨⟨?_, ?_, ?_, ?_, ?_, ?_, ?_, ?_⟩, fun a b s h => ?_⟩
      · exact (k4 19 j 0 (Or.inr (Or.inr ⟨by decide, by decide⟩))).trans c0
      · exact am_up_self N1 19 j 1 _
      · exact am_up_self _ 19 j 2 _
      · exact am_up_self (am_up N1 19 j 1 (nI v)) 19 j 3 _
      · exact (k4 19 j 4 (Or.inr (Or.inr ⟨by decide, by decide⟩))).trans c4
      · exact (k4 19 j 5 (Or.inr (Or.inr ⟨by decide, by decide⟩))).trans c5
      · exact k2
      · exact k3
      · have h' : a ≠ 19 ∨ b ≠ j ∨ s ≠ s + 1 := by rcases h with h | h; exact Or.inl h; exact Or.inr (Or.inl h)
        rw [am_up_ne (by rcases h with h | h; exact Or.inl h; exact Or.inr (Or.inl h)), am_up_ne (by rcases h with h | h; exact Or.inl h; exact Or.inr (Or.inl h)), am_up_ne (by rcases h with h | h; exact Or.inl h; exact Or.inr (Or.inl h))]
        exact k4 a b s (by rcases h with h | h; exact Or.inl h; exact Or.inr (Or.inl h))
    refine ⟨_, ?_, last⟩
    by_cases e : v = gl B (Y 0)
    · rw [if_pos (by rw [e]), if_pos e]
      rfl
    · rw [if_neg (fun w => e ((nI_eq (by omega) (by omega)).mp w)), if_neg e]
      by_cases e20 : Y 2 + 1 < 20
      · have h20 : nI (Y 2 + 1) < 20 := nI_lt (b := 20) e20 (by omega)
        rw [if_pos h20, if_pos e20]
        rfl
      · have h20 : ¬ nI (Y 2 + 1) < 20 := nI_nlt (b := 20) (by omega) (by omega)
        rw [if_neg h20, if_neg e20]
        rfl
end
