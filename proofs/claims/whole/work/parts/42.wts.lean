/-! weights, needs -/
def sr (B : am_M) (k : Nat) : Nat := (B 4 k 0).toNatClampNeg
def gl (B : am_M) (k : Nat) : Nat := (B 4 k 1).toNatClampNeg
def sz (B : am_M) (k : Nat) : Nat := (B 4 k 2).toNatClampNeg
theorem iG_can {n s g z k : Nat} {B : am_M} (hn : n ≤ 8) (h : iG n s g z k B) : iG n (sr B k) (gl B k) (sz B k) k B := by
  obtain ⟨g0, g1, g2, g3, g4⟩ := id h
  have e1 : sr B k = s := by unfold sr; rw [g1.1, nI_clamp (by omega)]
  have e2 : gl B k = g := by unfold gl; rw [g2.1, nI_clamp (by omega)]
  have e3 : sz B k = z := by unfold sz; rw [g3.1, nI_clamp (by omega)]
  rw [e1, e2, e3]
  exact h
def WL (B : am_M) (k : Nat) (x : Int32) : List Nat := wkC B k x (sr B k)
def wf (B : am_M) (sk : Nat → Bool) (se : Nat → Int32) (k x : Nat) : Nat := if sk k = true then 0 else if nx (WL B k (se k)) (x / 8) = some (x % 8) then sz B k else 0
def wtN (B : am_M) (sk : Nat → Bool) (se : Nat → Int32) : Nat → Nat → Nat
  | 0, _ => 0
  | k + 1, x => wtN B sk se k x + wf B sk se k x
theorem wtN_succ (B : am_M) (sk : Nat → Bool) (se : Nat → Int32) (k x : Nat) : wtN B sk se (k + 1) x = wtN B sk se k x + wf B sk se k x := rfl
theorem wtN_congr {B : am_M} {sk sk' : Nat → Bool} {se se' : Nat → Int32} {x : Nat} : ∀ {j : Nat}, (∀ k, k < j → sk k = sk' k ∧ se k = se' k) → wtN B sk se j x = wtN B sk' se' j x := by
  intro j
  induction j with
  | zero => intro _; rfl
  | succ j ih =>
    intro h
    rw [wtN_succ, wtN_succ, ih (fun k hk => h k (by omega))]
    unfold wf
    rw [(h j (by omega)).1, (h j (by omega)).2]
def S1 (a _s : Nat) : Bool := match a with
  | 11 => true
  | _ => false
def S11 (a _s : Nat) : Bool := match a with
  | 9 => true
  | 10 => true
  | 11 => true
  | _ => false
def S6 (a _s : Nat) : Bool := match a with
  | 46 => true
  | _ => false
def S46 (a s : Nat) : Bool := match a with
  | 44 => true
  | 46 => true
  | 25 => match s with
    | 33 => true
    | 34 => true
    | 35 => true
    | _ => false
  | _ => false
theorem S1_11 : ∀ a s, S1 a s = true → S11 a s = true := by
  intro a s h
  unfold S1 at h
  split at h
  · rfl
  · cases h
theorem S9_11 : ∀ a s, S9 a s = true → S11 a s = true := by
  intro a s h
  unfold S9 at h
  split at h
  · rfl
  · rfl
  · cases h
theorem S11_scr : ∀ a s, S11 a s = true → scr a s = true := by
  intro a s h
  unfold S11 at h
  split at h
  · rfl
  · rfl
  · rfl
  · cases h
theorem S6_46 : ∀ a s, S6 a s = true → S46 a s = true := by
  intro a s h
  unfold S6 at h
  split at h
  · rfl
  · cases h
theorem S44_46 : ∀ a s, S44 a s = true → S46 a s = true := by
  intro a s h
  unfold S44 at h
  split at h
  · rfl
  · split at h
    · rfl
    · rfl
    · rfl
    · cases h
  · cases h
theorem S46_scr : ∀ a s, S46 a s = true → scr a s = true := by
  intro a s h
  unfold S46 at h
  split at h
  · rfl
  · rfl
  · split at h
    · rfl
    · rfl
    · rfl
    · cases h
  · cases h
theorem wk_nodup {f : Nat → Option Nat} : ∀ {j e u : Nat}, e.testBit u = true → (wk f j e u).Nodup := by
  intro j
  induction j with
  | zero => intro e u _; simp [wk]
  | succ j ih =>
    intro e u he
    cases h : f u with
    | none => rw [wk_none h]; simp
    | some v =>
      cases hv : e.testBit v with
      | true => rw [wk_met h hv]; simp
      | false =>
        rw [wk_go h hv, List.nodup_cons]
        refine ⟨fun hu => ?_, ih (by rw [Nat.testBit_or, Nat.testBit_two_pow]; simp)⟩
        rcases wk_new u hu with w | w
        · rw [w, hv] at he; cases he
        · rw [Nat.testBit_or, he] at w; cases w
theorem wkC_nodup {B : am_M} {k s : Nat} {x : Int32} : (wkC B k x s).Nodup := wk_nodup (by rw [Nat.testBit_two_pow]; simp)
def pq : List Nat → Nat → Nat
  | a :: b :: l, x => (if 8 * a + b = x then 1 else 0) + pq (b :: l) x
  | _, _ => 0
theorem pq_nx : ∀ {l : List Nat} {x : Nat}, l.Nodup → (∀ y, y ∈ l → y < 8) → pq l x = if nx l (x / 8) = some (x % 8) then 1 else 0 := by
  intro l
  induction l with
  | nil => intro x _ _; rfl
  | cons a l ih =>
    intro x hd h8
    cases l with
    | nil => rfl
    | cons b l =>
      have hb : b < 8 := h8 b (by simp)
      rw [List.nodup_cons] at hd
      have ih2 := ih (x := x) hd.2 (fun y hy => h8 y (List.mem_cons_of_mem _ hy))
      show (if 8 * a + b = x then 1 else 0) + pq (b :: l) x = if (if x / 8 = a then some b else nx (b :: l) (x / 8)) = some (x % 8) then 1 else 0
      rw [ih2]
      by_cases e : x / 8 = a
      · rw [if_pos e]
        have h0 : ¬ nx (b :: l) (x / 8) = some (x % 8) := fun w => hd.1 (by rw [← e]; exact (nx_mem w).1)
        rw [if_neg h0]
        by_cases e2 : b = x % 8
        · rw [if_pos (by omega), if_pos (by rw [e2])]
        · rw [if_neg (by omega), if_neg (fun w => e2 (Option.some.inj w))]
      · rw [if_neg e, if_neg (by omega), Nat.zero_add]
section
variable {E : am_E} {M B : am_M} {c : Nat}
theorem oI_none : oI none = -1 := rfl
theorem oI_some (v : Nat) : oI (some v) = nI v := rfl
theorem c_addPath {n z : Nat} {L : List Nat} {W : Nat → Nat} (hN : M 1 0 0 = nI n) (hn : n ≤ 8) (hL : ∀ y, y ∈ L → y < n) (h10 : ∀ u, u < 8 → M 10 0 u = oI (nx L u)) (h11 : ∀ x, x < 64 → M 11 0 x = nI (W x)) : ∃ N, am_run (am_I2 E) mI_Ju_addPath [.inr (.inl (some (8, 0))), .inl (nI z)] M = some (none, N) ∧ fS S1 M N ∧ ∀ x, x < 64 → N 11 0 x = nI (W x + if nx L (x / 8) = some (x % 8) then z else 0) := by
  rw [rq_Ju_addPath]
  have key : ∀ j i N u3, i + j = 8 → fS S1 M N → (∀ x, x < 64 → N 11 0 x = nI (W x + if x / 8 < i ∧ nx L (x / 8) = some (x % 8) then z else 0)) → ∃ N', am_ex (am_I2 E) mI_Ju_addPath 2 [some (.inr (.inl (some (8, 0)))), some (.inl (nI z)), some (.inl (nI i)), u3] [] N = some (none, N') ∧ fS S1 M N' ∧ ∀ x, x < 64 → N' 11 0 x = nI (W x + if nx L (x / 8) = some (x % 8) then z else 0) := by
    intro j
    induction j with
    | zero =>
      intro i N u3 hi hf hx
      have h8 : ¬ nI i < 8 := nI_nlt (b := 8) (by omega) (by omega)
      refine ⟨N, by rw [eq_Ju_addPath_2, if_neg h8], hf, fun x hx2 => ?_⟩
      rw [hx x hx2]
      congr 2
      have h1 : x / 8 < i := by omega
      by_cases e : nx L (x / 8) = some (x % 8)
      · rw [if_pos ⟨h1, e⟩, if_pos e]
      · rw [if_neg (fun w => e w.2), if_neg e]
    | succ j ih =>
      intro i N u3 hi hf hx
      have h8 : nI i < 8 := nI_lt (b := 8) (by omega) (by omega)
      have eN : N 1 0 0 = nI n := (hf 1 0 0 rfl).trans hN
      have e10 : N 10 0 i = oI (nx L i) := (hf 10 0 i rfl).trans (h10 i (by omega))
      rw [eq_Ju_addPath_2, if_pos h8, z_in (by omega) (by omega), z_if, z_ix (by omega), e10, nI_1]
      cases hnx : nx L i with
      | none =>
        rw [oI_none, c_isNode_n eN (ob_m1 n), z_bI, if_pos rfl]
        refine ih (i + 1) N _ (by omega) hf (fun x hx2 => ?_)
        rw [hx x hx2]
        congr 2
        by_cases e : nx L (x / 8) = some (x % 8)
        · have h1 : x / 8 ≠ i := fun w => by rw [w, hnx] at e; cases e
          by_cases e2 : x / 8 < i
          · rw [if_pos ⟨e2, e⟩, if_pos ⟨by omega, e⟩]
          · rw [if_neg (fun w => e2 w.1), if_neg (fun w => absurd w.1 (by omega))]
        · rw [if_neg (fun w => e w.2), if_neg (fun w => e w.2)]
      | some v =>
        have hv : v < n := hL v (nx_mem hnx).2
        rw [oI_some, c_isNode_s eN hn hv, z_bI, if_neg z_ne10, z_mul8, z_in (by omega) (by omega), z_if, z_if, z_ix (by omega), hx _ (by omega), nI_add]
        refine ih (i + 1) _ _ (by omega) (fS_up hf rfl) (fun x hx2 => ?_)
        by_cases ex : x = i * 8 + v
        · subst ex
          rw [am_up_self]
          have h1 : (i * 8 + v) / 8 = i := by omega
          have h2 : (i * 8 + v) % 8 = v := by omega
          rw [h1, h2, if_neg (fun w => absurd w.1 (by omega)), if_pos ⟨by omega, hnx⟩]
          rfl
        · rw [am_up_ne (Or.inr (Or.inr ex)), hx x hx2]
          congr 2
          by_cases e : nx L (x / 8) = some (x % 8)
          · have h1 : x / 8 ≠ i := fun w => by
              rw [w, hnx] at e
              have := Option.some.inj e
              exact ex (by omega)
            by_cases e2 : x / 8 < i
            · rw [if_pos ⟨e2, e⟩, if_pos ⟨by omega, e⟩]
            · rw [if_neg (fun w => e2 w.1), if_neg (fun w => absurd w.1 (by omega))]
          · rw [if_neg (fun w => e w.2), if_neg (fun w => e w.2)]
  exact key 8 0 M none rfl fS_rfl (fun x hx => by rw [h11 x hx, if_neg (fun w => absurd w.1 (by omega)), Nat.add_zero])
theorem c_weigh {n : Nat} {a mo : Int32} (hN : iN n B) (hR : iR B) (hG : ∀ k, k < 3 → ∃ s g z, iG n s g z k B) (hf : fr B M) : ∃ N, am_run (am_I2 E) mI_Ju_weigh [.inr (.inl (some (8, 0))), .inl a, .inl mo] M = some (none, N) ∧ fS S11 M N ∧ ∀ x, x < 64 → N 11 0 x = nI (wtN B (fun k => bt a k) (fun k => if bt mo k = true then nI (mv (B 5 k) (B 6 k)) else B 4 k 6) 3 x) := by
  have hn := hN.1
  rw [rq_Ju_weigh]
  have flows : ∀ j k N u4, k + j = 3 → fS S11 M N → (∀ x, x < 64 → N 11 0 x = nI (wtN B (fun k => bt a k) (fun k => if bt mo k = true then nI (mv (B 5 k) (B 6 k)) else B 4 k 6) k x)) → ∃ N', am_ex (am_I2 E) mI_Ju_weigh 23 [some (.inr (.inl (some (8, 0)))), some (.inl a), some (.inl mo), some (.inl (nI k)), u4] [] N = some (none, N') ∧ fS S11 M N' ∧ ∀ x, x < 64 → N' 11 0 x = nI (wtN B (fun k => bt a k) (fun k => if bt mo k = true then nI (mv (B 5 k) (B 6 k)) else B 4 k 6) 3 x) := by
    intro j
    induction j with
    | zero =>
      intro k N u4 hk hfN hx
      have h3 : ¬ nI k < 3 := nI_nlt (b := 3) (by omega) (by omega)
      rw [show k = 3 by omega] at hx
      exact ⟨N, by rw [eq_Ju_weigh_23, if_neg h3], hfN, hx⟩
    | succ j ih =>
      intro k N u4 hk hfN hx
      have h3 : nI k < 3 := nI_lt (b := 3) (by omega) (by omega)
      have hfB : fr B N := fS_tr hf (fS_mono S11_scr hfN)
      obtain ⟨s, g, z, hGk⟩ := hG k (by omega)
      have hGc := iG_can hn.2 hGk
      have e2 : N 4 k 2 = nI (sz B k) := (hfB 4 k 2 rfl).trans hGc.2.2.2.1.1
      have e6 : N 4 k 6 = B 4 k 6 := hfB 4 k 6 rfl
      have emv : mv (N 5 k) (N 6 k) = mv (B 5 k) (B 6 k) := by
        rw [show N 5 k = B 5 k from funext (fun y => hfB 5 k y rfl), show N 6 k = B 6 k from funext (fun y => hfB 6 k y rfl)]
      have step : ∀ q : Int32, q = (if bt mo k = true then nI (mv (B 5 k) (B 6 k)) else B 4 k 6) → bt a k = false → ∃ N1, am_run (am_I2 E) mI_Pa_follow [.inr (.inl (some (9, 0))), .inr (.inl (some (1, 0))), .inr (.inl (some (4, k))), .inl q] N = some (none, N1) ∧ ∃ N2, am_run (am_I2 E) mI_Ju_addPath [.inr (.inl (some (8, 0))), .inl (N1 4 k 2)] N1 = some (none, N2) ∧ fS S11 M N2 ∧ ∀ x, x < 64 → N2 11 0 x = nI (wtN B (fun k => bt a k) (fun k => if bt mo k = true then nI (mv (B 5 k) (B 6 k)) else B 4 k 6) (k + 1) x) := by
        intro q hq ha
        obtain ⟨N1, k1, k2, k3, k4, k5, k6⟩ := c_follow (E := E) (B := B) (M := N) (x := q) hN hR hGc hfB
        have eN : N1 1 0 0 = nI n := (k2 1 0 0 rfl).trans ((hfB 1 0 0 rfl).trans hN.2.1)
        have e42 : N1 4 k 2 = nI (sz B k) := (k2 4 k 2 rfl).trans e2
        obtain ⟨N2, l1, l2, l3⟩ := c_addPath (E := E) (M := N1) (z := sz B k) (L := wkC B k q (sr B k)) (W := wtN B (fun k => bt a k) (fun k => if bt mo k = true then nI (mv (B 5 k) (B 6 k)) else B 4 k 6) k) eN hn.2 (wkC_lt hn.2 hGc) k6 (fun x hx2 => (k2 11 0 x rfl).trans (hx x hx2))
        refine ⟨N1, k1, N2, by rw [e42]; exact l1, fS_tr (fS_tr hfN (fS_mono S9_11 k2)) (fS_mono S1_11 l2), fun x hx2 => ?_⟩
        rw [l3 x hx2, wtN_succ]
        unfold wf
        show _ = nI (_ + if bt a k = true then 0 else if nx (WL B k (if bt mo k = true then nI (mv (B 5 k) (B 6 k)) else B 4 k 6)) (x / 8) = some (x % 8) then sz B k else 0)
        rw [ha, if_neg (show ¬ false = true by decide), ← hq]
        rfl
      rw [eq_Ju_weigh_23, if_pos h3, c_flowAt_s (by omega), z_bR, eq_Ju_weigh_36v1, nI_1]
      cases ha : bt a k with
      | true =>
        have h0 : ¬ a &&& (1 : Int32) <<< (nI k &&& 31) = 0 := fun w => by
          have := (bt_ne0 (by omega)).mp w
          rw [ha] at this
          cases this
        rw [if_neg h0]
        refine ih (k + 1) N _ (by omega) hfN (fun x hx2 => ?_)
        rw [hx x hx2, wtN_succ]
        unfold wf
        show _ = nI (_ + if bt a k = true then 0 else _)
        rw [if_pos ha, Nat.add_zero]
      | false =>
        rw [if_pos ((bt_ne0 (by omega)).mpr ha)]
        cases hm : bt mo k with
        | false =>
          rw [if_pos ((bt_ne0 (by omega)).mpr hm), e6]
          obtain ⟨N1, q1, N2, q2, q3, q4⟩ := step (B 4 k 6) (by rw [hm]; rfl) ha
          rw [q1, z_bV, q2, z_bV]
          exact ih (k + 1) N2 _ (by omega) q3 q4
        | true =>
          have h0 : ¬ mo &&& (1 : Int32) <<< (nI k &&& 31) = 0 := fun w => by
            have := (bt_ne0 (by omega)).mp w
            rw [hm] at this
            cases this
          rw [if_neg h0, c_movers, z_bI, emv]
          obtain ⟨N1, q1, N2, q2, q3, q4⟩ := step (nI (mv (B 5 k) (B 6 k))) (by rw [hm]; rfl) ha
          rw [q1, z_bV, q2, z_bV]
          exact ih (k + 1) N2 _ (by omega) q3 q4
  have clear : ∀ j i N, i + j = 64 → fS S11 M N → (∀ x, x < i → N 11 0 x = nI 0) → ∃ N', am_ex (am_I2 E) mI_Ju_weigh 2 [some (.inr (.inl (some (8, 0)))), some (.inl a), some (.inl mo), some (.inl (nI i)), none] [] N = am_ex (am_I2 E) mI_Ju_weigh 23 [some (.inr (.inl (some (8, 0)))), some (.inl a), some (.inl mo), some (.inl (nI 0)), none] [] N' ∧ fS S11 M N' ∧ ∀ x, x < 64 → N' 11 0 x = nI 0 := by
    intro j
    induction j with
    | zero =>
      intro i N hi hfN hx
      have h8 : ¬ nI i < 64 := nI_nlt (b := 64) (by omega) (by omega)
      exact ⟨N, by rw [eq_Ju_weigh_2, if_neg h8]; rfl, hfN, fun x hx2 => hx x (by omega)⟩
    | succ j ih =>
      intro i N hi hfN hx
      have h8 : nI i < 64 := nI_lt (b := 64) (by omega) (by omega)
      rw [eq_Ju_weigh_2, if_pos h8, z_in (by omega) (by omega), z_if, z_ix (by omega), nI_1]
      refine ih (i + 1) _ (by omega) (fS_up hfN rfl) (fun x hx2 => ?_)
      by_cases e : x = i
      · subst e; exact am_up_self N 11 0 x 0
      · exact (am_up_ne (M := N) (a := 11) (b := 0) (c := i) (x := 0) (Or.inr (Or.inr e))).trans (hx x (by omega))
  obtain ⟨N1, k1, k2, k3⟩ := clear 64 0 M rfl fS_rfl (fun x hx => absurd hx (by omega))
  obtain ⟨N2, l1, l2, l3⟩ := flows 3 0 N1 none rfl k2 k3
  exact ⟨N2, k1.trans l1, l2, l3⟩
theorem m_needs {n : Nat} {x1 x2 : Int32} {se : Nat → Int32} (hN : iN n B) (hR : iR B) (hG : ∀ k, k < 3 → ∃ s g z, iG n s g z k B) (hf : fr B M) (h45 : ∀ k, k < 3 → M 45 0 k = se k) : ∃ N, am_run (am_I2 E) mI_Mo_needsOf [.inr (.inl (some (25, 0))), .inl x1, .inl x2] M = some (none, N) ∧ fS S46 M N ∧ ∀ x, x < 64 → N 46 0 x = nI (wtN B (fun k => decide (nI k = x1) || decide (nI k = x2)) se 3 x) := by
  have hn := hN.1
  rw [rq_Mo_needsOf]
  have inner : ∀ (l : List Nat) (a i k : Nat) (z : Nat) (N : am_M) (W : Nat → Nat), k < 3 → N 29 0 k = nI z → (∀ y, y ∈ a :: l → y < 8) → i + (a :: l).length ≤ 8 → (∀ y, y < (a :: l).length → N 44 0 (i + y) = nI ((a :: l).getD y 0)) → N 25 0 33 = nI (i + (a :: l).length) → (∀ x, x < 64 → N 46 0 x = nI (W x)) → ∃ N' u4, am_ex (am_I2 E) mI_Mo_needsOf 52 [some (.inr (.inl (some (25, 0)))), some (.inl x1), some (.inl x2), some (.inl (nI k)), some (.inl (nI (i + 1)))] [] N = am_ex (am_I2 E) mI_Mo_needsOf 23 [some (.inr (.inl (some (25, 0)))), some (.inl x1), some (.inl x2), some (.inl (nI (k + 1))), u4] [] N' ∧ fS S6 N N' ∧ ∀ x, x < 64 → N' 46 0 x = nI (W x + z * pq (a :: l) x) := by
    intro l
    induction l with
    | nil =>
      intro a i k z N W hk h29 h8 hlen h44 h33 h46
      refine ⟨N, _, by rw [eq_Mo_needsOf_52, h33, if_neg (nI_nlt (by simp) (by simp at hlen ⊢; omega)), nI_1], fS_rfl, fun x hx => by rw [h46 x hx]; rfl⟩
    | cons b l ih =>
      intro a i k z N W hk h29 h8 hlen h44 h33 h46
      have ha : a < 8 := h8 a (by simp)
      have hb : b < 8 := h8 b (by simp)
      have e0 : N 44 0 i = nI a := h44 0 (by simp)
      have e1 : N 44 0 (i + 1) = nI b := h44 1 (by simp)
      simp only [List.length_cons] at hlen h33
      rw [eq_Mo_needsOf_52, h33, if_pos (nI_lt (by omega) (by omega)), nI_pred, z_in (by omega) (by omega), z_if, z_in (by omega) (by omega), z_if, z_ix (by omega), z_ix (by omega), e0, e1, z_8mul, z_in (by omega) (by omega), z_if, z_in hk (by omega), z_if, z_if, z_ix (by omega), z_ix (by omega), h29, h46 _ (by omega), nI_add, nI_1]
      obtain ⟨N', u4, k1, k2, k3⟩ := ih b (i + 1) k z (am_up N 46 0 (8 * a + b) (nI (W (8 * a + b) + z))) (fun x => W x + if 8 * a + b = x then z else 0) hk h29 (fun y hy => h8 y (List.mem_cons_of_mem _ hy)) (by simp only [List.length_cons]; omega) (fun y hy => by
        have := h44 (y + 1) (by simp only [List.length_cons] at hy ⊢; omega)
        rw [show i + 1 + y = i + (y + 1) by omega]
        exact this) (by simp only [List.length_cons]; rw [show i + 1 + (l.length + 1) = i + (l.length + 1 + 1) by omega]; exact h33) (fun x hx => by
        by_cases e : 8 * a + b = x
        · subst e
          rw [am_up_self]
          simp
        · rw [am_up_ne (Or.inr (Or.inr (fun w => e w.symm))), h46 x hx]
          simp [e])
      refine ⟨N', u4, k1, fS_tr (fS_up fS_rfl rfl) k2, fun x hx => ?_⟩
      rw [k3 x hx]
      congr 1
      show W x + (if 8 * a + b = x then z else 0) + z * pq (b :: l) x = W x + z * ((if 8 * a + b = x then 1 else 0) + pq (b :: l) x)
      rw [Nat.mul_add]
      by_cases e : 8 * a + b = x
      · rw [if_pos e, if_pos e, Nat.mul_one]; omega
      · rw [if_neg e, if_neg e, Nat.mul_zero]; omega
  have flows : ∀ j k N u4, k + j = 3 → fS S46 M N → (∀ x, x < 64 → N 46 0 x = nI (wtN B (fun k => decide (nI k = x1) || decide (nI k = x2)) se k x)) → ∃ N', am_ex (am_I2 E) mI_Mo_needsOf 23 [some (.inr (.inl (some (25, 0)))), some (.inl x1), some (.inl x2), some (.inl (nI k)), u4] [] N = some (none, N') ∧ fS S46 M N' ∧ ∀ x, x < 64 → N' 46 0 x = nI (wtN B (fun k => decide (nI k = x1) || decide (nI k = x2)) se 3 x) := by
    intro j
    induction j with
    | zero =>
      intro k N u4 hk hfN hx
      have h3 : ¬ nI k < 3 := nI_nlt (b := 3) (by omega) (by omega)
      rw [show k = 3 by omega] at hx
      exact ⟨N, by rw [eq_Mo_needsOf_23, if_neg h3], hfN, hx⟩
    | succ j ih =>
      intro k N u4 hk hfN hx
      have h3 : nI k < 3 := nI_lt (b := 3) (by omega) (by omega)
      have hfB : fr B N := fS_tr hf (fS_mono S46_scr hfN)
      rw [eq_Mo_needsOf_23, if_pos h3, nI_1]
      have skip : (decide (nI k = x1) || decide (nI k = x2)) = true → ∃ N', am_ex (am_I2 E) mI_Mo_needsOf 23 [some (.inr (.inl (some (25, 0)))), some (.inl x1), some (.inl x2), some (.inl (nI (k + 1))), u4] [] N = some (none, N') ∧ fS S46 M N' ∧ ∀ x, x < 64 → N' 46 0 x = nI (wtN B (fun k => decide (nI k = x1) || decide (nI k = x2)) se 3 x) := by
        intro hs
        refine ih (k + 1) N u4 (by omega) hfN (fun x hx2 => ?_)
        rw [hx x hx2, wtN_succ]
        unfold wf
        show _ = nI (_ + if (decide (nI k = x1) || decide (nI k = x2)) = true then 0 else _)
        rw [if_pos hs, Nat.add_zero]
      by_cases h1 : nI k = x1
      · rw [if_pos h1]
        exact skip (by simp [h1])
      · by_cases h2 : nI k = x2
        · rw [if_neg h1, if_pos h2]
          exact skip (by simp [h2])
        · obtain ⟨s, g, z, hGk⟩ := hG k (by omega)
          have hGc := iG_can hn.2 hGk
          have e45 : N 45 0 k = se k := (hfN 45 0 k rfl).trans (h45 k (by omega))
          obtain ⟨N1, k1, k2, k3, k4, k5, k6, k7⟩ := m_walks (E := E) (B := B) (M := N) (x := se k) (by omega) hN hR hGc hfB
          have e29 : N1 29 0 k = nI (sz B k) := (k2 29 0 k rfl).trans ((hfB 29 0 k rfl).trans hGc.2.2.2.1.2)
          obtain ⟨l, hl⟩ := wk_head (st (B 5 k) (B 6 k) (B 2 0) (se k)) 8 (2 ^ sr B k) (sr B k)
          have hL : wkC B k (se k) (sr B k) = sr B k :: l := hl
          have hlt := wkC_lt (x := se k) hn.2 hGc
          have hp8 := pcN_le1 (2 ^ sr B k ||| mt (wkC B k (se k) (sr B k))) 8
          obtain ⟨N2, u4', q1, q2, q3⟩ := inner l (sr B k) 0 k (sz B k) N1 (wtN B (fun k => decide (nI k = x1) || decide (nI k = x2)) se k) (by omega) e29 (fun y hy => by rw [← hL] at hy; have := hlt y hy; omega) (by rw [← hL]; omega) (fun y hy => by rw [← hL] at hy ⊢; rw [Nat.zero_add]; exact k4 y hy) (by rw [← hL, Nat.zero_add]; exact k3) (fun x hx2 => (k2 46 0 x rfl).trans (hx x hx2))
          rw [if_neg h1, if_neg h2, z_in (by omega) (by omega), z_if, z_ix (by omega), e45, k1, z_bV]
          obtain ⟨N3, r1, r2, r3⟩ := ih (k + 1) N2 u4' (by omega) (fS_tr (fS_tr hfN (fS_mono S44_46 k2)) (fS_mono S6_46 q2)) (fun x hx2 => by
            rw [q3 x hx2, wtN_succ, ← hL, pq_nx (l := wkC B k (se k) (sr B k)) wkC_nodup (fun y hy => by have := hlt y hy; omega)]
            unfold wf
            show _ = nI (_ + if (decide (nI k = x1) || decide (nI k = x2)) = true then 0 else if nx (WL B k (se k)) (x / 8) = some (x % 8) then sz B k else 0)
            rw [decide_eq_false h1, decide_eq_false h2, if_neg (show ¬ (false || false) = true by decide)]
            congr 2
            show sz B k * (if nx (WL B k (se k)) (x / 8) = some (x % 8) then 1 else 0) = _
            by_cases e : nx (WL B k (se k)) (x / 8) = some (x % 8)
            · rw [if_pos e, if_pos e, Nat.mul_one]
            · rw [if_neg e, if_neg e, Nat.mul_zero])
          exact ⟨N3, q1.trans r1, r2, r3⟩
  have clear : ∀ j i N, i + j = 64 → fS S46 M N → (∀ x, x < i → N 46 0 x = nI 0) → ∃ N', am_ex (am_I2 E) mI_Mo_needsOf 2 [some (.inr (.inl (some (25, 0)))), some (.inl x1), some (.inl x2), some (.inl (nI i)), none] [] N = am_ex (am_I2 E) mI_Mo_needsOf 23 [some (.inr (.inl (some (25, 0)))), some (.inl x1), some (.inl x2), some (.inl (nI 0)), none] [] N' ∧ fS S46 M N' ∧ ∀ x, x < 64 → N' 46 0 x = nI 0 := by
    intro j
    induction j with
    | zero =>
      intro i N hi hfN hx
      have h8 : ¬ nI i < 64 := nI_nlt (b := 64) (by omega) (by omega)
      exact ⟨N, by rw [eq_Mo_needsOf_2, if_neg h8]; rfl, hfN, fun x hx2 => hx x (by omega)⟩
    | succ j ih =>
      intro i N hi hfN hx
      have h8 : nI i < 64 := nI_lt (b := 64) (by omega) (by omega)
      rw [eq_Mo_needsOf_2, if_pos h8, z_in (by omega) (by omega), z_if, z_ix (by omega), nI_1]
      refine ih (i + 1) _ (by omega) (fS_up hfN rfl) (fun x hx2 => ?_)
      by_cases e : x = i
      · subst e; exact am_up_self N 46 0 x 0
      · exact (am_up_ne (M := N) (a := 46) (b := 0) (c := i) (x := 0) (Or.inr (Or.inr e))).trans (hx x (by omega))
  obtain ⟨N1, k1, k2, k3⟩ := clear 64 0 M rfl fS_rfl (fun x hx => absurd hx (by omega))
  obtain ⟨N2, l1, l2, l3⟩ := flows 3 0 N1 none rfl k2 k3
  exact ⟨N2, k1.trans l1, l2, l3⟩
end
