/-! the reference reads a clause -/
def rT (X : Nat → Nat) (l q : Nat) (N : am_M) : Prop := N 25 0 23 = nI (tS X l q) ∧ N 25 0 24 = nI (tE X l q)
def rR (i : Nat) (vs : Nat → Nat) (N : am_M) : Prop := ∀ x, x < i → N 42 0 x = nI (vs x)
def rD (nn : Nat) (ss gg : Nat → Nat) (N : am_M) : Prop := N 25 0 25 = nI nn ∧ ∀ k, k < 3 → N 40 0 k = nI (ss k) ∧ N 41 0 k = nI (gg k)
def S42 (a s : Nat) : Bool := match a with
  | 42 => true
  | 25 => match s with
    | 23 => true
    | 24 => true
    | _ => false
  | _ => false
def S40 (a s : Nat) : Bool := match a with
  | 40 => true
  | 41 => true
  | 42 => true
  | 25 => match s with
    | 23 => true
    | 24 => true
    | 25 => true
    | _ => false
  | _ => false
theorem S23_42 : ∀ a s, S23 a s = true → S42 a s = true := by
  intro a s h
  unfold S23 at h
  split at h
  · split at h
    · rfl
    · rfl
    · cases h
  · cases h
theorem S42_40 : ∀ a s, S42 a s = true → S40 a s = true := by
  intro a s h
  unfold S42 at h
  split at h
  · rfl
  · split at h
    · rfl
    · rfl
    · cases h
  · cases h
theorem S40_scr : ∀ a s, S40 a s = true → scr a s = true := by
  intro a s h
  unfold S40 at h
  split at h
  · rfl
  · rfl
  · rfl
  · split at h
    · rfl
    · rfl
    · rfl
    · cases h
  · cases h
section
variable {E : am_E} {M N : am_M} {X : Nat → Nat} {l : Nat}
def gd (X : Nat → Nat) (l : Nat) (M : am_M) (i q : Nat) (vs : Nat → Nat) (N : am_M) : Prop := rT X l q N ∧ rR i vs N ∧ fS S42 M N
/-- a call that reads the number at hand -/
def CS (X : Nat → Nat) (l : Nat) (M N : am_M) (i q : Nat) (vs : Nat → Nat) (C : Nat → Bool) (R : Option (Option am_V × am_M)) : Prop := (nb X l q = none → R = some (some (.inl 0), N)) ∧ ∀ v, nb X l q = some v → (C v = false → R = some (some (.inl 0), N)) ∧ (C v = true → ∃ N1, R = some (some (.inl 1), N1) ∧ gd X l M (i + 1) (tE X l q) (fun x => if x = i then v else vs x) N1)
theorem rx_42 (h : fS S42 M N) (ht : rx X l M) : rx X l N := ⟨(h 25 0 22 rfl).trans ht.1, fun x hx => (h 39 0 x rfl).trans (ht.2 x hx)⟩
theorem rx_40 (h : fS S40 M N) (ht : rx X l M) : rx X l N := ⟨(h 25 0 22 rfl).trans ht.1, fun x hx => (h 39 0 x rfl).trans (ht.2 x hx)⟩
theorem m_number {q i a b : Nat} {vs : Nat → Nat} {C : Nat → Bool} {y1 y2 y3 x4 x5 : Int32} (hl : l ≤ 200) (hX : ∀ x, x < 200 → X x < 256) (ht : rx X l M) (hq : q ≤ l) (hi : i < 4) (h1 : y1 = nI i) (h2 : y2 = nI a) (h3 : y3 = nI b) (ha : a ≤ 9) (hb : b ≤ 9) (hC : ∀ v, v ≤ 9 → (decide (a ≤ v ∧ v ≤ b) && (!decide (nI v = x4) && !decide (nI v = x5))) = C v) (hg : gd X l M i q vs N) : CS X l M N i q vs C (am_run (am_I2 E) mI_Mo_number [.inr (.inl (some (25, 0))), .inl y1, .inl y2, .inl y3, .inl x4, .inl x5] N) := by
  obtain ⟨⟨T3, T4⟩, hR, hf⟩ := hg
  obtain ⟨t1, t2, t3⟩ := tE_le (X := X) hq
  have hS := tS_le (X := X) hq
  have htN := rx_42 hf ht
  subst h1; subst h2; subst h3
  refine ⟨fun hnb => ?_, fun v hnb => ?_⟩
  · rw [rq_Mo_number, T3, htN.1]
    by_cases he : tS X l q = l
    · rw [if_pos (by rw [he])]
    · have hlt : tS X l q < l := by omega
      rw [if_neg (fun z => he ((nI_eq (by omega) (by omega)).mp z)), z_in (by omega) (by omega), z_if, z_ix (by omega), htN.2 _ (by omega), m_isDigit (hX _ (by omega)), z_bI]
      have hk : tK X l q = kd (X (tS X l q)) := by unfold tK eK; rw [if_pos hlt]
      unfold nb at hnb
      by_cases h1 : kd (X (tS X l q)) = 1
      · rw [if_pos (hk.trans h1)] at hnb
        have h2 : ¬ tE X l q - tS X l q = 1 := fun w => by rw [if_pos w] at hnb; cases hnb
        have h3 := t3 hlt
        rw [decide_eq_true h1, aI_t, if_neg z_ne10, T4, T3, pk_sub t1, if_neg (show ¬ nI (tE X l q - tS X l q) ≤ 1 from nI_ge (a := 1) (by omega) (by omega))]
      · rw [decide_eq_false h1, aI_f, if_pos rfl]
  · obtain ⟨n1, n2, n3, n4, n5, n6, n7⟩ := nb_some hnb
    have hk : kd (X (tS X l q)) = 1 := kd_1.mpr ⟨n4, n5⟩
    have hsub : nI (X (tS X l q)) - 48 = nI v := by
      have := pk_sub (a := X (tS X l q)) (b := 48) n4
      rw [n6]
      exact this
    have hCv := hC v n7
    have hne : ¬ nI (tS X l q) = nI l := fun z => by have := (nI_eq (by omega) (by omega)).mp z; omega
    have hle1 : nI (tE X l q - tS X l q) ≤ 1 := by rw [n3]; decide
    have start : am_run (am_I2 E) mI_Mo_number [.inr (.inl (some (25, 0))), .inl (nI i), .inl (nI a), .inl (nI b), .inl x4, .inl x5] N = am_bI (am_run (am_I2 E) mI_Mo_in [.inr (.inr (Int32.toInt64 (nI v))), .inr (.inr (Int32.toInt64 (nI a))), .inr (.inr (Int32.toInt64 (nI b)))] N) (fun v2 M2 => if v2 = 0 then (some (some (.inl 0), M2)) else (if nI v = x4 then (some (some (.inl 0), M2)) else (if nI v = x5 then (some (some (.inl 0), M2)) else (am_bV (am_run (am_I2 E) mI_Mo_nextToken [.inr (.inl (some (25, 0)))] (am_up M2 42 0 i (nI v))) (fun M6 => some (some (.inl 1), M6)))))) := by
      rw [rq_Mo_number, T3, htN.1, if_neg hne, z_in (by omega) (by omega), z_if, z_ix (by omega), htN.2 _ (by omega), m_isDigit (hX _ (by omega)), z_bI, decide_eq_true hk, aI_t, if_neg z_ne10, T4, T3, pk_sub t1, if_pos hle1, z_in (by omega) (by omega), z_if, z_ix (by omega), htN.2 _ (by omega), hsub, z_in (n := 4) hi (by omega), z_ix (u := i) (by omega)]
      rfl
    rw [start]
    by_cases hr : a ≤ v ∧ v ≤ b
    · rw [m_in_s (a := nI a) (b := nI b) rfl rfl (nI_nlt hr.1 (by omega)) (nI_le hr.2 (by omega)), z_bI, if_neg z_ne10]
      rw [decide_eq_true hr, Bool.true_and] at hCv
      by_cases e4 : nI v = x4
      · rw [decide_eq_true e4] at hCv
        rw [if_pos e4]
        exact ⟨fun _ => rfl, fun h => by rw [← hCv] at h; cases h⟩
      · rw [decide_eq_false e4] at hCv
        rw [if_neg e4]
        by_cases e5 : nI v = x5
        · rw [decide_eq_true e5] at hCv
          rw [if_pos e5]
          exact ⟨fun _ => rfl, fun h => by rw [← hCv] at h; cases h⟩
        · rw [decide_eq_false e5] at hCv
          rw [if_neg e5]
          refine ⟨(fun h => by rw [← hCv] at h; cases h), fun _ => ?_⟩
          have hfu : fS S42 M (am_up N 42 0 i (nI v)) := fS_up hf rfl
          obtain ⟨N1, k1, k2, k3, k4⟩ := m_nextToken (E := E) (M := am_up N 42 0 i (nI v)) (q := tE X l q) hl hX (rx_42 hfu ht) t2 T4
          refine ⟨N1, by rw [k1, z_bV], ⟨k3, k4⟩, fun x hx => ?_, fS_tr hfu (fS_mono S23_42 k2)⟩
          rw [k2 42 0 x rfl]
          by_cases e : x = i
          · rw [e, am_up_self]
            show nI v = nI (if i = i then v else vs i)
            rw [if_pos rfl]
          · rw [am_up_ne (Or.inr (Or.inr e))]
            show N 42 0 x = nI (if x = i then v else vs x)
            rw [if_neg e]
            exact hR x (by omega)
    · have hout : nI v < nI a ∨ nI b < nI v := by
        rcases Nat.lt_or_ge v a with w | w
        · exact Or.inl (nI_lt w (by omega))
        · exact Or.inr (nI_lt (by omega) (by omega))
      rw [m_in_n (a := nI a) (b := nI b) rfl rfl hout, z_bI, if_pos rfl]
      rw [decide_eq_false hr, Bool.false_and] at hCv
      exact ⟨fun _ => rfl, fun h => by rw [← hCv] at h; cases h⟩
theorem m_node {q i nn : Nat} {vs ss gg : Nat → Nat} {C : Nat → Bool} {y1 x4 x5 : Int32} (hl : l ≤ 200) (hX : ∀ x, x < 200 → X x < 256) (ht : rx X l M) (hq : q ≤ l) (hi : i < 4) (hb : bd nn ss gg) (hD : N 25 0 25 = nI nn) (h1 : y1 = nI i) (hC : ∀ v, v ≤ 9 → (decide (v < nn) && (!decide (nI v = x4) && !decide (nI v = x5))) = C v) (hg : gd X l M i q vs N) : CS X l M N i q vs C (am_run (am_I2 E) mI_Mo_node [.inr (.inl (some (25, 0))), .inl y1, .inl x4, .inl x5] N) := by
  have hn1 : nI nn - 1 = nI (nn - 1) := nI_dec (by have := hb.1; omega)
  have h := m_number (E := E) (y1 := y1) (y2 := 0) (y3 := nI nn - 1) (x4 := x4) (x5 := x5) (a := 0) (b := nn - 1) (C := C) hl hX ht hq hi h1 rfl hn1 (by omega) (by have := hb.1; omega) (fun v hv => by
    rw [← hC v hv]
    congr 1
    have hb1 := hb.1
    exact decide_eq_decide.mpr ⟨fun w => by omega, fun w => by omega⟩) hg
  rw [rq_Mo_node, hD]
  refine ⟨fun hnb => ?_, fun v hnb => ?_⟩
  · rw [h.1 hnb, z_bI, z_z0, z_if]
  · refine ⟨fun hc => ?_, fun hc => ?_⟩
    · rw [(h.2 v hnb).1 hc, z_bI, z_z0, z_if]
    · obtain ⟨N1, k1, k2⟩ := (h.2 v hnb).2 hc
      exact ⟨N1, by rw [k1, z_bI, z_z1, z_if], k2⟩
/-- what a run of calls leaves -/
def RO (X : Nat → Nat) (l : Nat) (M : am_M) (i : Nat) (r : Bool × (Nat × (Nat → Nat))) (R : Option (Option am_V × am_M)) : Prop := ∃ N', R = some (some (.inl (aI r.1)), N') ∧ rT X l r.2.1 N' ∧ fS S42 M N' ∧ (r.1 = true → rR i r.2.2 N')
theorem rd_step {C : Nat → (Nat → Nat) → Nat → Bool} {j i q : Nat} {vs : Nat → Nat} {R : Option (Option am_V × am_M)} {F : am_M → Option (Option am_V × am_M)} (hg : gd X l M i q vs N) (hc : CS X l M N i q vs (C i vs) R) (hF : ∀ v N1, nb X l q = some v → C i vs v = true → gd X l M (i + 1) (tE X l q) (fun x => if x = i then v else vs x) N1 → RO X l M (i + 1 + j) (rdN X l C j (i + 1) (tE X l q) (fun x => if x = i then v else vs x)) (F N1)) : RO X l M (i + (j + 1)) (rdN X l C (j + 1) i q vs) (am_bI R (fun v M1 => if v = 0 then (some (some (.inl 0), M1)) else F M1)) := by
  obtain ⟨T, hR, hf⟩ := hg
  cases hnb : nb X l q with
  | none =>
    rw [rdN_n hnb, hc.1 hnb, z_bI, if_pos rfl]
    exact ⟨N, rfl, T, hf, fun w => by cases w⟩
  | some v =>
    rw [rdN_s hnb]
    cases hch : C i vs v with
    | false =>
      rw [(hc.2 v hnb).1 hch, z_bI, if_pos rfl, if_neg (by decide)]
      exact ⟨N, rfl, T, hf, fun w => by cases w⟩
    | true =>
      obtain ⟨N1, k1, k2⟩ := (hc.2 v hnb).2 hch
      rw [k1, z_bI, if_neg z_ne10, if_pos rfl]
      have := hF v N1 hnb hch k2
      rw [show i + 1 + j = i + (j + 1) by omega] at this
      exact this
theorem rd_end {C : Nat → (Nat → Nat) → Nat → Bool} {i q : Nat} {vs : Nat → Nat} (hg : gd X l M i q vs N) : RO X l M i (rdN X l C 0 i q vs) (some (some (.inl 1), N)) := ⟨N, rfl, hg.1, hg.2.2, fun _ => hg.2.1⟩
theorem CS_same {i q : Nat} {vs : Nat → Nat} {C : Nat → Bool} {R : Option (Option am_V × am_M)} (h : CS X l M N i q vs C R) : am_bI R (fun v1 M1 => am_if (am_z v1) (some (some (.inl v1), M1))) = am_bI R (fun v M1 => if v = 0 then (some (some (.inl 0), M1) : Option (Option am_V × am_M)) else (some (some (.inl 1), M1))) := by
  cases hnb : nb X l q with
  | none => rw [h.1 hnb, z_bI, z_bI, z_z0, z_if, if_pos rfl]
  | some v =>
    cases hc : C v with
    | false => rw [(h.2 v hnb).1 hc, z_bI, z_bI, z_z0, z_if, if_pos rfl]
    | true =>
      obtain ⟨N1, k1, -⟩ := (h.2 v hnb).2 hc
      rw [k1, z_bI, z_bI, z_z1, z_if, if_neg z_ne10]
theorem m_readsRest {q w nn : Nat} {ss gg vs : Nat → Nat} (hl : l ≤ 200) (hX : ∀ x, x < 200 → X x < 256) (ht : rx X l M) (hq : q ≤ l) (hw : w < 6) (hb : bd nn ss gg) (hD : rD nn ss gg M) (hg : gd X l M 0 q vs N) : RO X l M (cnt w) (rdN X l (chk w nn ss gg) (cnt w) 0 q vs) (am_run (am_I2 E) mI_Mo_readsRest [.inr (.inl (some (25, 0))), .inl (nI w)] N) := by
  have hm1 : ∀ v, v ≤ 9 → decide (nI v = -1) = false := fun v hv => decide_eq_false (nI_m1 (by omega))
  have bA : ∀ a : Bool, (a && (!false && !false)) = a := by decide
  have bB : ∀ a b : Bool, (a && (!b && !false)) = (a && !b) := by decide
  have i04 : am_in 0 4 = true := by decide
  have i14 : am_in 1 4 = true := by decide
  have x0 : am_ix 0 = 0 := by decide
  have x1 : am_ix 1 = 1 := by decide
  have e25 : ∀ {i q vs N}, gd X l M i q vs N → N 25 0 25 = nI nn := fun h => (h.2.2 25 0 25 rfl).trans hD.1
  have e40 : ∀ {i q vs N}, gd X l M i q vs N → ∀ k, k < 3 → N 40 0 k = nI (ss k) ∧ N 41 0 k = nI (gg k) := fun h k hk => ⟨(h.2.2 40 0 k rfl).trans (hD.2 k hk).1, (h.2.2 41 0 k rfl).trans (hD.2 k hk).2⟩
  have dn : ∀ v y : Nat, v ≤ 9 → y ≤ 9 → decide (nI v = nI y) = decide (v = y) := fun v y hv hy => decide_eq_decide.mpr (nI_eq (by omega) (by omega))
  have tEl : ∀ {q}, q ≤ l → tE X l q ≤ l := fun h => (tE_le h).2.1
  -- the first number of the four last words
  have first : ∀ w, 2 ≤ w → w < 6 → ∀ v, v ≤ 9 → (decide (0 ≤ v ∧ v ≤ 2) && (!decide (nI v = -1) && !decide (nI v = -1))) = chk w nn ss gg 0 vs v := by
    intro w h2 h6 v hv
    rw [hm1 v hv]
    have h1 : decide (0 ≤ v ∧ v ≤ 2) = decide (v < 3) := decide_eq_decide.mpr ⟨fun z => by omega, fun z => by omega⟩
    rw [h1]
    have hw' : w = 2 ∨ w = 3 ∨ w = 4 ∨ w = 5 := by omega
    rcases hw' with rfl | rfl | rfl | rfl <;> (show (decide (v < 3) && (!false && !false)) = decide (v < 3); cases decide (v < 3) <;> rfl)
  have hw6 : w = 0 ∨ w = 1 ∨ w = 2 ∨ w = 3 ∨ w = 4 ∨ w = 5 := by omega
  rw [rq_Mo_readsRest]
  rcases hw6 with rfl | rfl | rfl | rfl | rfl | rfl
  · rw [if_pos (by decide)]
    have hcs := m_number (E := E) (i := 0) (vs := vs) (y1 := 0) (y2 := 2) (y3 := 8) (x4 := -1) (x5 := -1) (a := 2) (b := 8) (C := chk 0 nn ss gg 0 vs) hl hX ht hq (by omega) rfl rfl rfl (by omega) (by omega) (fun v hv => by
      rw [hm1 v hv, bA]
      rfl) hg
    have h := rd_step (j := 0) (C := chk 0 nn ss gg) (F := fun N1 => some (some (.inl 1), N1)) hg hcs (fun v N1 _ _ hg1 => rd_end hg1)
    rw [CS_same hcs]
    exact h
  · rw [if_neg (by decide), if_pos (by decide)]
    refine rd_step (j := 2) (C := chk 1 nn ss gg) hg (m_node (E := E) (ss := ss) (gg := gg) (C := chk 1 nn ss gg 0 vs) hl hX ht hq (by omega) hb (e25 hg) rfl (fun v hv => by
      rw [hm1 v hv, bA]
      rfl) hg) (fun v N1 hnb hch hg1 => ?_)
    have hv9 := (nb_some hnb).2.2.2.2.2.2
    have e0 : N1 42 0 0 = nI v := hg1.2.1 0 (by omega)
    rw [i04, z_if, x0]
    refine rd_step (j := 1) (C := chk 1 nn ss gg) hg1 (m_node (E := E) (ss := ss) (gg := gg) (C := chk 1 nn ss gg (0 + 1) _) hl hX ht (tEl hq) (by omega) hb (e25 hg1) rfl (fun v' hv' => by
      rw [hm1 v' hv', e0, dn v' v hv' hv9, bB]
      rfl) hg1) (fun v2 N2 hnb2 hch2 hg2 => ?_)
    refine rd_step (j := 0) (C := chk 1 nn ss gg) hg2 (m_number (E := E) (a := 0) (b := 9) (C := chk 1 nn ss gg (0 + 1 + 1) _) hl hX ht (tEl (tEl hq)) (by omega) rfl rfl rfl (by omega) (by omega) (fun v' hv' => by
      rw [hm1 v' hv', bA, decide_eq_true (show 0 ≤ v' ∧ v' ≤ 9 from ⟨by omega, hv'⟩)]
      rfl) hg2) (fun v3 N3 hnb3 hch3 hg3 => rd_end hg3)
  · rw [if_neg (by decide), if_neg (by decide), if_pos (by decide)]
    refine rd_step (j := 3) (C := chk 2 nn ss gg) hg (m_number (E := E) (a := 0) (b := 2) (C := chk 2 nn ss gg 0 vs) hl hX ht hq (by omega) rfl rfl rfl (by omega) (by omega) (fun v hv => first 2 (by omega) (by omega) v hv) hg) (fun v N1 hnb hch hg1 => ?_)
    refine rd_step (j := 2) (C := chk 2 nn ss gg) hg1 (m_node (E := E) (ss := ss) (gg := gg) (C := chk 2 nn ss gg (0 + 1) _) hl hX ht (tEl hq) (by omega) hb (e25 hg1) rfl (fun v' hv' => by
      rw [hm1 v' hv', bA]
      rfl) hg1) (fun v2 N2 hnb2 hch2 hg2 => ?_)
    have hv9 := (nb_some hnb2).2.2.2.2.2.2
    have e1 : N2 42 0 1 = nI v2 := hg2.2.1 1 (by omega)
    rw [i14, z_if, x1]
    refine rd_step (j := 1) (C := chk 2 nn ss gg) hg2 (m_node (E := E) (ss := ss) (gg := gg) (C := chk 2 nn ss gg (0 + 1 + 1) _) hl hX ht (tEl (tEl hq)) (by omega) hb (e25 hg2) rfl (fun v' hv' => by
      rw [hm1 v' hv', e1, dn v' v2 hv' hv9, bB]
      rfl) hg2) (fun v3 N3 hnb3 hch3 hg3 => ?_)
    refine rd_step (j := 0) (C := chk 2 nn ss gg) hg3 (m_number (E := E) (a := 1) (b := 9) (C := chk 2 nn ss gg (0 + 1 + 1 + 1) _) hl hX ht (tEl (tEl (tEl hq))) (by omega) rfl rfl rfl (by omega) (by omega) (fun v' hv' => by
      rw [hm1 v' hv', bA, show decide (1 ≤ v' ∧ v' ≤ 9) = decide (1 ≤ v') from decide_eq_decide.mpr ⟨fun z => z.1, fun z => ⟨z, hv'⟩⟩]
      rfl) hg3) (fun v4 N4 hnb4 hch4 hg4 => rd_end hg4)
  · rw [if_neg (by decide), if_neg (by decide), if_neg (by decide), if_pos (by decide)]
    refine rd_step (j := 1) (C := chk 3 nn ss gg) hg (m_number (E := E) (a := 0) (b := 2) (C := chk 3 nn ss gg 0 vs) hl hX ht hq (by omega) rfl rfl rfl (by omega) (by omega) (fun v hv => first 3 (by omega) (by omega) v hv) hg) (fun v N1 hnb hch hg1 => ?_)
    have hv3 : v < 3 := of_decide_eq_true hch
    have e0 : N1 42 0 0 = nI v := hg1.2.1 0 (by omega)
    have hs := e40 hg1 v hv3
    have hbk := hb.2 v hv3
    rw [i04, z_if, z_if, x0, e0, z_in hv3 (by omega), z_if, z_if, z_ix (by omega), hs.1, hs.2]
    refine rd_step (j := 0) (C := chk 3 nn ss gg) hg1 (m_node (E := E) (ss := ss) (gg := gg) (C := chk 3 nn ss gg (0 + 1) _) hl hX ht (tEl hq) (by omega) hb (e25 hg1) rfl (fun v' hv' => by
      rw [dn v' _ hv' (by omega), dn v' _ hv' (by omega)]
      show _ = (decide (v' < nn) && (!decide (v' = ss (if 0 = 0 then v else vs 0)) && !decide (v' = gg (if 0 = 0 then v else vs 0))))
      rw [if_pos rfl]) hg1) (fun v2 N2 hnb2 hch2 hg2 => rd_end hg2)
  · rw [if_neg (by decide), if_neg (by decide), if_neg (by decide), if_neg (by decide)]
    refine rd_step (j := 2) (C := chk 4 nn ss gg) hg (m_number (E := E) (a := 0) (b := 2) (C := chk 4 nn ss gg 0 vs) hl hX ht hq (by omega) rfl rfl rfl (by omega) (by omega) (fun v hv => first 4 (by omega) (by omega) v hv) hg) (fun v N1 hnb hch hg1 => ?_)
    have hv3 : v < 3 := of_decide_eq_true hch
    have e0 : N1 42 0 0 = nI v := hg1.2.1 0 (by omega)
    have hs := e40 hg1 v hv3
    have hbk := hb.2 v hv3
    rw [i04, z_if, x0, e0, z_in hv3 (by omega), z_if, z_ix (by omega), hs.2]
    refine rd_step (j := 1) (C := chk 4 nn ss gg) hg1 (m_node (E := E) (ss := ss) (gg := gg) (C := chk 4 nn ss gg (0 + 1) _) hl hX ht (tEl hq) (by omega) hb (e25 hg1) rfl (fun v' hv' => by
      rw [hm1 v' hv', dn v' _ hv' (by omega), bB]
      show _ = (decide (v' < nn) && !decide (v' = gg (if 0 = 0 then v else vs 0)))
      rw [if_pos rfl]) hg1) (fun v2 N2 hnb2 hch2 hg2 => ?_)
    have hv9 := (nb_some hnb2).2.2.2.2.2.2
    have e1 : N2 42 0 1 = nI v2 := hg2.2.1 1 (by omega)
    rw [i14, z_if, x1]
    refine rd_step (j := 0) (C := chk 4 nn ss gg) hg2 (m_node (E := E) (ss := ss) (gg := gg) (C := chk 4 nn ss gg (0 + 1 + 1) _) hl hX ht (tEl (tEl hq)) (by omega) hb (e25 hg2) rfl (fun v' hv' => by
      rw [hm1 v' hv', e1, dn v' v2 hv' hv9, bB]
      rfl) hg2) (fun v3 N3 hnb3 hch3 hg3 => rd_end hg3)
  · rw [if_neg (by decide), if_neg (by decide), if_neg (by decide), if_neg (by decide)]
    refine rd_step (j := 2) (C := chk 5 nn ss gg) hg (m_number (E := E) (a := 0) (b := 2) (C := chk 5 nn ss gg 0 vs) hl hX ht hq (by omega) rfl rfl rfl (by omega) (by omega) (fun v hv => first 5 (by omega) (by omega) v hv) hg) (fun v N1 hnb hch hg1 => ?_)
    have hv3 : v < 3 := of_decide_eq_true hch
    have e0 : N1 42 0 0 = nI v := hg1.2.1 0 (by omega)
    have hs := e40 hg1 v hv3
    have hbk := hb.2 v hv3
    rw [i04, z_if, x0, e0, z_in hv3 (by omega), z_if, z_ix (by omega), hs.2]
    refine rd_step (j := 1) (C := chk 5 nn ss gg) hg1 (m_node (E := E) (ss := ss) (gg := gg) (C := chk 5 nn ss gg (0 + 1) _) hl hX ht (tEl hq) (by omega) hb (e25 hg1) rfl (fun v' hv' => by
      rw [hm1 v' hv', dn v' _ hv' (by omega), bB]
      show _ = (decide (v' < nn) && !decide (v' = gg (if 0 = 0 then v else vs 0)))
      rw [if_pos rfl]) hg1) (fun v2 N2 hnb2 hch2 hg2 => ?_)
    have hv9 := (nb_some hnb2).2.2.2.2.2.2
    have e1 : N2 42 0 1 = nI v2 := hg2.2.1 1 (by omega)
    rw [i14, z_if, x1]
    refine rd_step (j := 0) (C := chk 5 nn ss gg) hg2 (m_node (E := E) (ss := ss) (gg := gg) (C := chk 5 nn ss gg (0 + 1 + 1) _) hl hX ht (tEl (tEl hq)) (by omega) hb (e25 hg2) rfl (fun v' hv' => by
      rw [hm1 v' hv', e1, dn v' v2 hv' hv9, bB]
      rfl) hg2) (fun v3 N3 hnb3 hch3 hg3 => rd_end hg3)
end
