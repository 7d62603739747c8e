/-! room on a walk, what holds -/
/-- all links of a list are so -/
def pr2 (Q : Nat → Prop) : List Nat → Prop
  | a :: b :: l => Q (8 * a + b) ∧ pr2 Q (b :: l)
  | _ => True
theorem pr2_nx {Q : Nat → Prop} : ∀ {l : List Nat}, l.Nodup → (pr2 Q l ↔ ∀ u v, nx l u = some v → Q (8 * u + v)) := by
  intro l
  induction l with
  | nil => intro _; exact ⟨fun _ u v h => (by cases h), fun _ => trivial⟩
  | cons a l ih =>
    intro hd
    cases l with
    | nil => exact ⟨fun _ u v h => (by cases h), fun _ => trivial⟩
    | cons b l =>
      rw [List.nodup_cons] at hd
      have ih2 := ih hd.2
      constructor
      · intro h u v hv
        have hv2 : (if u = a then some b else nx (b :: l) u) = some v := hv
        by_cases e : u = a
        · rw [if_pos e] at hv2
          cases hv2
          rw [e]
          exact h.1
        · rw [if_neg e] at hv2
          exact ih2.mp h.2 u v hv2
      · intro h
        refine ⟨h a b (by show (if a = a then some b else _) = some b; rw [if_pos rfl]), ih2.mpr (fun u v hv => h u v ?_)⟩
        show (if u = a then some b else nx (b :: l) u) = some v
        rw [if_neg (fun w => hd.1 (by rw [← w]; exact (nx_mem hv).1))]
        exact hv
/-- room for a flow of a size on a link, others weighing so much -/
def rmQ (B : am_M) (z : Nat) (W : Nat → Nat) (x : Nat) : Prop := z + W x ≤ (B 2 0 x).toNatClampNeg
section
variable {E : am_E} {M B : am_M} {c : Nat}
theorem c_hasRoom {n z : Nat} {L : List Nat} {W : Nat → Nat} (hN : iN n B) (hR : iR B) (hf : fr B M) (hz : z ≤ 9) (hW : ∀ x, W x ≤ 27) (hd : L.Nodup) (hL : ∀ y, y ∈ L → y < n) (h10 : ∀ u, u < 8 → M 10 0 u = oI (nx L u)) (h11 : ∀ x, x < 64 → M 11 0 x = nI (W x)) : am_run (am_I2 E) mI_Ju_pathHasRoom [.inr (.inl (some (8, 0))), .inl (nI z)] M = some (some (.inl (aI (pb (pr2 (rmQ B z W) L)))), M) := by
  obtain ⟨hn, hN1, hN2⟩ := hN
  have eN : M 1 0 0 = nI n := (hf 1 0 0 rfl).trans hN1
  rw [pb_congr (pr2_nx hd), rq_Ju_pathHasRoom]
  have key : ∀ j i u3, i + j = 8 → (∀ u v, u < i → nx L u = some v → rmQ B z W (8 * u + v)) → am_ex (am_I2 E) mI_Ju_pathHasRoom 2 [some (.inr (.inl (some (8, 0)))), some (.inl (nI z)), some (.inl (nI i)), u3] [] M = some (some (.inl (aI (pb (∀ u v, nx L u = some v → rmQ B z W (8 * u + v))))), M) := by
    intro j
    induction j with
    | zero =>
      intro i u3 hi h
      have h8 : ¬ nI i < 8 := nI_nlt (b := 8) (by omega) (by omega)
      rw [eq_Ju_pathHasRoom_2, if_neg h8, pb_t (fun u v hv => h u v (by have := hL u (nx_mem hv).1; omega) hv)]
      rfl
    | succ j ih =>
      intro i u3 hi h
      have h8 : nI i < 8 := nI_lt (b := 8) (by omega) (by omega)
      rw [eq_Ju_pathHasRoom_2, if_pos h8, z_in (by omega) (by omega), z_if, z_ix (by omega), h10 i (by omega), nI_1]
      cases hnx : nx L i with
      | none =>
        rw [oI_none, if_pos rfl]
        refine ih (i + 1) _ (by omega) (fun u v hu hv => ?_)
        by_cases e : u = i
        · rw [e, hnx] at hv; cases hv
        · exact h u v (by omega) hv
      | some v =>
        have hi2 := hL i (nx_mem hnx).1
        have hv2 := hL v (nx_mem hnx).2
        obtain ⟨r, hr, r1, -⟩ := hR (8 * i + v) (by omega)
        have e2 : M 2 0 (8 * i + v) = nI r := (hf 2 0 _ rfl).trans r1
        have hWx := hW (8 * i + v)
        rw [oI_some, if_neg (nI_m1 (by omega)), rq_Ju_weightAt, c_isNode_s eN hn.2 hi2, z_bI, if_neg z_ne10, c_isNode_s eN hn.2 hv2, z_bI, if_neg z_ne10, z_mul8, z_in (by omega) (by omega), z_if, z_ix (by omega), z_bI, c_roomAt_s eN hn.2 hi2 hv2, z_bI, Nat.mul_comm i 8, h11 _ (by omega), e2, nI_add]
        have hq : rmQ B z W (8 * i + v) ↔ z + W (8 * i + v) ≤ r := by
          unfold rmQ
          rw [r1, nI_clamp (by omega)]
        by_cases e : z + W (8 * i + v) ≤ r
        · rw [if_pos (nI_le e (by omega))]
          refine ih (i + 1) _ (by omega) (fun u v' hu hv => ?_)
          by_cases eu : u = i
          · subst eu
            rw [hnx] at hv
            cases hv
            exact hq.mpr e
          · exact h u v' (by omega) hv
        · rw [if_neg (nI_ge (by omega) (by omega)), pb_f (fun w => e (hq.mp (w i v hnx)))]
          rfl
  exact key 8 0 none rfl (fun u v hu => absurd hu (by omega))
theorem m_isRoom {n z k : Nat} {L : List Nat} {W : Nat → Nat} (hk : k < 3) (hR : iR B) (hf : fr B M) (hz : z ≤ 9) (h29 : M 29 0 k = nI z) (hW : ∀ x, W x ≤ 27) (hn : n ≤ 8) (hL : ∀ y, y ∈ L → y < n) (hlen : 1 ≤ L.length ∧ L.length ≤ 8) (h44 : ∀ i, i < L.length → M 44 0 i = nI (L.getD i 0)) (h33 : M 25 0 33 = nI L.length) (h46 : ∀ x, x < 64 → M 46 0 x = nI (W x)) : am_run (am_I2 E) mI_Mo_isRoom [.inr (.inl (some (25, 0))), .inl (nI k)] M = some (some (.inl (aI (pb (pr2 (rmQ B z W) L)))), M) := by
  rw [rq_Mo_isRoom]
  have key : ∀ (l : List Nat) (a i : Nat) (b : Bool) u4, (∀ y, y ∈ a :: l → y < n) → i + (a :: l).length = L.length → (∀ y, y < (a :: l).length → M 44 0 (i + y) = nI ((a :: l).getD y 0)) → am_ex (am_I2 E) mI_Mo_isRoom 4 [some (.inr (.inl (some (25, 0)))), some (.inl (nI k)), some (.inl (aI b)), some (.inl (nI (i + 1))), u4] [] M = some (some (.inl (aI (b && pb (pr2 (rmQ B z W) (a :: l))))), M) := by
    intro l
    induction l with
    | nil =>
      intro a i b u4 h8 hi h
      have hz : am_z (aI b) = true := by cases b <;> decide
      simp only [List.length_cons, List.length_nil] at hi
      rw [eq_Mo_isRoom_4, h33, if_neg (nI_nlt (by omega) (by omega)), hz, z_if, pb_t (show pr2 (rmQ B z W) [a] from trivial), Bool.and_true]
    | cons d l ih =>
      intro a i b u4 h8 hi h
      have ha : a < n := h8 a (by simp)
      have hd : d < n := h8 d (by simp)
      have e0 : M 44 0 i = nI a := h 0 (by simp)
      have e1 : M 44 0 (i + 1) = nI d := h 1 (by simp)
      simp only [List.length_cons] at hi
      obtain ⟨r, hr, r1, r2⟩ := hR (8 * a + d) (by omega)
      have e2 : M 26 0 (8 * a + d) = nI r := (hf 26 0 _ rfl).trans r2
      have hWx := hW (8 * a + d)
      have hq : rmQ B z W (8 * a + d) ↔ z + W (8 * a + d) ≤ r := by
        unfold rmQ
        rw [r1, nI_clamp (by omega)]
      have go : ∀ b' : Bool, b' = (b && pb (rmQ B z W (8 * a + d))) → ∀ u4', am_ex (am_I2 E) mI_Mo_isRoom 4 [some (.inr (.inl (some (25, 0)))), some (.inl (nI k)), some (.inl (aI b')), some (.inl (nI (i + 1 + 1))), u4'] [] M = some (some (.inl (aI (b && pb (pr2 (rmQ B z W) (a :: d :: l))))), M) := by
        intro b' hb' u4'
        rw [ih d (i + 1) b' u4' (fun y hy => h8 y (List.mem_cons_of_mem _ hy)) (by simp only [List.length_cons]; omega) (fun y hy => by
          have := h (y + 1) (by simp only [List.length_cons] at hy ⊢; omega)
          rw [show i + 1 + y = i + (y + 1) by omega]
          exact this), hb', Bool.and_assoc]
        congr 5
        by_cases p1 : rmQ B z W (8 * a + d)
        · by_cases p2 : pr2 (rmQ B z W) (d :: l)
          · rw [pb_t p1, pb_t p2, pb_t (show pr2 (rmQ B z W) (a :: d :: l) from ⟨p1, p2⟩)]; rfl
          · rw [pb_t p1, pb_f p2, pb_f (fun w => p2 (show pr2 (rmQ B z W) (a :: d :: l) from w).2)]; rfl
        · rw [pb_f p1, pb_f (fun w => p1 (show pr2 (rmQ B z W) (a :: d :: l) from w).1)]; rfl
      rw [eq_Mo_isRoom_4, h33, if_pos (nI_lt (by omega) (by omega)), nI_pred, z_in (by omega) (by omega), z_if, z_in (by omega) (by omega), z_if, z_ix (by omega), z_ix (by omega), e0, e1, z_8mul, nI_1]
      cases b with
      | false =>
        rw [aI_f, if_pos rfl]
        exact go false rfl _
      | true =>
        rw [aI_t, if_neg z_ne10, z_in (by omega) (by omega), z_if, z_in hk (by omega), z_if, z_if, z_ix (by omega), z_ix (by omega), h46 _ (by omega), h29, e2, nI_add]
        by_cases e : z + W (8 * a + d) ≤ r
        · rw [if_pos (nI_le (by omega) (by omega))]
          exact go true (by rw [pb_t (hq.mpr e)]; rfl) _
        · rw [if_neg (nI_ge (by omega) (by omega))]
          exact go false (by rw [pb_f (fun w => e (hq.mp w))]; rfl) _
  cases L with
  | nil => simp at hlen
  | cons a l =>
    have := key l a 0 true none hL (by simp) (fun y hy => by rw [Nat.zero_add]; exact h44 y hy)
    rw [Bool.true_and] at this
    exact this
end
