/-! the memory machine's runs are runs of the list machine over the heap that a memory pictures -/
/-- a reference that is in place -/
def am_vq (q : am_K) : Prop := (q.1 < 95 ∧ am_nmT[am_ps q]? = some q) ∨ (95 ≤ q.1 ∧ ((q.1 = 99 ∨ q.1 = 96) → q.2 < 6))
def am_Vv (v : am_V) : Prop := match v with
  | .inr (.inl (some q)) => am_vq q
  | _ => True
def am_VS (st : List am_V) : Prop := ∀ v ∈ st, am_Vv v
def am_VL (ls : am_L) : Prop := ∀ (i : Nat) (v : am_V), ls[i]? = some (some v) → am_Vv v
def am_fv2 (M : am_M) (q : am_K) (f : Nat) : am_V := match am_fk q.1 f with
  | some (.inr k) => .inr (.inl (some (k, q.2)))
  | some (.inl _) => .inl (M q.1 q.2 f)
  | none => .inl 0
def am_ac2 (M : am_M) (q : am_K) (a : Nat × Nat) : am_C := match a.1 with
  | 0 => .inr (.inl (0, (List.range a.2).map (M q.1 q.2)))
  | 1 => .inr (.inl (1, (List.range a.2).map (M q.1 q.2)))
  | 2 => .inr (.inr (2, (List.range a.2).map (fun i => some (4, i))))
  | _ => .inr (.inr (3, (List.range a.2).map (fun i => some (19, am_lx (M q.1 q.2 i)))))
def am_co (M : am_M) (q : am_K) : am_C := match am_kc q.1 with
  | some c => .inl (c, (List.range (am_nf c)).map (am_fv2 M q))
  | none => am_ac2 M q ((am_ka q.1).getD (0, 0))
def am_hp (M : am_M) : am_H := am_nmT.map (am_co M)
theorem am_nm_ok : ∀ q ∈ am_nmT, q.1 < 95 ∧ am_nmT[am_ps q]? = some q := by decide +kernel
theorem am_nm_ps0 : (List.range 69).all (fun i => decide ((am_nmT[i]?).map am_ps = some i)) = true := by decide +kernel
theorem am_nm_ps {i : Nat} {y : am_K} (h : am_nmT[i]? = some y) : am_ps y = i := by
  have hl : i < 69 := (List.getElem?_eq_some_iff.mp h).1
  have h1 := of_decide_eq_true (List.all_eq_true.mp am_nm_ps0 i (List.mem_range.mpr hl))
  rw [h] at h1
  exact Option.some.inj h1
theorem am_hp_at {M : am_M} {q : am_K} (h1 : q.1 < 95) (h2 : am_nmT[am_ps q]? = some q) : (am_hp M)[am_ps q]? = some (am_co M q) := by
  unfold am_hp
  rw [List.getElem?_map, h2]
  rfl
theorem am_hp_hg {M : am_M} {q : am_K} (h1 : q.1 < 95) (h2 : am_nmT[am_ps q]? = some q) : am_hg (am_hp M) q = some (am_co M q) := by
  unfold am_hg
  rw [show Nat.blt q.1 95 = true from Nat.ble_eq_true_of_le h1]
  exact am_hp_at h1 h2
theorem am_set_gen {L : List am_K} {ps : am_K → Nat} (hps : ∀ (i : Nat) (y : am_K), L[i]? = some y → ps y = i) {g g' : am_K → am_C} {q : am_K} (h2 : L[ps q]? = some q) (hm : ∀ y ∈ L, y ≠ q → g' y = g y) : (L.map g).set (ps q) (g' q) = L.map g' := by
  apply List.ext_getElem?
  intro i
  rw [List.getElem?_set, List.length_map, List.getElem?_map, List.getElem?_map]
  by_cases e : ps q = i
  · subst e
    have hl := (List.getElem?_eq_some_iff.mp h2).1
    rw [if_pos rfl, if_pos hl, h2]
    rfl
  · rw [if_neg e]
    cases hy : L[i]? with
    | none => rfl
    | some y =>
      have hne : y ≠ q := by
        intro hyq
        subst hyq
        exact e (hps _ _ hy)
      show some (g y) = some (g' y)
      rw [hm y (List.mem_of_getElem? hy) hne]
/-- a memory that differs in one cell -/
theorem am_hp_set {M M' : am_M} {q : am_K} (h2 : am_nmT[am_ps q]? = some q) (hm : ∀ y ∈ am_nmT, y ≠ q → am_co M' y = am_co M y) : (am_hp M).set (am_ps q) (am_co M' q) = am_hp M' := am_set_gen (L := am_nmT) (ps := am_ps) (g := am_co M) (g' := am_co M') (fun _ _ h => am_nm_ps h) h2 hm
theorem am_up_self (M : am_M) (a b c : Nat) (x : Int32) : am_up M a b c x a b c = x := by
  unfold am_up
  simp [Nat.beq_refl]
theorem am_up_ne {M : am_M} {a b c a' b' c' : Nat} {x : Int32} (h : a' ≠ a ∨ b' ≠ b ∨ c' ≠ c) : am_up M a b c x a' b' c' = M a' b' c' := by
  unfold am_up
  have : (Nat.beq a' a && (Nat.beq c' c && Nat.beq b' b)) = false := by
    rcases h with h | h | h
    · have : Nat.beq a' a = false := by cases hb : Nat.beq a' a with | false => rfl | true => exact absurd (Nat.eq_of_beq_eq_true hb) h
      simp [this]
    · have : Nat.beq b' b = false := by cases hb : Nat.beq b' b with | false => rfl | true => exact absurd (Nat.eq_of_beq_eq_true hb) h
      simp [this]
    · have : Nat.beq c' c = false := by cases hb : Nat.beq c' c with | false => rfl | true => exact absurd (Nat.eq_of_beq_eq_true hb) h
      simp [this]
  rw [this]
theorem am_co_up {M : am_M} {q y : am_K} {c : Nat} {x : Int32} (h : y ≠ q) : am_co (am_up M q.1 q.2 c x) y = am_co M y := by
  have hne : ∀ f, am_up M q.1 q.2 c x y.1 y.2 f = M y.1 y.2 f := fun f => am_up_ne (by
    by_cases h1 : y.1 = q.1
    · by_cases h2 : y.2 = q.2
      · exact absurd (Prod.ext h1 h2) h
      · exact Or.inr (Or.inl h2)
    · exact Or.inl h1)
  have hfun : am_up M q.1 q.2 c x y.1 y.2 = M y.1 y.2 := funext hne
  unfold am_co am_fv2 am_ac2
  rw [hfun]
theorem am_fk_ok : am_nmT.all (fun q => (List.range 41).all (fun f => match am_fk q.1 f with
  | some (.inr k) => Nat.blt k 95 && decide (am_nmT[am_ps (k, q.2)]? = some (k, q.2))
  | _ => true)) = true := by decide +kernel
def am_nfP (k c f : Nat) : Bool := match am_fk k f with
  | none => true
  | some x => Nat.blt f (am_nf c) && (Nat.beq c 12 || (match x with
    | .inl 0 => Nat.beq (am_ty c f) 0
    | .inl 1 => Nat.beq (am_ty c f) 1
    | .inl _ => false
    | .inr _ => true))
theorem am_nfs0 : (List.range 100).all (fun k => match am_kc k with
  | none => true
  | some c => (List.range 41).all (fun f => am_nfP k c f)) = true := by decide +kernel
theorem am_kc_lt {k c : Nat} (h : am_kc k = some c) : k < 100 ∧ (c = 12 ↔ k = 99) ∧ (c < 10 ∨ c = 12) := by
  unfold am_kc at h
  split at h <;> first | (cases h; decide) | cases h
theorem am_fk_lt {k f : Nat} {x : Nat ⊕ Nat} (h : am_fk k f = some x) : f < 41 := by
  unfold am_fk at h
  split at h <;> first | (have h1 := (List.getElem?_eq_some_iff.mp h).1; simp at h1; omega) | cases h
theorem am_nfs {k c f : Nat} {x : Nat ⊕ Nat} (hk : am_kc k = some c) (hf : am_fk k f = some x) : f < am_nf c ∧ (c ≠ 12 → ∀ t, x = .inl t → t < 2 ∧ am_ty c f = t) := by
  have h1 := List.all_eq_true.mp am_nfs0 k (List.mem_range.mpr (am_kc_lt hk).1)
  rw [hk] at h1
  have h2 := List.all_eq_true.mp h1 f (List.mem_range.mpr (am_fk_lt hf))
  unfold am_nfP at h2
  rw [hf] at h2
  simp only [Bool.and_eq_true, Bool.or_eq_true] at h2
  refine ⟨Nat.le_of_ble_eq_true h2.1, fun hc t hx => ?_⟩
  subst hx
  rcases h2.2 with h3 | h3
  · exact absurd (Nat.eq_of_beq_eq_true h3) hc
  · rcases t with _ | _ | t
    · exact ⟨by omega, Nat.eq_of_beq_eq_true h3⟩
    · exact ⟨by omega, Nat.eq_of_beq_eq_true h3⟩
    · cases h3
theorem am_ac20 (M : am_M) (q : am_K) (n : Nat) : am_ac2 M q (0, n) = .inr (.inl (0, (List.range n).map (M q.1 q.2))) := rfl
theorem am_ac21 (M : am_M) (q : am_K) (n : Nat) : am_ac2 M q (1, n) = .inr (.inl (1, (List.range n).map (M q.1 q.2))) := rfl
theorem am_ac22 (M : am_M) (q : am_K) (n : Nat) : am_ac2 M q (2, n) = .inr (.inr (2, (List.range n).map (fun i => some (4, i)))) := rfl
theorem am_ac23 (M : am_M) (q : am_K) (n : Nat) : am_ac2 M q (3, n) = .inr (.inr (3, (List.range n).map (fun i => some (19, am_lx (M q.1 q.2 i))))) := rfl
theorem am_kc_ka {k c : Nat} (h : am_kc k = some c) : am_ka k = none := by
  unfold am_kc at h
  split at h <;> first | rfl | cases h
theorem am_rng {α : Type} {n i : Nat} (f : Nat → α) (h : i < n) : ((List.range n).map f)[i]? = some (f i) := by
  rw [List.getElem?_map, List.getElem?_range h]
  rfl
theorem am_rngD {α : Type} {n i : Nat} (f : Nat → α) (d : α) (h : i < n) : ((List.range n).map f).getD i d = f i := by
  rw [List.getD_eq_getElem?_getD, am_rng f h]
  rfl
theorem am_rng_set {α : Type} {n i : Nat} (f g : Nat → α) (h : i < n) (hg : ∀ j, j < n → j ≠ i → g j = f j) : ((List.range n).map f).set i (g i) = (List.range n).map g := by
  apply List.ext_getElem?
  intro j
  rw [List.getElem?_set, List.length_map, List.length_range, List.getElem?_map, List.getElem?_map]
  by_cases hj : j < n
  · rw [List.getElem?_range hj]
    by_cases e : i = j
    · subst e
      rw [if_pos rfl, if_pos h]
      rfl
    · rw [if_neg e]
      show some (f j) = some (g j)
      rw [hg j hj (Ne.symm e)]
  · rw [List.getElem?_eq_none (by rw [List.length_range]; omega)]
    by_cases e : i = j
    · omega
    · rw [if_neg e]
      rfl
theorem am_gf_sim {M : am_M} {q : am_K} {ci f : Nat} {v : am_V} (hv : am_vq q) (h : am_gf2 M q ci f = some v) : am_gf1 (am_hp M) q ci f = some v ∧ am_Vv v := by
  unfold am_gf2 at h
  cases hk : am_kc q.1 with
  | none => rw [hk] at h; cases h
  | some c =>
    rw [hk] at h
    dsimp only at h
    cases hc : Nat.beq c ci with
    | false => rw [hc] at h; cases h
    | true =>
      rw [hc] at h
      dsimp only at h
      have hci := Nat.eq_of_beq_eq_true hc
      subst hci
      obtain ⟨k1, k2, k3⟩ := am_kc_lt hk
      cases hf : am_fk q.1 f with
      | none => rw [hf] at h; cases h
      | some x =>
        rw [hf] at h
        have hf41 := am_fk_lt hf
        have hnf : f < am_nf c := by
          exact (am_nfs hk hf).1
        rcases hv with ⟨h95, hat⟩ | ⟨h95, h6⟩
        · have hn99 : ¬ c = 12 := fun w => by have := k2.mp w; omega
          have hg : am_gf1 (am_hp M) q c f = some (am_fv2 M q f) := by
            unfold am_gf1
            rw [show Nat.beq q.1 99 = false from by cases hb : Nat.beq q.1 99 with | false => rfl | true => have := Nat.eq_of_beq_eq_true hb; omega]
            dsimp only
            rw [am_hp_hg h95 hat]
            unfold am_co
            rw [hk]
            dsimp only
            rw [show Nat.beq c c = true from Nat.beq_refl c]
            exact am_rng _ hnf
          have h3 := (am_nfs hk hf).2 hn99
          rcases x with x | k
          · rcases x with _ | _ | x
            · cases h
              exact ⟨by rw [hg]; unfold am_fv2; rw [hf], trivial⟩
            · cases h
              exact ⟨by rw [hg]; unfold am_fv2; rw [hf], trivial⟩
            · have := (h3 _ rfl).1; omega
          · cases h
            refine ⟨by rw [hg]; unfold am_fv2; rw [hf], Or.inl ?_⟩
            have h4 := List.all_eq_true.mp (List.all_eq_true.mp am_fk_ok q (List.mem_of_getElem? hat)) f (List.mem_range.mpr hf41)
            rw [hf] at h4
            simp only [Bool.and_eq_true] at h4
            exact ⟨Nat.le_of_ble_eq_true h4.1, of_decide_eq_true h4.2⟩
        · have hq99 : q.1 = 99 := by
            unfold am_kc at hk
            split at hk <;> first | omega | cases hk
          have hc12 := k2.mpr hq99
          subst hc12
          have hq6 := h6 (Or.inl hq99)
          rw [hq99] at hf
          unfold am_gf1
          rw [hq99, show Nat.beq 99 99 = true from rfl]
          dsimp only
          rw [show (Nat.beq 12 12 && Nat.blt q.2 6) = true by rw [show Nat.blt q.2 6 = true from Nat.ble_eq_true_of_le hq6]; rfl]
          dsimp only
          rcases f with _ | _ | f
          · cases hf
            cases h
            exact ⟨rfl, Or.inr ⟨by show 95 ≤ 96; omega, fun _ => hq6⟩⟩
          · cases hf
            cases h
            exact ⟨rfl, trivial⟩
          · cases hf
theorem am_pf_sim {M : am_M} {q : am_K} {ci f : Nat} {v : am_V} (hv : am_vq q) (h : (am_pf2 M q ci f v).1 = true) : (am_pf1 (am_hp M) q ci f v).1 = true ∧ (am_pf1 (am_hp M) q ci f v).2 = am_hp (am_pf2 M q ci f v).2 := by
  unfold am_pf2 at h ⊢
  cases hk : am_kc q.1 with
  | none => rw [hk] at h; cases h
  | some c =>
    rw [hk] at h
    dsimp only at h ⊢
    cases hc : Nat.beq c ci with
    | false => rw [hc] at h; cases h
    | true =>
      rw [hc] at h
      dsimp only at h ⊢
      have hci := Nat.eq_of_beq_eq_true hc
      subst hci
      obtain ⟨k1, k2, k3⟩ := am_kc_lt hk
      have core : ∀ (t : Nat) (x : Int32), am_fk q.1 f = some (.inl t) → t < 2 → v = .inl x → am_ft t (.inl x) = true → (am_pf1 (am_hp M) q c f (.inl x)).1 = true ∧ (am_pf1 (am_hp M) q c f (.inl x)).2 = am_hp (am_up M q.1 q.2 f x) := by
        intro t x hf ht hvx hft
        have hf41 := am_fk_lt hf
        have hnf : f < am_nf c := by
          exact (am_nfs hk hf).1
        rcases hv with ⟨h95, hat⟩ | ⟨h95, h6⟩
        · have hn99 : ¬ c = 12 := fun w => by have := k2.mp w; omega
          have hty : am_ty c f = t := ((am_nfs hk hf).2 hn99 t rfl).2
          have hco : am_co (am_up M q.1 q.2 f x) q = .inl (c, ((List.range (am_nf c)).map (am_fv2 M q)).set f (.inl x)) := by
            have hx2 : am_fv2 (am_up M q.1 q.2 f x) q f = .inl x := by unfold am_fv2; rw [hf]; show Sum.inl (am_up M q.1 q.2 f x q.1 q.2 f) = _; rw [am_up_self]
            have h9 := am_rng_set (am_fv2 M q) (am_fv2 (am_up M q.1 q.2 f x) q) hnf (fun j hj hji => by
              unfold am_fv2
              rw [am_up_ne (Or.inr (Or.inr hji))])
            rw [hx2] at h9
            unfold am_co
            rw [hk]
            dsimp only
            rw [h9]
          unfold am_pf1
          rw [am_hp_hg h95 hat, show am_co M q = .inl (c, (List.range (am_nf c)).map (am_fv2 M q)) by unfold am_co; rw [hk]]
          dsimp only
          refine ⟨?_, ?_⟩
          · rw [show Nat.beq c c = true from Nat.beq_refl c, hty, hft, List.length_map, List.length_range, show Nat.blt f (am_nf c) = true from Nat.ble_eq_true_of_le hnf]
            rfl
          · rw [← hco]
            exact am_hp_set hat (fun y _ hy => am_co_up hy)
        · exfalso
          have hq99 : q.1 = 99 := by
            unfold am_kc at hk
            split at hk <;> first | omega | cases hk
          rw [hq99] at hf
          rcases f with _ | _ | f
          · cases hf
          · cases hf; omega
          · cases hf
      rcases hf : am_fk q.1 f with _ | (_ | _ | t) | k
      · rw [hf] at h; cases h
      · rw [hf] at h
        rcases v with x | v
        · exact core 0 x hf (by omega) rfl rfl
        · cases h
      · rw [hf] at h
        rcases v with x | v
        · exact core 1 x hf (by omega) rfl h
        · cases h
      · rw [hf] at h; cases h
      · rw [hf] at h; cases h
theorem am_ka_lt {k : Nat} {a : Nat × Nat} (h : am_ka k = some a) : k < 95 ∧ am_kc k = none ∧ a.1 < 4 ∧ (a.1 = 2 → a.2 = 3) := by
  unfold am_ka at h
  split at h <;> first | (cases h; decide) | cases h
theorem am_co_ka {M : am_M} {q : am_K} {a : Nat × Nat} (h : am_ka q.1 = some a) : am_co M q = am_ac2 M q a := by
  unfold am_co
  rw [(am_ka_lt h).2.1, h]
  rfl
theorem am_vq_w {q : am_K} (hv : am_vq q) (h : q.1 < 95) : am_nmT[am_ps q]? = some q := by
  rcases hv with ⟨-, h1⟩ | ⟨h1, -⟩
  · exact h1
  · omega
theorem am_lx_lt (x : Int32) : am_lx x < 12 := Nat.mod_lt _ (by omega)
theorem am_v4 : ∀ i, i < 3 → am_nmT[am_ps (4, i)]? = some (4, i) := by decide
theorem am_v19 : ∀ i, i < 12 → am_nmT[am_ps (19, i)]? = some (19, i) := by decide
theorem am_al_sim {E : am_E} {M : am_M} {ty : Nat} {q : am_K} {j : Int32} (hv : am_vq q) (h : (am_al2 E M ty q j).1 = true) : (am_al1 E (am_hp M) ty q j).1 = true ∧ (am_al1 E (am_hp M) ty q j).2 = (am_al2 E M ty q j).2 ∧ am_Vv (am_al2 E M ty q j).2 := by
  by_cases h98 : q.1 = 98
  · have e1 : am_al1 E (am_hp M) ty q j = am_al2 E M ty q j := by unfold am_al1 am_al2; rw [h98]; try rfl
    rw [e1]
    refine ⟨h, rfl, ?_⟩
    unfold am_al2; rw [h98]; exact trivial
  by_cases h97 : q.1 = 97
  · have e1 : am_al1 E (am_hp M) ty q j = am_al2 E M ty q j := by unfold am_al1 am_al2; rw [h97]; try rfl
    rw [e1]
    refine ⟨h, rfl, ?_⟩
    unfold am_al2; rw [h97]; exact trivial
  by_cases h96 : q.1 = 96
  · have hq6 : q.2 < 6 := by
      rcases hv with ⟨h1, -⟩ | ⟨-, h1⟩
      · omega
      · exact h1 (Or.inr h96)
    have e1 : am_al1 E (am_hp M) ty q j = am_al2 E M ty q j := by
      unfold am_al1 am_al2; rw [h96]
      show (Nat.blt q.2 6 && _, _) = _
      rw [show Nat.blt q.2 6 = true from Nat.ble_eq_true_of_le hq6]
      rfl
    rw [e1]
    refine ⟨h, rfl, ?_⟩
    unfold am_al2; rw [h96]; exact trivial
  have e2 : am_al2 E M ty q j = (match am_ka q.1 with
    | some (0, n) => (Nat.beq ty 0 && am_in j n, .inl (M q.1 q.2 (am_ix j)))
    | some (1, n) => (Nat.beq ty 1 && am_in j n, .inl (M q.1 q.2 (am_ix j)))
    | some (2, n) => (Nat.beq ty 2 && am_in j n, .inr (.inl (some (4, am_ix j))))
    | some (3, n) => (Nat.beq ty 2 && am_in j n, .inr (.inl (some (19, am_lx (M q.1 q.2 (am_ix j))))))
    | _ => (false, .inl 0)) := by
    unfold am_al2
    split <;> first | omega | rfl
  have e1 : am_al1 E (am_hp M) ty q j = (match am_hg (am_hp M) q with
    | some (.inr (.inl (t, l))) => (Nat.blt t 2 && (Nat.beq ty t && am_in j l.length), .inl (l.getD (am_ix j) 0))
    | some (.inr (.inr (t, l))) => (Nat.beq ty 2 && (am_in j l.length && ((Nat.beq t 2 || Nat.beq t 3) && am_kq (l.getD (am_ix j) none))), .inr (.inl (l.getD (am_ix j) none)))
    | _ => (false, .inl 0)) := by
    unfold am_al1
    split <;> first | omega | rfl
  rw [e2] at h ⊢
  rw [e1]
  rcases ha : am_ka q.1 with _ | ⟨t, n⟩
  · rw [ha] at h; cases h
  · obtain ⟨a1, a2, a3, a4⟩ := am_ka_lt ha
    have hat := am_vq_w hv a1
    rw [am_hp_hg a1 hat, am_co_ka ha]
    rw [ha] at h
    rcases t with _ | _ | _ | _ | t
    · rw [show am_ac2 M q (0, n) = _ from am_ac20 M q n]
      dsimp only at h ⊢
      simp only [Bool.and_eq_true] at h
      have hlt := am_in_lt h.2
      rw [List.length_map, List.length_range, h.1, h.2, am_rngD _ _ hlt]
      exact ⟨rfl, rfl, trivial⟩
    · rw [show am_ac2 M q (0 + 1, n) = _ from am_ac21 M q n]
      dsimp only at h ⊢
      simp only [Bool.and_eq_true] at h
      have hlt := am_in_lt h.2
      rw [List.length_map, List.length_range, h.1, h.2, am_rngD _ _ hlt]
      exact ⟨rfl, rfl, trivial⟩
    · rw [show am_ac2 M q (0 + 1 + 1, n) = _ from am_ac22 M q n]
      dsimp only at h ⊢
      simp only [Bool.and_eq_true] at h
      have hlt := am_in_lt h.2
      have hn3 : n = 3 := a4 rfl
      rw [List.length_map, List.length_range, h.1, h.2, am_rngD _ _ hlt]
      exact ⟨rfl, rfl, Or.inl ⟨by show 4 < 95; omega, am_v4 _ (by omega)⟩⟩
    · rw [show am_ac2 M q (0 + 1 + 1 + 1, n) = _ from am_ac23 M q n]
      dsimp only at h ⊢
      simp only [Bool.and_eq_true] at h
      have hlt := am_in_lt h.2
      rw [List.length_map, List.length_range, h.1, h.2, am_rngD _ _ hlt]
      exact ⟨rfl, rfl, Or.inl ⟨by show 19 < 95; omega, am_v19 _ (am_lx_lt _)⟩⟩
    · omega
theorem am_as_sim {M : am_M} {ty : Nat} {q : am_K} {j : Int32} {v : am_V} (hv : am_vq q) (hvv : am_Vv v) (h : (am_as2 M ty q j v).1 = true) : (am_as1 (am_hp M) ty q j v).1 = true ∧ (am_as1 (am_hp M) ty q j v).2 = am_hp (am_as2 M ty q j v).2 := by
  unfold am_as2 at h ⊢
  rcases ha : am_ka q.1 with _ | ⟨t, n⟩
  · rw [ha] at h; cases h
  · rw [ha] at h
    obtain ⟨a1, a2, a3, a4⟩ := am_ka_lt ha
    have hat := am_vq_w hv a1
    have hup : ∀ (x : Int32), am_ix j < n → ((List.range n).map (M q.1 q.2)).set (am_ix j) x = (List.range n).map ((am_up M q.1 q.2 (am_ix j) x) q.1 q.2) := by
      intro x hlt
      have h9 := am_rng_set (M q.1 q.2) ((am_up M q.1 q.2 (am_ix j) x) q.1 q.2) hlt (fun i _ hi => am_up_ne (Or.inr (Or.inr hi)))
      rw [am_up_self] at h9
      exact h9
    unfold am_as1
    rw [am_hp_hg a1 hat, am_co_ka ha]
    rcases t with _ | _ | _ | _ | t
    · rcases v with x | v
      · rw [show am_ac2 M q (0, n) = _ from am_ac20 M q n]
        dsimp only at h ⊢
        simp only [Bool.and_eq_true] at h
        have hlt := am_in_lt h.2
        rw [List.length_map, List.length_range, h.1, h.2]
        refine ⟨rfl, ?_⟩
        rw [hup x hlt]
        show _ = am_hp (am_up M q.1 q.2 (am_ix j) x)
        rw [← am_hp_set (M' := am_up M q.1 q.2 (am_ix j) x) hat (fun y _ hy => am_co_up hy), am_co_ka ha]
        rfl
      · cases h
    · rcases v with x | v
      · rw [show am_ac2 M q (0 + 1, n) = _ from am_ac21 M q n]
        dsimp only at h ⊢
        simp only [Bool.and_eq_true] at h
        have hlt := am_in_lt h.2.1
        rw [List.length_map, List.length_range, h.1, h.2.1, show am_ft (0 + 1) (.inl x) = true from h.2.2]
        refine ⟨rfl, ?_⟩
        rw [hup x hlt]
        show _ = am_hp (am_up M q.1 q.2 (am_ix j) x)
        rw [← am_hp_set (M' := am_up M q.1 q.2 (am_ix j) x) hat (fun y _ hy => am_co_up hy), am_co_ka ha]
        rfl
      · cases h
    · cases h
    · rcases v with x | (_ | ⟨ky, iy⟩) | x
      · cases h
      · cases h
      · have hky : ky = 19 := by
          by_cases hk : ky = 19
          · exact hk
          · exfalso
            have h : (match (Sum.inr (Sum.inl (some (ky, iy))) : am_V) with | .inr (.inl (some (19, j'))) => (Nat.beq ty 2 && am_in j n, am_up M q.1 q.2 (am_ix j) (Int32.ofNat j')) | _ => (false, M)).1 = true := h
            revert h
            split
            · rename_i e; cases e; exact fun _ => hk rfl
            · intro h; cases h
        subst hky
        rw [show am_ac2 M q (0 + 1 + 1 + 1, n) = _ from am_ac23 M q n]
        dsimp only at h ⊢
        simp only [Bool.and_eq_true] at h
        have hlt := am_in_lt h.2
        have hyv : am_vq (19, iy) := hvv
        have hyat := am_vq_w hyv (by show 19 < 95; omega)
        have hiy : iy < 12 := by
          have hmem := List.mem_of_getElem? hyat
          have : ∀ q ∈ am_nmT, q.1 = 19 → q.2 < 12 := by decide
          exact this _ hmem rfl
        have hoc : am_oc (am_hp M) (19, iy) (am_ec (0 + 1 + 1 + 1)) = true := by
          unfold am_oc
          rw [am_hp_hg (by show 19 < 95; omega) hyat]
          rfl
        rw [List.length_map, List.length_range, h.1, h.2, hoc]
        refine ⟨rfl, ?_⟩
        have hlx : am_lx (Int32.ofNat iy) = iy := by
          unfold am_lx
          rw [Int32.toNatClampNeg_ofNat_of_lt (by omega)]
          omega
        have h9 : ((List.range n).map (fun i => some ((19 : Nat), am_lx (M q.1 q.2 i)))).set (am_ix j) (some (19, iy)) = (List.range n).map (fun i => some ((19 : Nat), am_lx ((am_up M q.1 q.2 (am_ix j) (Int32.ofNat iy)) q.1 q.2 i))) := by
          have h8 := am_rng_set (fun i => some ((19 : Nat), am_lx (M q.1 q.2 i))) (fun i => some ((19 : Nat), am_lx ((am_up M q.1 q.2 (am_ix j) (Int32.ofNat iy)) q.1 q.2 i))) hlt (fun i _ hi => by rw [am_up_ne (Or.inr (Or.inr hi))])
          rw [am_up_self, hlx] at h8
          exact h8
        rw [h9]
        show _ = am_hp (am_up M q.1 q.2 (am_ix j) (Int32.ofNat iy))
        rw [← am_hp_set (M' := am_up M q.1 q.2 (am_ix j) (Int32.ofNat iy)) hat (fun y _ hy => am_co_up hy), am_co_ka ha]
        rfl
      · cases h
    · omega
theorem am_ln_sim {E : am_E} {M : am_M} {q : am_K} {x : Int32} (hv : am_vq q) (h : am_ln2 E M q = some x) : am_ln1 E (am_hp M) q = some x := by
  by_cases h98 : q.1 = 98
  · unfold am_ln2 at h; unfold am_ln1; rw [h98] at h ⊢; exact h
  by_cases h97 : q.1 = 97
  · unfold am_ln2 at h; unfold am_ln1; rw [h97] at h ⊢; exact h
  by_cases h96 : q.1 = 96
  · have hq6 : q.2 < 6 := by
      rcases hv with ⟨h1, -⟩ | ⟨-, h1⟩
      · omega
      · exact h1 (Or.inr h96)
    unfold am_ln2 at h; unfold am_ln1; rw [h96] at h ⊢
    show (match Nat.blt q.2 6 with | true => some (Int32.ofNat (am_wd.getD q.2 []).length) | false => none) = _
    rw [show Nat.blt q.2 6 = true from Nat.ble_eq_true_of_le hq6]
    exact h
  have e2 : am_ln2 E M q = (match am_ka q.1 with
    | some (_, n) => some (Int32.ofNat n)
    | none => none) := by
    unfold am_ln2
    split <;> first | omega | rfl
  have e1 : am_ln1 E (am_hp M) q = (match am_hg (am_hp M) q with
    | some (.inr (.inl (t, l))) => (match Nat.blt t 2 with
      | true => some (Int32.ofNat l.length)
      | false => none)
    | some (.inr (.inr (t, l))) => (match Nat.beq t 2 || Nat.beq t 3 with
      | true => some (Int32.ofNat l.length)
      | false => none)
    | _ => none) := by
    unfold am_ln1
    split <;> first | omega | rfl
  rw [e2] at h
  rw [e1]
  rcases ha : am_ka q.1 with _ | ⟨t, n⟩
  · rw [ha] at h; cases h
  · rw [ha] at h
    cases h
    obtain ⟨a1, a2, a3, a4⟩ := am_ka_lt ha
    rw [am_hp_hg a1 (am_vq_w hv a1), am_co_ka ha]
    rcases t with _ | _ | _ | _ | t
    · rw [show am_ac2 M q (0, n) = _ from am_ac20 M q n]; dsimp only; rw [List.length_map, List.length_range]; rfl
    · rw [show am_ac2 M q (0 + 1, n) = _ from am_ac21 M q n]; dsimp only; rw [List.length_map, List.length_range]; rfl
    · rw [show am_ac2 M q (0 + 1 + 1, n) = _ from am_ac22 M q n]; dsimp only; rw [List.length_map, List.length_range]; rfl
    · rw [show am_ac2 M q (0 + 1 + 1 + 1, n) = _ from am_ac23 M q n]; dsimp only; rw [List.length_map, List.length_range]; rfl
    · omega
theorem am_kl_sim {M : am_M} {q : am_K} {ci : Nat} (hv : am_vq q) (h : am_kl2 M q = some ci) : am_kl1 (am_hp M) q = some ci := by
  have h : am_kc q.1 = some ci := h
  obtain ⟨k1, k2, k3⟩ := am_kc_lt h
  unfold am_kl1
  by_cases h99 : q.1 = 99
  · have hq6 : q.2 < 6 := by
      rcases hv with ⟨h1, -⟩ | ⟨-, h1⟩
      · omega
      · exact h1 (Or.inl h99)
    rw [h99, show Nat.beq 99 99 = true from rfl]
    dsimp only
    rw [show Nat.blt q.2 6 = true from Nat.ble_eq_true_of_le hq6, k2.mpr h99]
  · rw [show Nat.beq q.1 99 = false from by cases hb : Nat.beq q.1 99 with | false => rfl | true => exact absurd (Nat.eq_of_beq_eq_true hb) h99]
    dsimp only
    have h95 : q.1 < 95 := by
      unfold am_kc at h
      split at h <;> first | omega | cases h
    rw [am_hp_hg h95 (am_vq_w hv h95)]
    unfold am_co
    rw [h]
