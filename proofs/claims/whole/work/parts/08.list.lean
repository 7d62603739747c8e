/-! the heap as a list of cells, its operations; what of the machine's state it pictures -/
abbrev am_C : Type := (Nat × List am_V) ⊕ ((Nat × List Int32) ⊕ (Nat × List (Option am_K)))
abbrev am_H : Type := List am_C
/-- the place of a cell: in the order in which they are made -/
def am_ps (q : am_K) : Nat := match q.1 with
  | 0 => 0
  | 1 => 1
  | 2 => 2
  | 3 => 3
  | 4 => 4 + 4 * q.2
  | 5 => 5 + 4 * q.2
  | 6 => 6 + 4 * q.2
  | 7 => 7 + 4 * q.2
  | 8 => 16
  | 9 => 17
  | 10 => 18
  | 11 => 19
  | 12 => 20
  | 13 => 21
  | 14 => 22
  | 15 => 23
  | 16 => 24
  | 17 => 25
  | 18 => 26
  | 19 => 27 + q.2
  | 20 => 39
  | 21 => 40
  | 22 => 41
  | 23 => 42
  | 24 => 43
  | 25 => 44
  | 26 => 45
  | 27 => 46
  | 28 => 47
  | 29 => 48
  | 30 => 49
  | 31 => 50
  | 32 => 51
  | 33 => 52
  | 34 => 53
  | 35 => 54
  | 36 => 55
  | 37 => 56
  | 38 => 57
  | 39 => 58
  | 40 => 59
  | 41 => 60
  | 42 => 61
  | 43 => 62
  | 44 => 63
  | 45 => 64
  | 46 => 65
  | 47 => 66
  | 48 => 67
  | 49 => 68
  | _ => 1000
def am_nmT : List am_K := [(0, 0), (1, 0), (2, 0), (3, 0), (4, 0), (5, 0), (6, 0), (7, 0), (4, 1), (5, 1), (6, 1), (7, 1), (4, 2), (5, 2), (6, 2), (7, 2), (8, 0), (9, 0), (10, 0), (11, 0), (12, 0), (13, 0), (14, 0), (15, 0), (16, 0), (17, 0), (18, 0), (19, 0), (19, 1), (19, 2), (19, 3), (19, 4), (19, 5), (19, 6), (19, 7), (19, 8), (19, 9), (19, 10), (19, 11), (20, 0), (21, 0), (22, 0), (23, 0), (24, 0), (25, 0), (26, 0), (27, 0), (28, 0), (29, 0), (30, 0), (31, 0), (32, 0), (33, 0), (34, 0), (35, 0), (36, 0), (37, 0), (38, 0), (39, 0), (40, 0), (41, 0), (42, 0), (43, 0), (44, 0), (45, 0), (46, 0), (47, 0), (48, 0), (49, 0)]
def am_nm (n : Nat) : am_K := am_nmT.getD n (95, 0)
def am_tyT (ci : Nat) : List Nat := match ci with
  | 0 => [0, 0, 0, 0, 2, 2, 0, 0, 2, 0, 0]
  | 1 => [2, 2, 2]
  | 2 => [0, 0, 0, 0, 0, 1, 1, 1]
  | 3 => [2, 2, 0, 0, 0, 0, 0]
  | 4 => [0, 0, 0, 2, 2]
  | 5 => [0, 0, 1, 2]
  | 6 => [2, 2, 0, 0, 2, 2, 2, 2]
  | 7 => [2, 2, 0, 0, 0, 0, 2, 0, 0, 2, 2]
  | 8 => [2, 2, 2, 2, 2]
  | 9 => [0, 2, 2, 2, 2, 2, 2, 2, 0, 0, 2, 2, 2, 2, 2, 2, 0, 0, 0, 0, 0, 2, 0, 0, 0, 0, 2, 2, 0, 1, 2, 2, 2, 0, 0, 1, 2, 2, 2, 2, 2]
  | _ => []
/-- what a field takes: 0 int, 1 boolean, 2 reference -/
def am_ty (ci f : Nat) : Nat := (am_tyT ci).getD f 9
def am_dv (t : Nat) : am_V := match t with
  | 2 => .inr (.inl none)
  | _ => .inl 0
def am_df (ci : Nat) : List am_V := (am_tyT ci).map am_dv
def am_ft (ty : Nat) (v : am_V) : Bool := match ty, v with
  | 0, .inl _ => true
  | 1, .inl x => am_z x
  | 2, .inr (.inl none) => true
  | 2, .inr (.inl (some q)) => Nat.blt q.1 95
  | _, _ => false
def am_hg (h : am_H) (q : am_K) : Option am_C := match Nat.blt q.1 95 with
  | true => h[am_ps q]?
  | false => none
def am_gf1 (h : am_H) (q : am_K) (ci f : Nat) : Option am_V := match Nat.beq q.1 99 with
  | true => match Nat.beq ci 12 && Nat.blt q.2 6 with
    | true => match f with
      | 0 => some (.inr (.inl (some (96, q.2))))
      | 1 => some (.inl 0)
      | _ => none
    | false => none
  | false => match am_hg h q with
    | some (.inl (c, fs)) => match Nat.beq c ci with
      | true => fs[f]?
      | false => none
    | _ => none
def am_pf1 (h : am_H) (q : am_K) (ci f : Nat) (v : am_V) : Bool × am_H := match am_hg h q with
  | some (.inl (c, fs)) => (Nat.beq c ci && (Nat.blt f fs.length && am_ft (am_ty ci f) v), h.set (am_ps q) (.inl (c, fs.set f v)))
  | _ => (false, h)
def am_kq (o : Option am_K) : Bool := match o with
  | some q => Nat.blt q.1 95
  | none => true
def am_al1 (E : am_E) (h : am_H) (ty : Nat) (q : am_K) (i : Int32) : Bool × am_V := match q.1 with
  | 98 => (Nat.beq ty 0 && am_in i 18, .inl (am_or.getD (am_ix i) 0))
  | 97 => (Nat.beq ty 0 && am_in i E.1, .inl (E.2 (am_ix i)))
  | 96 => (Nat.blt q.2 6 && (Nat.beq ty 1 && am_in i (am_wd.getD q.2 []).length), .inl ((am_wd.getD q.2 []).getD (am_ix i) 0))
  | _ => match am_hg h q with
    | some (.inr (.inl (t, l))) => (Nat.blt t 2 && (Nat.beq ty t && am_in i l.length), .inl (l.getD (am_ix i) 0))
    | some (.inr (.inr (t, l))) => (Nat.beq ty 2 && (am_in i l.length && ((Nat.beq t 2 || Nat.beq t 3) && am_kq (l.getD (am_ix i) none))), .inr (.inl (l.getD (am_ix i) none)))
    | _ => (false, .inl 0)
/-- the class that the elements of an array of references have -/
def am_ec (t : Nat) : Nat := match t with
  | 2 => 0
  | _ => 2
def am_oc (h : am_H) (q : am_K) (ci : Nat) : Bool := match am_hg h q with
  | some (.inl (c, _)) => Nat.beq c ci
  | _ => false
def am_as1 (h : am_H) (ty : Nat) (q : am_K) (i : Int32) (v : am_V) : Bool × am_H := match am_hg h q with
  | some (.inr (.inl (t, l))) => match v with
    | .inl x => (Nat.beq ty t && (am_in i l.length && am_ft t v), h.set (am_ps q) (.inr (.inl (t, l.set (am_ix i) x))))
    | _ => (false, h)
  | some (.inr (.inr (t, l))) => match v with
    | .inr (.inl (some q')) => (Nat.beq ty 2 && (am_in i l.length && ((Nat.beq t 2 || Nat.beq t 3) && am_oc h q' (am_ec t))), h.set (am_ps q) (.inr (.inr (t, l.set (am_ix i) (some q')))))
    | _ => (false, h)
  | _ => (false, h)
def am_ln1 (E : am_E) (h : am_H) (q : am_K) : Option Int32 := match q.1 with
  | 98 => some 18
  | 97 => some (Int32.ofNat E.1)
  | 96 => match Nat.blt q.2 6 with
    | true => some (Int32.ofNat (am_wd.getD q.2 []).length)
    | false => none
  | _ => match am_hg h q with
    | some (.inr (.inl (t, l))) => match Nat.blt t 2 with
      | true => some (Int32.ofNat l.length)
      | false => none
    | some (.inr (.inr (t, l))) => match Nat.beq t 2 || Nat.beq t 3 with
      | true => some (Int32.ofNat l.length)
      | false => none
    | _ => none
def am_kl1 (h : am_H) (q : am_K) : Option Nat := match Nat.beq q.1 99 with
  | true => match Nat.blt q.2 6 with
    | true => some 12
    | false => none
  | false => match am_hg h q with
    | some (.inl (c, _)) => some c
    | _ => none
def am_fr (h : am_H) : Bool := Nat.beq (am_ps (am_nm h.length)) h.length && Nat.blt (am_nm h.length).1 95
def am_nw1 (h : am_H) (ci : Nat) : Option (am_K × am_H) := match am_fr h && Nat.blt ci 10 with
  | true => some (am_nm h.length, h ++ [.inl (ci, am_df ci)])
  | false => none
def am_nc1 (t n : Nat) : am_C := match Nat.blt t 2 with
  | true => .inr (.inl (t, List.replicate n 0))
  | false => .inr (.inr (t, List.replicate n none))
def am_na1 (h : am_H) (t : Nat) (x : Int32) : Bool × (am_K × am_H) := (am_fr h && (Nat.blt t 4 && am_in x 1000), (am_nm h.length, h ++ [am_nc1 t (am_ix x)]))
def am_I1 (E : am_E) : am_O am_H := (am_gf1, am_pf1, am_al1 E, am_as1, am_ln1 E, am_kl1, am_nw1, am_na1)
/-- how many slots a cell takes -/
def am_sc (c : am_C) : Nat := match c with
  | .inl (_, fs) => fs.length
  | .inr (.inl (_, l)) => l.length
  | .inr (.inr (_, l)) => l.length
def am_sl (h : am_H) : Nat := (h.map am_sc).sum
/-- THE PLACE z: the first address, ORDERS, the script, the six words and their bytes, the formatter, the classes of arrays, the classes' numbers and slots, the script's ints -/
abbrev am_N : Type := Nat × Nat × Nat × (Nat → Nat) × (Nat → Nat) × Value × (Nat → ClassId) × va_G × am_E
abbrev az_fv (z : am_N) : Value := z.2.2.2.2.2.1
abbrev az_cA (z : am_N) : Nat → ClassId := z.2.2.2.2.2.2.1
abbrev az_D (z : am_N) : va_G := z.2.2.2.2.2.2.2.1
abbrev az_E (z : am_N) : am_E := z.2.2.2.2.2.2.2.2
abbrev az_A (z : am_N) : Nat → Prop := fun q => z.1 ≤ q
def am_ad (z : am_N) (q : am_K) : Nat := match q.1 with
  | 99 => z.2.2.2.1 q.2
  | 98 => z.2.1
  | 97 => z.2.2.1
  | 96 => z.2.2.2.2.1 q.2
  | _ => z.1 + am_ps q
def am_vl (z : am_N) (v : am_V) : Value := match v with
  | .inl x => .int x
  | .inr (.inl none) => .null
  | .inr (.inl (some q)) => match Nat.beq q.1 95 with
    | true => az_fv z
    | false => .ref (am_ad z q)
  | .inr (.inr x) => .long x
def am_te (z : am_N) (c : am_C) : va_E := match c with
  | .inl (ci, fs) => .inr (ci, fs.map (am_vl z))
  | .inr (.inl (t, l)) => .inl (az_cA z t, l.length, .inl (fun j => l.getD j 0))
  | .inr (.inr (t, l)) => .inl (az_cA z t, l.length, .inr (.inr (.inr (.inr (fun j => (l.getD j none).map (am_ad z))))))
def am_pi1 (z : am_N) (h : am_H) : va_W := h.mapIdx (fun n c => (z.1 + n, am_te z c))
def am_W (z : am_N) (h : am_H) (H : Heap) : Prop := H.size = z.1 + h.length ∧ va_P (az_D z) am_cl0 (am_pi1 z h) H
def am_tys (z : am_N) : List (ClassId × FieldType) := [(az_cA z 0, .int), (az_cA z 1, .boolean), (az_cA z 2, .object "MixedRules$Flow"), (az_cA z 3, .object "MixedRules$Letter")]
def am_nest : List (String × Nat × MethodName) := [("MixedRules$Flow", 50, ⟨"MixedRules", "isPlace", "(II)Z"⟩), ("MixedRules$Mail", 21, ⟨"MixedRules$Letter", "<init>", "()V"⟩), ("MixedRules$Mail", 38, ⟨"MixedRules", "isPlace", "(II)Z"⟩), ("MixedRules$Net", 39, ⟨"MixedRules", "isPlace", "(II)Z"⟩), ("MixedRules$Planner", 66, ⟨"MixedRules", "isPlace", "(II)Z"⟩), ("MixedRules$Reader", 32, ⟨"MixedRules", "isPlace", "(II)Z"⟩)]
def am_six : List (Nat × String) := [(116, "net"), (117, "link"), (119, "flow"), (121, "post"), (123, "old"), (125, "new")]
def am_wl : List Nat := [3, 4, 4, 4, 3, 3]
/-- what stays of the machine's state: tables, constants, the script -/
def am_Xt (z : am_N) (U : State) : Prop :=
  va_K (az_D z) am_cl0 (am_tys z) U ∧ (∀ w ∈ am_nest, va_Nw (.methodLinkNest w.1 w.2.1 w.2.2 "MixedRules") U) ∧
  vk_S 6 am_wl am_wd z.2.2.2.1 z.2.2.2.2.1 (az_A z) U U.heap ∧ (∀ i q, am_six[i]? = some q → vk_R "MixedRules$Reader" q.1 q.2 (z.2.2.2.1 i) U) ∧
  va_Z "MixedRules" "ORDERS" "[I" (.ref z.2.1) (az_A z) U U.heap ∧ va_T .int z.2.1 18 (fun j => .int (am_or.getD j 0)) (az_A z) U U.heap ∧
  va_Z "java/lang/String" "COMPACT_STRINGS" "Z" (.int 1) (az_A z) U U.heap ∧ va_Z "jdk/internal/util/Preconditions" "SIOOBE_FORMATTER" "Ljava/util/function/BiFunction;" (az_fv z) (az_A z) U U.heap ∧
  va_AO "MixedRules$Flow" U ∧ va_AO "MixedRules$Letter" U ∧ va_X z.2.2.1 (az_E z).1 (az_E z).2 U U.heap ∧ z.2.2.1 < z.1 ∧ z.1 ≤ U.heap.size ∧ (az_fv z = .null ∨ ∃ a, az_fv z = .ref a)
theorem am_Xt_go {z : am_N} {s U : State} {locs : List Loc} (h : am_Xt z s) (hW : s.WarmedH U.vm) (hS : va_S (az_A z) s.heap U.heap locs) : am_Xt z U := by
  obtain ⟨h1, h2, h3, h4, h5, h6, h7, h8, h9, h10, h11, h12, h13, h14⟩ := h
  have hb : z.2.2.1 < s.heap.size := by omega
  refine ⟨va_K.moved hW.alike h1, fun w hw => (h2 w hw).warmM hW, vk_S.moved hW.alike (h3.kept hS.2.1), fun i q hi => (h4 i q hi).warm hW, va_Z.moved hW.alike (h5.kept hS.2.1), va_T.moved hW.alike (h6.kept hS.2.1), va_Z.moved hW.alike (h7.kept hS.2.1), va_Z.moved hW.alike (h8.kept hS.2.1), va_AO.moved hW.alike h9, va_AO.moved hW.alike h10, va_X.moved hW.alike (h11.kept (hS.2.1 _ hb (Nat.not_le.mpr h12))), h12, Nat.le_trans h13 hS.1, h14⟩
theorem am_Xt_call {z : am_N} {U : State} {g : JFrame} {mk : MethodId} {a : Array Value} (h : am_Xt z U) : am_Xt z (U.calling g mk a) := by
  have e1 : (U.calling g mk a).heap = U.heap := rfl
  exact am_Xt_go (locs := []) h (State.WarmedH.refl U) va_S.rf
-- pictures: reading, writing, making
theorem am_pi_at {z : am_N} {h : am_H} {n : Nat} {c : am_C} (e : h[n]? = some c) : (am_pi1 z h)[n]? = some (z.1 + n, am_te z c) := by
  unfold am_pi1
  rw [List.getElem?_mapIdx, e]
  rfl
theorem am_pi_D (z : am_N) (h : am_H) : va_D (az_A z) (am_pi1 z h) := by
  refine ⟨fun i j p q hi hj e => ?_, fun k q hk => ?_⟩
  · unfold am_pi1 at hi hj
    rw [List.getElem?_mapIdx] at hi hj
    cases h1 : h[i]? with
    | none => rw [h1] at hi; cases hi
    | some c =>
      cases h2 : h[j]? with
      | none => rw [h2] at hj; cases hj
      | some d =>
        rw [h1] at hi; rw [h2] at hj
        cases hi; cases hj
        have : z.1 + i = z.1 + j := e
        omega
  · unfold am_pi1 at hk
    rw [List.getElem?_mapIdx] at hk
    cases h1 : h[k]? with
    | none => rw [h1] at hk; cases hk
    | some c =>
      rw [h1] at hk
      cases hk
      show z.1 ≤ z.1 + k
      omega
theorem am_pi_set (z : am_N) (h : am_H) (n : Nat) (c : am_C) : (am_pi1 z h).set n (z.1 + n, am_te z c) = am_pi1 z (h.set n c) := by
  apply List.ext_getElem?
  intro i
  unfold am_pi1
  rw [List.getElem?_mapIdx, List.getElem?_set, List.getElem?_set, List.length_mapIdx, List.getElem?_mapIdx]
  by_cases e : n = i
  · subst e
    simp only [if_true]
    by_cases hl : n < h.length
    · simp [hl]
    · simp [hl]
  · simp [e]
theorem am_pi_app (z : am_N) (h : am_H) (c : am_C) : am_pi1 z (h ++ [c]) = am_pi1 z h ++ [(z.1 + h.length, am_te z c)] := by
  unfold am_pi1
  rw [List.mapIdx_append]
  simp
theorem am_sl_set {h : am_H} {n : Nat} {c c' : am_C} (e : h[n]? = some c) (hc : am_sc c' = am_sc c) : am_sl (h.set n c') = am_sl h := by
  unfold am_sl
  rw [List.map_set, hc]
  congr 1
  apply List.ext_getElem?
  intro i
  rw [List.getElem?_set]
  by_cases q : n = i
  · subst q
    obtain ⟨hl, e2⟩ := List.getElem?_eq_some_iff.mp e
    simp [hl, e2]
  · simp [q]
theorem am_sl_app (h : am_H) (c : am_C) : am_sl (h ++ [c]) = am_sl h + am_sc c := by
  unfold am_sl
  simp
