/-! the machine's rows hold of the JVM: words, classes, locals, what touches locals and stack alone -/
def lw_G : List Cond := lw_tbl.filter goodWord
theorem lw_G_in {w : Cond} (h : w ∈ lw_tbl) (hg : goodWord w = true) : w ∈ lw_G := List.mem_filter.mpr ⟨h, hg⟩
theorem am_lk_mem {α : Type} {l : List (Nat × α)} {i : Nat} {x : α} (h : am_lk l i = some x) : (i, x) ∈ l := by
  induction l with
  | nil => cases h
  | cons a l ih =>
    obtain ⟨b, y⟩ := a
    unfold am_lk at h
    cases hb : Nat.beq b i with
    | true =>
      rw [hb] at h
      have := Nat.eq_of_beq_eq_true hb
      subst this
      cases h
      exact List.mem_cons_self
    | false =>
      rw [hb] at h
      exact List.mem_cons_of_mem _ (ih h)
theorem am_cmF {o i kd c na : Nat} (h : am_cm o i = some (kd, c, na)) : am_cmP o (i, (kd, c, na)) = true ∧ am_cmQ (i, (kd, c, na)) = true := by
  have hm := am_lk_mem h
  have key : (fun e => am_cmP o e && am_cmQ e) (i, (kd, c, na)) = true := by
    match o, hm with
    | 0, hm => exact List.all_eq_true.mp am_cm_ok0 _ hm
    | 1, hm => exact List.all_eq_true.mp am_cm_ok1 _ hm
    | 2, hm => exact List.all_eq_true.mp am_cm_ok2 _ hm
    | 3, hm => exact List.all_eq_true.mp am_cm_ok3 _ hm
    | 4, hm => exact List.all_eq_true.mp am_cm_ok4 _ hm
    | 5, hm => exact List.all_eq_true.mp am_cm_ok5 _ hm
    | 6, hm => exact List.all_eq_true.mp am_cm_ok6 _ hm
    | 7, hm => exact List.all_eq_true.mp am_cm_ok7 _ hm
    | 8, hm => exact List.all_eq_true.mp am_cm_ok8 _ hm
    | 9, hm => exact List.all_eq_true.mp am_cm_ok9 _ hm
    | 10, hm => cases hm
    | 11, hm => cases hm
    | 12, hm => exact List.all_eq_true.mp am_cm_ok12 _ hm
    | 13, hm => exact List.all_eq_true.mp am_cm_ok13 _ hm
    | 14, hm => exact List.all_eq_true.mp am_cm_ok14 _ hm
    | 15, hm => cases hm
    | n + 16, hm => cases hm
  exact (Bool.and_eq_true _ _).mp key |>.imp id id
theorem am_cfF {o i ci f : Nat} (h : am_cf o i = some (ci, f)) : Cond.fieldLink (am_cn o) i (am_cn ci) (am_fn ci f).1 (am_fn ci f).2 ∈ lw_tbl ∧ f < am_nf ci := by
  have hm := am_lk_mem h
  have key : (fun e : Nat × (Nat × Nat) => am_cfP o e (am_fn e.2.1 e.2.2) && Nat.blt e.2.2 (am_nf e.2.1)) (i, (ci, f)) = true := by
    match o, hm with
    | 0, hm => exact List.all_eq_true.mp am_cf_ok0 _ hm
    | 1, hm => exact List.all_eq_true.mp am_cf_ok1 _ hm
    | 2, hm => exact List.all_eq_true.mp am_cf_ok2 _ hm
    | 3, hm => exact List.all_eq_true.mp am_cf_ok3 _ hm
    | 4, hm => exact List.all_eq_true.mp am_cf_ok4 _ hm
    | 5, hm => exact List.all_eq_true.mp am_cf_ok5 _ hm
    | 6, hm => exact List.all_eq_true.mp am_cf_ok6 _ hm
    | 7, hm => exact List.all_eq_true.mp am_cf_ok7 _ hm
    | 8, hm => exact List.all_eq_true.mp am_cf_ok8 _ hm
    | 9, hm => exact List.all_eq_true.mp am_cf_ok9 _ hm
    | 10, hm => cases hm
    | 11, hm => cases hm
    | 12, hm => exact List.all_eq_true.mp am_cf_ok12 _ hm
    | 13, hm => cases hm
    | 14, hm => cases hm
    | 15, hm => cases hm
    | n + 16, hm => cases hm
  simp only [Bool.and_eq_true] at key
  obtain ⟨k1, k2⟩ := key
  refine ⟨?_, Nat.le_of_ble_eq_true k2⟩
  unfold am_cfP at k1
  dsimp only at k1
  cases hp : am_lk (am_pfT o) i with
  | none => rw [hp] at k1; cases k1
  | some p => rw [hp] at k1; exact am_wi_in k1
theorem am_ccF {o i ci : Nat} (h : am_cc o i = some ci) : Cond.classLink (am_cn o) i (am_cn ci) ∈ lw_tbl := by
  have hm := am_lk_mem h
  have key : (match am_lk (am_pcT o) i with | none => false | some p => am_wi p (.classLink (am_cn o) i (am_cn ci))) = true := by
    match o, hm with
    | 0, hm => cases hm
    | 1, hm => exact List.all_eq_true.mp am_cc_ok1 _ hm
    | 2, hm => cases hm
    | 3, hm => exact List.all_eq_true.mp am_cc_ok3 _ hm
    | 4, hm => exact List.all_eq_true.mp am_cc_ok4 _ hm
    | 5, hm => cases hm
    | 6, hm => cases hm
    | 7, hm => cases hm
    | 8, hm => exact List.all_eq_true.mp am_cc_ok8 _ hm
    | 9, hm => cases hm
    | 10, hm => cases hm
    | 11, hm => cases hm
    | 12, hm => cases hm
    | 13, hm => cases hm
    | 14, hm => exact List.all_eq_true.mp am_cc_ok14 _ hm
    | 15, hm => cases hm
    | n + 16, hm => cases hm
  cases hp : am_lk (am_pcT o) i with
  | none => rw [hp] at key; cases key
  | some p => rw [hp] at key; exact am_wi_in key
def am_T (ci : Nat) : u_T := match ci with
  | 0 => TX0
  | 1 => TX1
  | 2 => TX2
  | 3 => TX3
  | 4 => TX4
  | 5 => TX5
  | 6 => TX6
  | 7 => TX7
  | 8 => TX8
  | _ => TX9
def am_tyF (ci : Nat) : Nat → FieldType := match ci with
  | 0 => tyX0
  | 1 => tyX1
  | 2 => tyX2
  | 3 => tyX3
  | 4 => tyX4
  | 5 => tyX5
  | 6 => tyX6
  | 7 => tyX7
  | 8 => tyX8
  | _ => tyX9
/-- what a field of a type takes -/
def am_tt (t : Nat) (ty : FieldType) : Bool := match t, ty with
  | 0, .int => true
  | 1, .boolean => true
  | 2, .object _ => true
  | 2, .array _ => true
  | _, _ => false
theorem am_tts : (List.range 10).all (fun ci => (List.range (am_nf ci)).all (fun k => am_tt (am_ty ci k) (am_tyF ci k) && Nat.beq (am_tyT ci).length (am_nf ci))) = true := by decide +kernel
/-- the facts of a class -/
theorem am_cls {ci : Nat} (h : ci < 10) : am_cl0[ci]? = some (am_cn ci, am_T ci, am_nf ci) ∧ (∀ w ∈ u_ws (am_cn ci) (am_T ci) (am_nf ci), w ∈ lw_G) ∧ (∀ k, k < am_nf ci → parseFieldDescriptor (am_T ci k).2.2.1 = some (am_tyF ci k)) ∧ (∀ a, a < am_nf ci → ∀ b, b < am_nf ci → a ≠ b → (am_T ci a).2.1 ≠ (am_T ci b).2.1) ∧ (∀ k, k < am_nf ci → am_ff ci k = (am_T ci k).2.2.2 ∧ (am_T ci k).1 = am_cn ci) ∧ ∀ k, am_fn ci k = ((am_T ci k).2.1, (am_T ci k).2.2.1) := by
  have lays : ∀ {C : String} {T : u_T} {N : Nat} {g : Nat → Nat}, (List.range N).all (fun k => am_wi (g k) (u_lay C T k) && goodWord (u_lay C T k)) = true → ∀ w ∈ u_ws C T N, w ∈ lw_G := by
    intro C T N g hg w hw
    obtain ⟨k, hk, rfl⟩ := List.mem_map.mp hw
    have h1 := List.all_eq_true.mp hg k hk
    simp only [Bool.and_eq_true] at h1
    exact lw_G_in (am_wi_in h1.1) h1.2
  have flags : ∀ {i N : Nat} {T : u_T}, (List.range N).all (fun k => decide (am_ff i k = (T k).2.2.2 ∧ (T k).1 = am_cn i)) = true → ∀ k, k < N → am_ff i k = (T k).2.2.2 ∧ (T k).1 = am_cn i := fun hg k hk => of_decide_eq_true (List.all_eq_true.mp hg k (List.mem_range.mpr hk))
  match ci, h with
  | 0, _ => exact ⟨rfl, lays am_py0, tyX0_ok, nmX0, flags am_fl0, fun _ => rfl⟩
  | 1, _ => exact ⟨rfl, lays am_py1, tyX1_ok, nmX1, flags am_fl1, fun _ => rfl⟩
  | 2, _ => exact ⟨rfl, lays am_py2, tyX2_ok, nmX2, flags am_fl2, fun _ => rfl⟩
  | 3, _ => exact ⟨rfl, lays am_py3, tyX3_ok, nmX3, flags am_fl3, fun _ => rfl⟩
  | 4, _ => exact ⟨rfl, lays am_py4, tyX4_ok, nmX4, flags am_fl4, fun _ => rfl⟩
  | 5, _ => exact ⟨rfl, lays am_py5, tyX5_ok, nmX5, flags am_fl5, fun _ => rfl⟩
  | 6, _ => exact ⟨rfl, lays am_py6, tyX6_ok, nmX6, flags am_fl6, fun _ => rfl⟩
  | 7, _ => exact ⟨rfl, lays am_py7, tyX7_ok, nmX7, flags am_fl7, fun _ => rfl⟩
  | 8, _ => exact ⟨rfl, lays am_py8, tyX8_ok, nmX8, flags am_fl8, fun _ => rfl⟩
  | 9, _ => exact ⟨rfl, lays am_py9, tyX9_ok, nmX9, flags am_fl9, fun _ => rfl⟩
-- locals
def am_ll (z : am_N) (ls : am_L) : List (Nat × Value) := ls.zipIdx.filterMap (fun q => q.1.map fun v => (q.2, am_vl z v))
theorem am_ll_mem {z : am_N} {ls : am_L} {q : Nat × Value} : q ∈ am_ll z ls ↔ ∃ v, ls[q.1]? = some (some v) ∧ am_vl z v = q.2 := by
  unfold am_ll
  rw [List.mem_filterMap]
  constructor
  · rintro ⟨⟨o, i⟩, h1, h2⟩
    have h3 := List.mk_mem_zipIdx_iff_getElem?.mp h1
    cases o with
    | none => cases h2
    | some v =>
      cases h2
      exact ⟨v, h3, rfl⟩
  · rintro ⟨v, h1, h2⟩
    exact ⟨(some v, q.1), List.mk_mem_zipIdx_iff_getElem?.mpr h1, by simp [h2]⟩
def am_Lr (z : am_N) (nL : Nat) (ls : am_L) (lsJ : Array Slot) : Prop := ls.length = nL ∧ lv_has lsJ nL (am_ll z ls) ∧ ∀ (i : Nat) (v : am_V), ls[i]? = some (some v) → (am_vl z v).category = 1
theorem am_Lr_get {z : am_N} {nL j : Nat} {ls : am_L} {lsJ : Array Slot} {v : am_V} (h : am_Lr z nL ls lsJ) (e : ls.getD j none = some v) : lsJ[j]? = some (.val (am_vl z v)) := by
  refine h.2.1.2.2 (j, am_vl z v) (am_ll_mem.mpr ⟨v, ?_, rfl⟩)
  rw [List.getD_eq_getElem?_getD] at e
  cases h1 : ls[j]? with
  | none => rw [h1] at e; cases e
  | some o => rw [h1] at e; simp only [Option.getD_some] at e; rw [e]
theorem am_Lr_set {z : am_N} {nL j : Nat} {ls : am_L} {lsJ ls' : Array Slot} {v : am_V} (h : am_Lr z nL ls lsJ) (hc : (am_vl z v).category = 1) (h' : lv_has ls' nL ((j, am_vl z v) :: (am_ll z ls).filter (fun q => !(q.1 == j) && !(q.1 + 1 == j && q.2.category == 2)))) : am_Lr z nL (ls.set j (some v)) ls' := by
  refine ⟨by rw [List.length_set]; exact h.1, ⟨h'.1, h'.2.1, fun q hq => ?_⟩, fun i w hw => ?_⟩
  · obtain ⟨w, h1, h2⟩ := am_ll_mem.mp hq
    rw [List.getElem?_set] at h1
    by_cases hj : j = q.1
    · rw [if_pos hj] at h1
      by_cases hl : j < ls.length
      · rw [if_pos hl] at h1
        cases h1
        refine h'.2.2 q (List.mem_cons.mpr (Or.inl ?_))
        obtain ⟨a, b⟩ := q
        cases hj; cases h2
        rfl
      · rw [if_neg hl] at h1; cases h1
    · rw [if_neg hj] at h1
      refine h'.2.2 q (List.mem_cons_of_mem _ (List.mem_filter.mpr ⟨am_ll_mem.mpr ⟨w, h1, h2⟩, ?_⟩))
      have hc2 := h.2.2 _ _ h1
      rw [h2] at hc2
      simp [Ne.symm hj, hc2]
  · rw [List.getElem?_set] at hw
    by_cases hj : j = i
    · rw [if_pos hj] at hw
      by_cases hl : j < ls.length
      · rw [if_pos hl] at hw; cases hw; exact hc
      · rw [if_neg hl] at hw; cases hw
    · rw [if_neg hj] at hw
      exact h.2.2 _ _ hw
theorem am_if_some {α : Type} {b : Bool} {x : Option α} {r : α} (h : am_if b x = some r) : b = true ∧ x = some r := by
  cases b with
  | false => cases h
  | true => exact ⟨rfl, h⟩
theorem am_ci_eq (a : Int) : Int32.ofInt a = am_ci a := by
  cases a with
  | ofNat k => exact Int32.ofInt_eq_ofNat
  | negSucc k =>
    show _ = -(Int32.ofNat (k + 1))
    rw [Int32.neg_ofNat]
    rfl
theorem am_ci8 {a : Int} (h1 : -128 ≤ a) (h2 : a ≤ 127) : (Int8.ofInt a).toInt32 = am_ci a := by
  rw [← am_ci_eq]
  apply Int32.toInt_inj.mp
  rw [Int8.toInt_toInt32, Int8.toInt_ofInt_of_le (by simpa using h1) (by simpa using (by omega : a < 128)), Int32.toInt_ofInt_of_le (by simp; omega) (by simp; omega)]
theorem am_ci16 {a : Int} (h1 : -32768 ≤ a) (h2 : a ≤ 32767) : (Int16.ofInt a).toInt32 = am_ci a := by
  rw [← am_ci_eq]
  apply Int32.toInt_inj.mp
  rw [Int16.toInt_toInt32, Int16.toInt_ofInt_of_le (by simpa using h1) (by simpa using (by omega : a < 32768)), Int32.toInt_ofInt_of_le (by simp; omega) (by simp; omega)]
theorem am_ldi_some {ls ls' : am_L} {j : Nat} {st st' : List am_V} (h : am_ldi ls j st = some (ls', st')) : ∃ x, ls.getD j none = some (.inl x) ∧ ls' = ls ∧ st' = .inl x :: st := by
  unfold am_ldi at h
  rcases hq : ls.getD j none with _ | x | x
  · rw [hq] at h; cases h
  · rw [hq] at h; cases h; exact ⟨x, rfl, rfl, rfl⟩
  · rw [hq] at h; cases h
theorem am_lda_some {ls ls' : am_L} {j : Nat} {st st' : List am_V} (h : am_lda ls j st = some (ls', st')) : ∃ x, ls.getD j none = some (.inr (.inl x)) ∧ ls' = ls ∧ st' = .inr (.inl x) :: st := by
  unfold am_lda at h
  rcases hq : ls.getD j none with _ | x | x | x
  · rw [hq] at h; cases h
  · rw [hq] at h; cases h
  · rw [hq] at h; cases h; exact ⟨x, rfl, rfl, rfl⟩
  · rw [hq] at h; cases h
theorem am_sti_some {ls ls' : am_L} {j : Nat} {st st' : List am_V} (h : am_sti ls j st = some (ls', st')) : ∃ x, st = .inl x :: st' ∧ j < ls.length ∧ ls' = ls.set j (some (.inl x)) := by
  rcases st with _ | ⟨x | x, r⟩
  · cases h
  · obtain ⟨h1, h2⟩ := am_if_some (show am_if (Nat.blt j ls.length) (some (ls.set j (some (.inl x)), r)) = some (ls', st') from h)
    cases h2
    exact ⟨x, rfl, Nat.le_of_ble_eq_true h1, rfl⟩
  · cases h
theorem am_sta_some {ls ls' : am_L} {j : Nat} {st st' : List am_V} (h : am_sta ls j st = some (ls', st')) : ∃ x, st = .inr (.inl x) :: st' ∧ j < ls.length ∧ ls' = ls.set j (some (.inr (.inl x))) := by
  rcases st with _ | ⟨x | x | x, r⟩
  · cases h
  · cases h
  · obtain ⟨h1, h2⟩ := am_if_some (show am_if (Nat.blt j ls.length) (some (ls.set j (some (.inr (.inl x))), r)) = some (ls', st') from h)
    cases h2
    exact ⟨x, rfl, Nat.le_of_ble_eq_true h1, rfl⟩
  · cases h
theorem am_b2_some {f : Int32 → Int32 → Int32} {ls ls' : am_L} {st st' : List am_V} (h : am_b2 f ls st = some (ls', st')) : ∃ y x r, st = .inl y :: .inl x :: r ∧ ls' = ls ∧ st' = .inl (f x y) :: r := by
  rcases st with _ | ⟨y | y, _ | ⟨x | x, r⟩⟩
  · cases h
  · cases h
  · cases h; exact ⟨y, x, r, rfl, rfl, rfl⟩
  · cases h
  · cases h
  · cases h
  · cases h
theorem am_vl_ref {z : am_N} (hz : az_fv z = .null ∨ ∃ a, az_fv z = .ref a) (r : Option am_K) : am_vl z (.inr (.inl r)) = .null ∨ ∃ a, am_vl z (.inr (.inl r)) = .ref a := by
  rcases r with _ | q
  · exact Or.inl rfl
  · show (match Nat.beq q.1 95 with | true => az_fv z | false => Value.ref (am_ad z q)) = .null ∨ ∃ a, (match Nat.beq q.1 95 with | true => az_fv z | false => Value.ref (am_ad z q)) = .ref a
    cases Nat.beq q.1 95
    · exact Or.inr ⟨_, rfl⟩
    · exact hz
theorem am_ckF {o i : Nat} {x : Int32} (h : am_ck o i = some (.inl x)) : Cond.constant (am_cn o) i x ∈ lw_tbl := by
  have hm := am_lk_mem h
  have key : (match am_lk (am_pkT o) i with | none => false | some p => am_wi p (.constant (am_cn o) i x)) = true := by
    match o, hm with
    | 0, hm => cases hm
    | 1, hm => cases hm
    | 2, hm => cases hm
    | 3, hm => cases hm
    | 4, hm => cases hm
    | 5, hm => cases hm
    | 6, hm => cases hm
    | 7, hm => exact List.all_eq_true.mp am_ck_ok7 _ hm
    | 8, hm => cases hm
    | 9, hm => cases hm
    | 10, hm => exact List.all_eq_true.mp am_ck_ok10 _ hm
    | 11, hm => cases hm
    | 12, hm => cases hm
    | 13, hm => cases hm
    | 14, hm => cases hm
    | 15, hm => cases hm
    | n + 16, hm => cases hm
  cases hp : am_lk (am_pkT o) i with
  | none => rw [hp] at key; cases key
  | some p => rw [hp] at key; exact am_wi_in key
theorem am_ckS {o i k : Nat} (h : am_ck o i = some (.inr k)) : o = 7 ∧ ∃ q, am_six[k]? = some q ∧ q.1 = i := by
  have hm := am_lk_mem h
  have h10 : ∀ (i k : Nat), ¬ ((i, Sum.inr k) : Nat × (Int32 ⊕ Nat)) ∈ am_ckT 10 := by
    intro i k hm
    simp [am_ckT] at hm
  have h7 : ∀ (i k : Nat), ((i, Sum.inr k) : Nat × (Int32 ⊕ Nat)) ∈ am_ckT 7 → ∃ q, am_six[k]? = some q ∧ q.1 = i := by
    intro i k hm
    simp [am_ckT] at hm
    rcases hm with ⟨rfl, rfl⟩ | ⟨rfl, rfl⟩ | ⟨rfl, rfl⟩ | ⟨rfl, rfl⟩ | ⟨rfl, rfl⟩ | ⟨rfl, rfl⟩ <;> exact ⟨_, rfl, rfl⟩
  match o, hm with
  | 0, hm => cases hm
  | 1, hm => cases hm
  | 2, hm => cases hm
  | 3, hm => cases hm
  | 4, hm => cases hm
  | 5, hm => cases hm
  | 6, hm => cases hm
  | 7, hm => exact ⟨rfl, h7 i k hm⟩
  | 8, hm => cases hm
  | 9, hm => cases hm
  | 10, hm => exact absurd hm (h10 i k)
  | 11, hm => cases hm
  | 12, hm => cases hm
  | 13, hm => cases hm
  | 14, hm => cases hm
  | 15, hm => cases hm
  | n + 16, hm => cases hm
theorem am_clF {o i : Nat} {x : Int64} (h : am_cl o i = some x) : Cond.constantLong (am_cn o) i x ∈ lw_tbl := by
  have hm := am_lk_mem h
  have key : (match am_lk (am_plT o) i with | none => false | some p => am_wi p (.constantLong (am_cn o) i x)) = true := by
    match o, hm with
    | 0, hm => cases hm
    | 1, hm => cases hm
    | 2, hm => cases hm
    | 3, hm => cases hm
    | 4, hm => cases hm
    | 5, hm => cases hm
    | 6, hm => cases hm
    | 7, hm => cases hm
    | 8, hm => cases hm
    | 9, hm => exact List.all_eq_true.mp am_cl_ok9 _ hm
    | 10, hm => cases hm
    | 11, hm => cases hm
    | 12, hm => cases hm
    | 13, hm => cases hm
    | 14, hm => cases hm
    | 15, hm => cases hm
    | n + 16, hm => cases hm
  cases hp : am_lk (am_plT o) i with
  | none => rw [hp] at key; cases key
  | some p => rw [hp] at key; exact am_wi_in key
