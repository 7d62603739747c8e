/-! the law's entry: what the Statement gives of the start makes a place z (the skeleton's own rows first) -/
def R_law : String := "MixedRulesLaw"
def lw_P (b : Addr) (xs : List Int32) (args : Array Value) (s : State) : Prop := args = #[.ref b] ∧ s.IntsAt b xs ∧ xs.length ≤ 2048 ∧ (Jvm.Cond.and given_1 narrow_1).before args s = true
def lw_Q (_ : Array Value) (s : State) (o : Outcome) (t : State) : Prop := o = .returned (some (.int 1)) ∧ Framed s o t [] 600000 7302250
def lw_Z (below : List Frame) (a : Array Value) (s : State) : State → Prop := fun t => ∃ o, t.status = .running ∧ Ended t below o ∧ lw_Q a s o t
/-- the law's own end, with 1 on the stack, nothing written that was there before, its room as the claim has it -/
theorem lw_ret {p : Program} {l : Launch} {e : Env} {s : State} {m : MethodId} {below : List Frame} {meth : Method} {c : Code} {b : Nat} (hx : p.tables.exec = Jvm.exec) (hb : c.code = code) (hr : meth.sig.returnType = ret) (hlocks : meth.locks = false) {pc : Nat} {H : Heap} {ls : Array Slot} (hdg : decode code pc = .ok (.ireturn, 1)) : W p l e room_1 s m #[Value.ref b] below meth c H [] 600000 7302250 (lw_Z below #[Value.ref b] s) (F0 m pc ls [.int 1]) := by
  intro T hT X
  obtain ⟨fs, hret, hrun, hended, hW, hframe⟩ := X.leave (v := some (.int 1)) (hlocks := hlocks) (fun h => by rw [hr] at h; cases h)
  have hmeth' : T.vm.method? m = some meth := X.method'
  refine ⟨T.setFrames fs, ?_, .returned (some (.int 1)), hrun, hended, rfl, ⟨_, rfl⟩, hW, hframe⟩
  jvm_step X.here [X.here.top, hx, hb, hdg, hmeth', hr, ret, narrow_b1]
  (try refine ⟨rfl, ?_⟩); (try refine ⟨rfl, ?_⟩)
  first | (intro acts; rw [hret _ acts rfl rfl rfl]) | rw [hret _ _ rfl rfl rfl]
  exact Steps.refl _
/-- what holds at the law's entry: the machine, the code, the tables' words (any of lw_tbl by 'hts w (by decide +kernel)'), the script of L ints xs at the cell b, what the Statement gives of the start (any of its parts by flat_of_before) -/
def lw_At (p : Program) (s : State) (m : MethodId) (meth : Method) (c : Code) (b L : Nat) (xs : Nat → Int32) : Prop :=
  p.tables.exec = Jvm.exec ∧ c.code = code ∧ meth.sig.returnType = ret ∧ c.maxLocals = 4 ∧ s.vm.findClass R_law = some m.cls ∧ (∀ w ∈ lw_tbl, w.before #[Value.ref b] s = true) ∧ va_X b L xs s s.heap ∧ b < s.heap.size ∧ meth.locks = false ∧ (Jvm.Cond.and given_1 narrow_1).before #[Value.ref b] s = true

def am_stm (i : Nat) : Term := .string "MixedRules$Reader" ((am_six.getD i (0, "")).1)
set_option maxRecDepth 100000 in
set_option maxHeartbeats 4000000 in
theorem am_start {p : Program} {s : State} {m : MethodId} {meth : Method} {c : Code} {b L : Nat} {xs : Nat → Int32} (C0 : lw_At p s m meth c b L xs) : ∃ z : am_N, z.1 = s.heap.size ∧ z.2.2.1 = b ∧ az_E z = (L, xs) ∧ am_Xt z s := by
  obtain ⟨hx, hb, hr, hml, hown, hts, hX, hbl, hlocks, hgv⟩ := C0
  have hs := flat_of_before _ hgv
  have hA : ∀ a : Nat, a < s.heap.size → ¬ (fun q : Nat => s.heap.size ≤ q) a := fun a h => Nat.not_le.mpr h
  have htG : ∀ w ∈ lw_G, w.before #[Value.ref b] s = true := fun w h => hts w (List.mem_filter.mp h).1
  have hk0 : ∀ ci : Nat, ∃ x : ClassId × (Nat → Nat), ci < 10 → u_Kn s (am_cn ci) (am_T ci) (am_nf ci) x.1 x.2 := by
    intro ci
    by_cases hc : ci < 10
    · obtain ⟨k1, k2, -⟩ := am_cls hc
      obtain ⟨cC, iS, hK⟩ := u_known (C := am_cn ci) (T := am_T ci) (N := am_nf ci) (n := am_nf ci) htG k2 (hts _ (am_wi_in (List.all_eq_true.mp am_insts ci (List.mem_range.mpr hc))))
      exact ⟨(cC, iS), fun _ => hK⟩
    · exact ⟨(0, fun _ => 0), fun h => absurd h hc⟩
  obtain ⟨fD, hfD⟩ := Classical.axiomOfChoice hk0
  obtain ⟨cI, kI, compI, i1, i2, i3⟩ := Cond.arrayClass_spec (hts _ am_arI)
  obtain ⟨cZ, kZ, compZ, z1, z2, z3⟩ := Cond.arrayClass_spec (hts _ am_arZ)
  have hAF : va_AO "MixedRules$Flow" s := va_AO.of (hts (.arrayOver (.object "MixedRules$Flow")) (List.mem_of_getElem? (i := 67) (by decide +kernel)))
  have hAL : va_AO "MixedRules$Letter" s := va_AO.of (hts (.arrayOver (.object "MixedRules$Letter")) (List.mem_of_getElem? (i := 238) (by decide +kernel)))
  obtain ⟨compF, cF, kF, f1, f2, f3, f4, f5⟩ := Cond.arrayOver_spec hAF
  obtain ⟨compL, cL, kL, l1, l2, l3, l4, l5⟩ := Cond.arrayOver_spec hAL
  have sEx : ∀ i : Nat, i < 6 → (Cond.exactly (am_stm i) "java/lang/String").before #[Value.ref b] s = true := by
    intro i hi
    match i, hi with
    | 0, _ => exact hs (.exactly (.string "MixedRules$Reader" 116) "java/lang/String") (by decide +kernel)
    | 1, _ => exact hs (.exactly (.string "MixedRules$Reader" 117) "java/lang/String") (by decide +kernel)
    | 2, _ => exact hs (.exactly (.string "MixedRules$Reader" 119) "java/lang/String") (by decide +kernel)
    | 3, _ => exact hs (.exactly (.string "MixedRules$Reader" 121) "java/lang/String") (by decide +kernel)
    | 4, _ => exact hs (.exactly (.string "MixedRules$Reader" 123) "java/lang/String") (by decide +kernel)
    | 5, _ => exact hs (.exactly (.string "MixedRules$Reader" 125) "java/lang/String") (by decide +kernel)
    | n + 6, h => exact absurd h (by omega)
  have sCo : ∀ i : Nat, i < 6 → (Cond.eq (.field (am_stm i) "java/lang/String" "coder" "B") (.int 0)).before #[Value.ref b] s = true := by
    intro i hi
    match i, hi with
    | 0, _ => exact hs (.eq (.field (.string "MixedRules$Reader" 116) "java/lang/String" "coder" "B") (.int 0)) (by decide +kernel)
    | 1, _ => exact hs (.eq (.field (.string "MixedRules$Reader" 117) "java/lang/String" "coder" "B") (.int 0)) (by decide +kernel)
    | 2, _ => exact hs (.eq (.field (.string "MixedRules$Reader" 119) "java/lang/String" "coder" "B") (.int 0)) (by decide +kernel)
    | 3, _ => exact hs (.eq (.field (.string "MixedRules$Reader" 121) "java/lang/String" "coder" "B") (.int 0)) (by decide +kernel)
    | 4, _ => exact hs (.eq (.field (.string "MixedRules$Reader" 123) "java/lang/String" "coder" "B") (.int 0)) (by decide +kernel)
    | 5, _ => exact hs (.eq (.field (.string "MixedRules$Reader" 125) "java/lang/String" "coder" "B") (.int 0)) (by decide +kernel)
    | n + 6, h => exact absurd h (by omega)
  have sAr : ∀ i : Nat, i < 6 → (Cond.arrayOf (.field (am_stm i) "java/lang/String" "value" "[B") .byte).before #[Value.ref b] s = true := by
    intro i hi
    match i, hi with
    | 0, _ => exact hs (.arrayOf (.field (.string "MixedRules$Reader" 116) "java/lang/String" "value" "[B") .byte) (by decide +kernel)
    | 1, _ => exact hs (.arrayOf (.field (.string "MixedRules$Reader" 117) "java/lang/String" "value" "[B") .byte) (by decide +kernel)
    | 2, _ => exact hs (.arrayOf (.field (.string "MixedRules$Reader" 119) "java/lang/String" "value" "[B") .byte) (by decide +kernel)
    | 3, _ => exact hs (.arrayOf (.field (.string "MixedRules$Reader" 121) "java/lang/String" "value" "[B") .byte) (by decide +kernel)
    | 4, _ => exact hs (.arrayOf (.field (.string "MixedRules$Reader" 123) "java/lang/String" "value" "[B") .byte) (by decide +kernel)
    | 5, _ => exact hs (.arrayOf (.field (.string "MixedRules$Reader" 125) "java/lang/String" "value" "[B") .byte) (by decide +kernel)
    | n + 6, h => exact absurd h (by omega)
  have sLe : ∀ i : Nat, i < 6 → (Cond.eq (.length (.field (am_stm i) "java/lang/String" "value" "[B")) (.int (Int32.ofNat (am_wl.getD i 0)))).before #[Value.ref b] s = true := by
    intro i hi
    match i, hi with
    | 0, _ => exact hs (.eq (.length (.field (.string "MixedRules$Reader" 116) "java/lang/String" "value" "[B")) (.int 3)) (by decide +kernel)
    | 1, _ => exact hs (.eq (.length (.field (.string "MixedRules$Reader" 117) "java/lang/String" "value" "[B")) (.int 4)) (by decide +kernel)
    | 2, _ => exact hs (.eq (.length (.field (.string "MixedRules$Reader" 119) "java/lang/String" "value" "[B")) (.int 4)) (by decide +kernel)
    | 3, _ => exact hs (.eq (.length (.field (.string "MixedRules$Reader" 121) "java/lang/String" "value" "[B")) (.int 4)) (by decide +kernel)
    | 4, _ => exact hs (.eq (.length (.field (.string "MixedRules$Reader" 123) "java/lang/String" "value" "[B")) (.int 3)) (by decide +kernel)
    | 5, _ => exact hs (.eq (.length (.field (.string "MixedRules$Reader" 125) "java/lang/String" "value" "[B")) (.int 3)) (by decide +kernel)
    | n + 6, h => exact absurd h (by omega)
  have sEl : ∀ i : Nat, i < 6 → ∀ j : Nat, j < am_wl.getD i 0 → (Cond.eq (.elem (.field (am_stm i) "java/lang/String" "value" "[B") (.int (Int32.ofNat j))) (.int ((am_wd.getD i []).getD j 0))).before #[Value.ref b] s = true := by
    intro i hi j hj
    match i, hi, j, hj with
    | 0, _, 0, _ => exact hs (.eq (.elem (.field (.string "MixedRules$Reader" 116) "java/lang/String" "value" "[B") (.int 0)) (.int 110)) (by decide +kernel)
    | 0, _, 1, _ => exact hs (.eq (.elem (.field (.string "MixedRules$Reader" 116) "java/lang/String" "value" "[B") (.int 1)) (.int 101)) (by decide +kernel)
    | 0, _, 2, _ => exact hs (.eq (.elem (.field (.string "MixedRules$Reader" 116) "java/lang/String" "value" "[B") (.int 2)) (.int 116)) (by decide +kernel)
    | 0, _, n + 3, h => exact absurd h (by simp [am_wl])
    | 1, _, 0, _ => exact hs (.eq (.elem (.field (.string "MixedRules$Reader" 117) "java/lang/String" "value" "[B") (.int 0)) (.int 108)) (by decide +kernel)
    | 1, _, 1, _ => exact hs (.eq (.elem (.field (.string "MixedRules$Reader" 117) "java/lang/String" "value" "[B") (.int 1)) (.int 105)) (by decide +kernel)
    | 1, _, 2, _ => exact hs (.eq (.elem (.field (.string "MixedRules$Reader" 117) "java/lang/String" "value" "[B") (.int 2)) (.int 110)) (by decide +kernel)
    | 1, _, 3, _ => exact hs (.eq (.elem (.field (.string "MixedRules$Reader" 117) "java/lang/String" "value" "[B") (.int 3)) (.int 107)) (by decide +kernel)
    | 1, _, n + 4, h => exact absurd h (by simp [am_wl])
    | 2, _, 0, _ => exact hs (.eq (.elem (.field (.string "MixedRules$Reader" 119) "java/lang/String" "value" "[B") (.int 0)) (.int 102)) (by decide +kernel)
    | 2, _, 1, _ => exact hs (.eq (.elem (.field (.string "MixedRules$Reader" 119) "java/lang/String" "value" "[B") (.int 1)) (.int 108)) (by decide +kernel)
    | 2, _, 2, _ => exact hs (.eq (.elem (.field (.string "MixedRules$Reader" 119) "java/lang/String" "value" "[B") (.int 2)) (.int 111)) (by decide +kernel)
    | 2, _, 3, _ => exact hs (.eq (.elem (.field (.string "MixedRules$Reader" 119) "java/lang/String" "value" "[B") (.int 3)) (.int 119)) (by decide +kernel)
    | 2, _, n + 4, h => exact absurd h (by simp [am_wl])
    | 3, _, 0, _ => exact hs (.eq (.elem (.field (.string "MixedRules$Reader" 121) "java/lang/String" "value" "[B") (.int 0)) (.int 112)) (by decide +kernel)
    | 3, _, 1, _ => exact hs (.eq (.elem (.field (.string "MixedRules$Reader" 121) "java/lang/String" "value" "[B") (.int 1)) (.int 111)) (by decide +kernel)
    | 3, _, 2, _ => exact hs (.eq (.elem (.field (.string "MixedRules$Reader" 121) "java/lang/String" "value" "[B") (.int 2)) (.int 115)) (by decide +kernel)
    | 3, _, 3, _ => exact hs (.eq (.elem (.field (.string "MixedRules$Reader" 121) "java/lang/String" "value" "[B") (.int 3)) (.int 116)) (by decide +kernel)
    | 3, _, n + 4, h => exact absurd h (by simp [am_wl])
    | 4, _, 0, _ => exact hs (.eq (.elem (.field (.string "MixedRules$Reader" 123) "java/lang/String" "value" "[B") (.int 0)) (.int 111)) (by decide +kernel)
    | 4, _, 1, _ => exact hs (.eq (.elem (.field (.string "MixedRules$Reader" 123) "java/lang/String" "value" "[B") (.int 1)) (.int 108)) (by decide +kernel)
    | 4, _, 2, _ => exact hs (.eq (.elem (.field (.string "MixedRules$Reader" 123) "java/lang/String" "value" "[B") (.int 2)) (.int 100)) (by decide +kernel)
    | 4, _, n + 3, h => exact absurd h (by simp [am_wl])
    | 5, _, 0, _ => exact hs (.eq (.elem (.field (.string "MixedRules$Reader" 125) "java/lang/String" "value" "[B") (.int 0)) (.int 110)) (by decide +kernel)
    | 5, _, 1, _ => exact hs (.eq (.elem (.field (.string "MixedRules$Reader" 125) "java/lang/String" "value" "[B") (.int 1)) (.int 101)) (by decide +kernel)
    | 5, _, 2, _ => exact hs (.eq (.elem (.field (.string "MixedRules$Reader" 125) "java/lang/String" "value" "[B") (.int 2)) (.int 119)) (by decide +kernel)
    | 5, _, n + 3, h => exact absurd h (by simp [am_wl])
    | n + 6, h, _, _ => exact absurd h (by omega)
  have sNe : ∀ i j : Nat, i < 6 → j < 6 → i ≠ j → (Cond.not (Cond.eq (am_stm i) (am_stm j))).before #[Value.ref b] s = true ∨ (Cond.not (Cond.eq (am_stm j) (am_stm i))).before #[Value.ref b] s = true := by
    intro i j hi hj hij
    match i, hi, j, hj with
    | 0, _, 0, _ => exact absurd rfl hij
    | 0, _, 1, _ => exact Or.inl (hs (.not (.eq (.string "MixedRules$Reader" 116) (.string "MixedRules$Reader" 117))) (by decide +kernel))
    | 0, _, 2, _ => exact Or.inl (hs (.not (.eq (.string "MixedRules$Reader" 116) (.string "MixedRules$Reader" 119))) (by decide +kernel))
    | 0, _, 3, _ => exact Or.inl (hs (.not (.eq (.string "MixedRules$Reader" 116) (.string "MixedRules$Reader" 121))) (by decide +kernel))
    | 0, _, 4, _ => exact Or.inl (hs (.not (.eq (.string "MixedRules$Reader" 116) (.string "MixedRules$Reader" 123))) (by decide +kernel))
    | 0, _, 5, _ => exact Or.inl (hs (.not (.eq (.string "MixedRules$Reader" 116) (.string "MixedRules$Reader" 125))) (by decide +kernel))
    | 0, _, n + 6, h => exact absurd h (by omega)
    | 1, _, 0, _ => exact Or.inr (hs (.not (.eq (.string "MixedRules$Reader" 116) (.string "MixedRules$Reader" 117))) (by decide +kernel))
    | 1, _, 1, _ => exact absurd rfl hij
    | 1, _, 2, _ => exact Or.inl (hs (.not (.eq (.string "MixedRules$Reader" 117) (.string "MixedRules$Reader" 119))) (by decide +kernel))
    | 1, _, 3, _ => exact Or.inl (hs (.not (.eq (.string "MixedRules$Reader" 117) (.string "MixedRules$Reader" 121))) (by decide +kernel))
    | 1, _, 4, _ => exact Or.inl (hs (.not (.eq (.string "MixedRules$Reader" 117) (.string "MixedRules$Reader" 123))) (by decide +kernel))
    | 1, _, 5, _ => exact Or.inl (hs (.not (.eq (.string "MixedRules$Reader" 117) (.string "MixedRules$Reader" 125))) (by decide +kernel))
    | 1, _, n + 6, h => exact absurd h (by omega)
    | 2, _, 0, _ => exact Or.inr (hs (.not (.eq (.string "MixedRules$Reader" 116) (.string "MixedRules$Reader" 119))) (by decide +kernel))
    | 2, _, 1, _ => exact Or.inr (hs (.not (.eq (.string "MixedRules$Reader" 117) (.string "MixedRules$Reader" 119))) (by decide +kernel))
    | 2, _, 2, _ => exact absurd rfl hij
    | 2, _, 3, _ => exact Or.inl (hs (.not (.eq (.string "MixedRules$Reader" 119) (.string "MixedRules$Reader" 121))) (by decide +kernel))
    | 2, _, 4, _ => exact Or.inl (hs (.not (.eq (.string "MixedRules$Reader" 119) (.string "MixedRules$Reader" 123))) (by decide +kernel))
    | 2, _, 5, _ => exact Or.inl (hs (.not (.eq (.string "MixedRules$Reader" 119) (.string "MixedRules$Reader" 125))) (by decide +kernel))
    | 2, _, n + 6, h => exact absurd h (by omega)
    | 3, _, 0, _ => exact Or.inr (hs (.not (.eq (.string "MixedRules$Reader" 116) (.string "MixedRules$Reader" 121))) (by decide +kernel))
    | 3, _, 1, _ => exact Or.inr (hs (.not (.eq (.string "MixedRules$Reader" 117) (.string "MixedRules$Reader" 121))) (by decide +kernel))
    | 3, _, 2, _ => exact Or.inr (hs (.not (.eq (.string "MixedRules$Reader" 119) (.string "MixedRules$Reader" 121))) (by decide +kernel))
    | 3, _, 3, _ => exact absurd rfl hij
    | 3, _, 4, _ => exact Or.inl (hs (.not (.eq (.string "MixedRules$Reader" 121) (.string "MixedRules$Reader" 123))) (by decide +kernel))
    | 3, _, 5, _ => exact Or.inl (hs (.not (.eq (.string "MixedRules$Reader" 121) (.string "MixedRules$Reader" 125))) (by decide +kernel))
    | 3, _, n + 6, h => exact absurd h (by omega)
    | 4, _, 0, _ => exact Or.inr (hs (.not (.eq (.string "MixedRules$Reader" 116) (.string "MixedRules$Reader" 123))) (by decide +kernel))
    | 4, _, 1, _ => exact Or.inr (hs (.not (.eq (.string "MixedRules$Reader" 117) (.string "MixedRules$Reader" 123))) (by decide +kernel))
    | 4, _, 2, _ => exact Or.inr (hs (.not (.eq (.string "MixedRules$Reader" 119) (.string "MixedRules$Reader" 123))) (by decide +kernel))
    | 4, _, 3, _ => exact Or.inr (hs (.not (.eq (.string "MixedRules$Reader" 121) (.string "MixedRules$Reader" 123))) (by decide +kernel))
    | 4, _, 4, _ => exact absurd rfl hij
    | 4, _, 5, _ => exact Or.inl (hs (.not (.eq (.string "MixedRules$Reader" 123) (.string "MixedRules$Reader" 125))) (by decide +kernel))
    | 4, _, n + 6, h => exact absurd h (by omega)
    | 5, _, 0, _ => exact Or.inr (hs (.not (.eq (.string "MixedRules$Reader" 116) (.string "MixedRules$Reader" 125))) (by decide +kernel))
    | 5, _, 1, _ => exact Or.inr (hs (.not (.eq (.string "MixedRules$Reader" 117) (.string "MixedRules$Reader" 125))) (by decide +kernel))
    | 5, _, 2, _ => exact Or.inr (hs (.not (.eq (.string "MixedRules$Reader" 119) (.string "MixedRules$Reader" 125))) (by decide +kernel))
    | 5, _, 3, _ => exact Or.inr (hs (.not (.eq (.string "MixedRules$Reader" 121) (.string "MixedRules$Reader" 125))) (by decide +kernel))
    | 5, _, 4, _ => exact Or.inr (hs (.not (.eq (.string "MixedRules$Reader" 123) (.string "MixedRules$Reader" 125))) (by decide +kernel))
    | 5, _, 5, _ => exact absurd rfl hij
    | 5, _, n + 6, h => exact absurd h (by omega)
    | n + 6, h, _, _ => exact absurd h (by omega)
  have sN : ∀ i : Nat, i < 6 → am_wl.getD i 0 < 2 ^ 31 := by decide
  obtain ⟨adK, adV, hSt, hStv⟩ := vk_Sof (N := 6) (tm := am_stm) (len := am_wl) (byt := am_wd) (A := fun q : Nat => s.heap.size ≤ q) sN sEx sCo sAr sLe sEl sNe hA
  have hRs : ∀ (i : Nat) (q : Nat × String), am_six[i]? = some q → vk_R "MixedRules$Reader" q.1 q.2 (adK i) s := by
    intro i q hq
    match i, hq with
    | 0, hq => cases hq; exact vk_R.of (hts (.stringRef "MixedRules$Reader" 116 "net") (List.mem_of_getElem? (i := 414) (by decide +kernel))) (hStv 0 (by omega))
    | 1, hq => cases hq; exact vk_R.of (hts (.stringRef "MixedRules$Reader" 117 "link") (List.mem_of_getElem? (i := 415) (by decide +kernel))) (hStv 1 (by omega))
    | 2, hq => cases hq; exact vk_R.of (hts (.stringRef "MixedRules$Reader" 119 "flow") (List.mem_of_getElem? (i := 416) (by decide +kernel))) (hStv 2 (by omega))
    | 3, hq => cases hq; exact vk_R.of (hts (.stringRef "MixedRules$Reader" 121 "post") (List.mem_of_getElem? (i := 417) (by decide +kernel))) (hStv 3 (by omega))
    | 4, hq => cases hq; exact vk_R.of (hts (.stringRef "MixedRules$Reader" 123 "old") (List.mem_of_getElem? (i := 418) (by decide +kernel))) (hStv 4 (by omega))
    | 5, hq => cases hq; exact vk_R.of (hts (.stringRef "MixedRules$Reader" 125 "new") (List.mem_of_getElem? (i := 419) (by decide +kernel))) (hStv 5 (by omega))
    | n + 6, hq => cases hq
  have oEl : ∀ j : Nat, j < 18 → (Term.elem (.static "MixedRules" "ORDERS" "[I") (.int (Int32.ofNat j))).eval #[Value.ref b] s none [] s = some (.int (am_or.getD j 0)) := by
    intro j hj
    match j, hj with
    | 0, _ => exact va_eqt (hs (.eq (.elem (.static "MixedRules" "ORDERS" "[I") (.int 0)) (.int 0)) (by decide +kernel))
    | 1, _ => exact va_eqt (hs (.eq (.elem (.static "MixedRules" "ORDERS" "[I") (.int 1)) (.int 1)) (by decide +kernel))
    | 2, _ => exact va_eqt (hs (.eq (.elem (.static "MixedRules" "ORDERS" "[I") (.int 2)) (.int 2)) (by decide +kernel))
    | 3, _ => exact va_eqt (hs (.eq (.elem (.static "MixedRules" "ORDERS" "[I") (.int 3)) (.int 0)) (by decide +kernel))
    | 4, _ => exact va_eqt (hs (.eq (.elem (.static "MixedRules" "ORDERS" "[I") (.int 4)) (.int 2)) (by decide +kernel))
    | 5, _ => exact va_eqt (hs (.eq (.elem (.static "MixedRules" "ORDERS" "[I") (.int 5)) (.int 1)) (by decide +kernel))
    | 6, _ => exact va_eqt (hs (.eq (.elem (.static "MixedRules" "ORDERS" "[I") (.int 6)) (.int 1)) (by decide +kernel))
    | 7, _ => exact va_eqt (hs (.eq (.elem (.static "MixedRules" "ORDERS" "[I") (.int 7)) (.int 0)) (by decide +kernel))
    | 8, _ => exact va_eqt (hs (.eq (.elem (.static "MixedRules" "ORDERS" "[I") (.int 8)) (.int 2)) (by decide +kernel))
    | 9, _ => exact va_eqt (hs (.eq (.elem (.static "MixedRules" "ORDERS" "[I") (.int 9)) (.int 1)) (by decide +kernel))
    | 10, _ => exact va_eqt (hs (.eq (.elem (.static "MixedRules" "ORDERS" "[I") (.int 10)) (.int 2)) (by decide +kernel))
    | 11, _ => exact va_eqt (hs (.eq (.elem (.static "MixedRules" "ORDERS" "[I") (.int 11)) (.int 0)) (by decide +kernel))
    | 12, _ => exact va_eqt (hs (.eq (.elem (.static "MixedRules" "ORDERS" "[I") (.int 12)) (.int 2)) (by decide +kernel))
    | 13, _ => exact va_eqt (hs (.eq (.elem (.static "MixedRules" "ORDERS" "[I") (.int 13)) (.int 0)) (by decide +kernel))
    | 14, _ => exact va_eqt (hs (.eq (.elem (.static "MixedRules" "ORDERS" "[I") (.int 14)) (.int 1)) (by decide +kernel))
    | 15, _ => exact va_eqt (hs (.eq (.elem (.static "MixedRules" "ORDERS" "[I") (.int 15)) (.int 2)) (by decide +kernel))
    | 16, _ => exact va_eqt (hs (.eq (.elem (.static "MixedRules" "ORDERS" "[I") (.int 16)) (.int 1)) (by decide +kernel))
    | 17, _ => exact va_eqt (hs (.eq (.elem (.static "MixedRules" "ORDERS" "[I") (.int 17)) (.int 0)) (by decide +kernel))
    | n + 18, h => exact absurd h (by omega)
  obtain ⟨tO, hOv, hOT⟩ := va_Tof (tm := .static "MixedRules" "ORDERS" "[I") (ty := .int) (N := 18) (f := fun j => .int (am_or.getD j 0)) (A := fun q : Nat => s.heap.size ≤ q) (by decide) (hs (.arrayOf (.static "MixedRules" "ORDERS" "[I") .int) (by decide +kernel)) (va_eqt (hs (.eq (.length (.static "MixedRules" "ORDERS" "[I")) (.int 18)) (by decide +kernel))) oEl hA
  have hOZ := va_Zof (C := "MixedRules") (n := "ORDERS") (d := "[I") (A := fun q : Nat => s.heap.size ≤ q) (hts (.laysStatic "MixedRules" "ORDERS" "[I") (List.mem_of_getElem? (i := 834) (by decide +kernel))) (hts (.initialized "MixedRules") (List.mem_of_getElem? (i := 36) (by decide +kernel))) hOv hA
  have hCZ := va_Zof (C := "java/lang/String") (n := "COMPACT_STRINGS") (d := "Z") (A := fun q : Nat => s.heap.size ≤ q) (hts (.laysStatic "java/lang/String" "COMPACT_STRINGS" "Z") (List.mem_of_getElem? (i := 433) (by decide +kernel))) (hts (.initialized "java/lang/String") (List.mem_of_getElem? (i := 46) (by decide +kernel))) (va_eqi (hs (.eq (.static "java/lang/String" "COMPACT_STRINGS" "Z") (.int 1)) (by decide +kernel))) hA
  have hFZ := va_Zqof (C := "jdk/internal/util/Preconditions") (n := "SIOOBE_FORMATTER") (d := "Ljava/util/function/BiFunction;") (A := fun q : Nat => s.heap.size ≤ q) (hts (.laysStatic "jdk/internal/util/Preconditions" "SIOOBE_FORMATTER" "Ljava/util/function/BiFunction;") (List.mem_of_getElem? (i := 449) (by decide +kernel))) (hts (.initialized "jdk/internal/util/Preconditions") (List.mem_of_getElem? (i := 48) (by decide +kernel))) (hs (.isRef (.static "jdk/internal/util/Preconditions" "SIOOBE_FORMATTER" "Ljava/util/function/BiFunction;")) (by decide +kernel)) hA
  obtain ⟨fv, hfv, hfz⟩ : ∃ fv : Value, (fv = .null ∨ ∃ a, fv = .ref a) ∧ va_Z "jdk/internal/util/Preconditions" "SIOOBE_FORMATTER" "Ljava/util/function/BiFunction;" fv (fun q : Nat => s.heap.size ≤ q) s s.heap := by
    rcases hFZ with h | ⟨t, h⟩
    · exact ⟨_, Or.inl rfl, h⟩
    · exact ⟨_, Or.inr ⟨t, rfl⟩, h⟩
  refine ⟨(s.heap.size, tO, b, adK, adV, fv, (fun t => match t with | 0 => cI | 1 => cZ | 2 => cF | _ => cL), ((fun k => (fD k).1, fun k => (fD k).2) : va_G), (L, xs)), rfl, rfl, rfl, ?_, ?_, hSt, hRs, hOZ, hOT, hCZ, hfz, hAF, hAL, hX, hbl, Nat.le_refl _, hfv⟩
  · refine ⟨fun k q hq => ?_, fun k q hq => ?_⟩
    · have hk : k < 10 := (List.getElem?_eq_some_iff.mp hq).1
      obtain ⟨k1, -⟩ := am_cls hk
      cases hq.symm.trans k1
      exact hfD k hk
    · match k, hq with
      | 0, hq => cases hq; exact ⟨fun n z => ⟨fun k h => (by cases h), kI, i2, compI, i3⟩, i1⟩
      | 1, hq => cases hq; exact ⟨fun n z => ⟨fun k h => (by cases h), kZ, z2, compZ, z3⟩, z1⟩
      | 2, hq => cases hq; exact ⟨fun n z => ⟨fun k h => (by cases h), kF, f3, compF, f4⟩, kF, compF, f3, f4, f1, f5⟩
      | 3, hq => cases hq; exact ⟨fun n z => ⟨fun k h => (by cases h), kL, l3, compL, l4⟩, kL, compL, l3, l4, l1, l5⟩
      | n + 4, hq => cases hq
  · intro w hw
    simp only [am_nest, List.mem_cons, List.not_mem_nil, or_false] at hw
    rcases hw with rfl | rfl | rfl | rfl | rfl | rfl
    · exact va_Nw.of rfl (hts (.methodLinkNest "MixedRules$Flow" 50 ⟨"MixedRules", "isPlace", "(II)Z"⟩ "MixedRules") (List.mem_of_getElem? (i := 530) (by decide +kernel)))
    · exact va_Nw.of rfl (hts (.methodLinkNest "MixedRules$Mail" 21 ⟨"MixedRules$Letter", "<init>", "()V"⟩ "MixedRules") (List.mem_of_getElem? (i := 240) (by decide +kernel)))
    · exact va_Nw.of rfl (hts (.methodLinkNest "MixedRules$Mail" 38 ⟨"MixedRules", "isPlace", "(II)Z"⟩ "MixedRules") (List.mem_of_getElem? (i := 765) (by decide +kernel)))
    · exact va_Nw.of rfl (hts (.methodLinkNest "MixedRules$Net" 39 ⟨"MixedRules", "isPlace", "(II)Z"⟩ "MixedRules") (List.mem_of_getElem? (i := 391) (by decide +kernel)))
    · exact va_Nw.of rfl (hts (.methodLinkNest "MixedRules$Planner" 66 ⟨"MixedRules", "isPlace", "(II)Z"⟩ "MixedRules") (List.mem_of_getElem? (i := 699) (by decide +kernel)))
    · exact va_Nw.of rfl (hts (.methodLinkNest "MixedRules$Reader" 32 ⟨"MixedRules", "isPlace", "(II)Z"⟩ "MixedRules") (List.mem_of_getElem? (i := 368) (by decide +kernel)))
