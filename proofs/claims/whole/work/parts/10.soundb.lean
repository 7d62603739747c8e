/-! what touches locals and stack alone holds of the JVM -/
section
variable {p : Program} {l : Launch} {e : Env} {R : Room} {s : State} {mid : MethodId} {args : Array Value} {below : List Frame} {meth : Method} {c : Code} {H : Heap} {locs : List Loc} {cells slots : Nat} {Q : State → Prop} {z : am_N} {nL pc n m : Nat} {ls ls' : am_L} {st st' : List am_V} {lsJ : Array Slot} {i : Instr}
theorem am_gsF {o k : Nat} {v : Int32 ⊕ Nat} (h : am_gs o k = some v) : (o = 8 ∧ v = .inr 98 ∧ Cond.fieldLink (am_cn 8) k "MixedRules" "ORDERS" "[I" ∈ lw_tbl) ∨ (o = 12 ∧ v = .inl 1 ∧ Cond.fieldLink (am_cn 12) k "java/lang/String" "COMPACT_STRINGS" "Z" ∈ lw_tbl) ∨ (o = 12 ∧ v = .inr 95 ∧ Cond.fieldLink (am_cn 12) k "jdk/internal/util/Preconditions" "SIOOBE_FORMATTER" "Ljava/util/function/BiFunction;" ∈ lw_tbl) := by
  have hm := am_lk_mem h
  have h8 : ∀ (k : Nat) (v : Int32 ⊕ Nat), (k, v) ∈ am_gsT 8 → v = .inr 98 ∧ Cond.fieldLink (am_cn 8) k "MixedRules" "ORDERS" "[I" ∈ lw_tbl := by
    intro k v hm
    simp [am_gsT] at hm
    obtain ⟨rfl, rfl⟩ := hm
    exact ⟨rfl, am_wi_in am_gs8⟩
  have h12 : ∀ (k : Nat) (v : Int32 ⊕ Nat), (k, v) ∈ am_gsT 12 → (v = .inl 1 ∧ Cond.fieldLink (am_cn 12) k "java/lang/String" "COMPACT_STRINGS" "Z" ∈ lw_tbl) ∨ (v = .inr 95 ∧ Cond.fieldLink (am_cn 12) k "jdk/internal/util/Preconditions" "SIOOBE_FORMATTER" "Ljava/util/function/BiFunction;" ∈ lw_tbl) := by
    intro k v hm
    simp [am_gsT] at hm
    rcases hm with ⟨rfl, rfl⟩ | ⟨rfl, rfl⟩
    · exact Or.inl ⟨rfl, am_wi_in am_gs12_38⟩
    · exact Or.inr ⟨rfl, am_wi_in am_gs12_1053⟩
  match o, hm with
  | 0, hm => cases hm
  | 1, hm => cases hm
  | 2, hm => cases hm
  | 3, hm => cases hm
  | 4, hm => cases hm
  | 5, hm => cases hm
  | 6, hm => cases hm
  | 7, hm => cases hm
  | 8, hm => exact Or.inl ⟨rfl, h8 k v hm⟩
  | 9, hm => cases hm
  | 10, hm => cases hm
  | 11, hm => cases hm
  | 12, hm =>
    rcases h12 k v hm with q | q
    · exact Or.inr (Or.inl ⟨rfl, q⟩)
    · exact Or.inr (Or.inr ⟨rfl, q⟩)
  | 13, hm => cases hm
  | 14, hm => cases hm
  | 15, hm => cases hm
  | n + 16, hm => cases hm
theorem am_cat1 {v : am_V} (hz : az_fv z = .null ∨ ∃ a, az_fv z = .ref a) (h : (match v with | .inr (.inr _) => false | _ => true) = true) : (am_vl z v).category = 1 := by
  rcases v with x | r | x
  · rfl
  · rcases am_vl_ref hz r with q | ⟨a, q⟩ <;> rw [q] <;> rfl
  · cases h
theorem am_pu_W (hx : p.tables.exec = Jvm.exec) (hb : c.code = am_by m) (hown : s.vm.findClass (am_cn (am_ow m)) = some mid.cls) (hts : ∀ w ∈ lw_G, w.before args s = true) (hXt : am_Xt z s) (hS : va_S (az_A z) s.heap H locs)
    (hd : decode (am_by m) pc = .ok (i, n)) (hl : am_lk1 i n = true) (hL : am_Lr z nL ls lsJ) (he : am_pu (am_ow m) i ls st = some (ls', st'))
    (k : ∀ lsJ', am_Lr z nL ls' lsJ' → W p l e R s mid args below meth c H locs cells slots Q (F0 mid (pc + n) lsJ' (st'.map (am_vl z)))) : W p l e R s mid args below meth c H locs cells slots Q (F0 mid pc lsJ (st.map (am_vl z))) := by
  have hfv : az_fv z = .null ∨ ∃ a, az_fv z = .ref a := hXt.2.2.2.2.2.2.2.2.2.2.2.2.2
  have ldI : ∀ {j : Nat}, am_ldi ls j st = some (ls', st') → ∃ x, lsJ[j]? = some (.val (.int x)) ∧ ls' = ls ∧ st' = .inl x :: st := by
    intro j h
    obtain ⟨x, h1, h2, h3⟩ := am_ldi_some h
    exact ⟨x, am_Lr_get hL h1, h2, h3⟩
  have stI : ∀ {j : Nat}, am_sti ls j st = some (ls', st') → ∃ x, st = .inl x :: st' ∧ j < nL ∧ ∀ lsN, lv_has lsN nL ((j, .int x) :: (am_ll z ls).filter (fun q => !(q.1 == j) && !(q.1 + 1 == j && q.2.category == 2))) → am_Lr z nL ls' lsN := by
    intro j h
    obtain ⟨x, h1, h2, h3⟩ := am_sti_some h
    refine ⟨x, h1, by rw [← hL.1]; exact h2, fun lsN hN => ?_⟩
    rw [h3]
    exact am_Lr_set (v := .inl x) hL rfl hN
  have stA : ∀ {j : Nat}, am_sta ls j st = some (ls', st') → ∃ x, st = .inr (.inl x) :: st' ∧ j < nL ∧ ∀ lsN, lv_has lsN nL ((j, am_vl z (.inr (.inl x))) :: (am_ll z ls).filter (fun q => !(q.1 == j) && !(q.1 + 1 == j && q.2.category == 2))) → am_Lr z nL ls' lsN := by
    intro j h
    obtain ⟨x, h1, h2, h3⟩ := am_sta_some h
    refine ⟨x, h1, by rw [← hL.1]; exact h2, fun lsN hN => ?_⟩
    rw [h3]
    exact am_Lr_set (v := .inr (.inl x)) hL (am_cat1 hfv rfl) hN
  have b2 : ∀ {f : Int32 → Int32 → Int32}, am_b2 f ls st = some (ls', st') → ∃ y x r, st = .inl y :: .inl x :: r ∧ ls' = ls ∧ st' = .inl (f x y) :: r := am_b2_some
  cases i
  case iconst a =>
    obtain rfl : 1 = n := Nat.eq_of_beq_eq_true hl
    cases he
    exact lv_iconst hx hb hd (am_ci_eq a) (k lsJ hL)
  case bipush a =>
    obtain rfl : 2 = n := Nat.eq_of_beq_eq_true hl
    have he : (match decide (-128 ≤ a ∧ a ≤ 127) with | true => some (ls, .inl (am_ci a) :: st) | false => none) = some (ls', st') := he
    cases hq : decide (-128 ≤ a ∧ a ≤ 127) with
    | false => rw [hq] at he; cases he
    | true =>
      rw [hq] at he
      cases he
      have h1 := of_decide_eq_true hq
      exact lv_bipush hx hb hd (am_ci8 h1.1 h1.2) (k lsJ hL)
  case sipush a =>
    obtain rfl : 3 = n := Nat.eq_of_beq_eq_true hl
    have he : (match decide (-32768 ≤ a ∧ a ≤ 32767) with | true => some (ls, .inl (am_ci a) :: st) | false => none) = some (ls', st') := he
    cases hq : decide (-32768 ≤ a ∧ a ≤ 32767) with
    | false => rw [hq] at he; cases he
    | true =>
      rw [hq] at he
      cases he
      have h1 := of_decide_eq_true hq
      exact lv_sipush hx hb hd (am_ci16 h1.1 h1.2) (k lsJ hL)
  case lconst a =>
    obtain rfl : 1 = n := Nat.eq_of_beq_eq_true hl
    cases he
    exact lv_lconst hx hb hd rfl (k lsJ hL)
  case aconst_null =>
    obtain rfl : 1 = n := Nat.eq_of_beq_eq_true hl
    cases he
    exact lv_null hx hb hd (k lsJ hL)
  case iload_n j =>
    obtain rfl : 1 = n := Nat.eq_of_beq_eq_true hl
    obtain ⟨x, h1, rfl, rfl⟩ := ldI he
    exact lv_iload_n hx hb hd rfl h1 (k lsJ hL)
  case iload j =>
    obtain rfl : 2 = n := Nat.eq_of_beq_eq_true hl
    obtain ⟨x, h1, rfl, rfl⟩ := ldI he
    exact lv_iload hx hb hd h1 (k lsJ hL)
  case aload_n j =>
    obtain rfl : 1 = n := Nat.eq_of_beq_eq_true hl
    obtain ⟨x, h1, rfl, rfl⟩ := am_lda_some he
    have h2 := am_Lr_get hL h1
    have k2 := k lsJ hL
    rw [List.map_cons] at k2
    rcases am_vl_ref hfv x with q | ⟨a, q⟩
    · rw [q] at h2 k2
      exact lv_aload_nN hx hb hd rfl h2 k2
    · rw [q] at h2 k2
      exact lv_aload_n hx hb hd rfl h2 k2
  case aload j =>
    obtain rfl : 2 = n := Nat.eq_of_beq_eq_true hl
    obtain ⟨x, h1, rfl, rfl⟩ := am_lda_some he
    have h2 := am_Lr_get hL h1
    have k2 := k lsJ hL
    rw [List.map_cons] at k2
    rcases am_vl_ref hfv x with q | ⟨a, q⟩
    · rw [q] at h2 k2
      exact lv_aloadN hx hb hd h2 k2
    · rw [q] at h2 k2
      exact lv_aload hx hb hd h2 k2
  case istore_n j =>
    obtain rfl : 1 = n := Nat.eq_of_beq_eq_true hl
    obtain ⟨x, rfl, h2, h3⟩ := stI he
    exact lv_istore_n hx hb hd rfl hL.2.1 h2 rfl (fun lsN hN => k lsN (h3 lsN hN))
  case istore j =>
    obtain rfl : 2 = n := Nat.eq_of_beq_eq_true hl
    obtain ⟨x, rfl, h2, h3⟩ := stI he
    exact lv_istore hx hb hd hL.2.1 h2 rfl (fun lsN hN => k lsN (h3 lsN hN))
  case astore_n j =>
    obtain rfl : 1 = n := Nat.eq_of_beq_eq_true hl
    obtain ⟨x, rfl, h2, h3⟩ := stA he
    rw [List.map_cons]
    rcases am_vl_ref hfv x with q | ⟨a, q⟩
    · rw [q] at h3 ⊢
      exact lv_astore_nN hx hb hd rfl hL.2.1 h2 rfl (fun lsN hN => k lsN (h3 lsN hN))
    · rw [q] at h3 ⊢
      exact lv_astore_n hx hb hd rfl hL.2.1 h2 rfl (fun lsN hN => k lsN (h3 lsN hN))
  case astore j =>
    obtain rfl : 2 = n := Nat.eq_of_beq_eq_true hl
    obtain ⟨x, rfl, h2, h3⟩ := stA he
    rw [List.map_cons]
    rcases am_vl_ref hfv x with q | ⟨a, q⟩
    · rw [q] at h3 ⊢
      exact lv_astoreN hx hb hd hL.2.1 h2 rfl (fun lsN hN => k lsN (h3 lsN hN))
    · rw [q] at h3 ⊢
      exact lv_astore hx hb hd hL.2.1 h2 rfl (fun lsN hN => k lsN (h3 lsN hN))
  case iinc j a =>
    obtain rfl : 3 = n := Nat.eq_of_beq_eq_true hl
    have he : (match ls.getD j none with | some (.inl x) => am_if (Nat.blt j ls.length) (some (ls.set j (some (.inl (x + am_ci a))), st)) | _ => none) = some (ls', st') := he
    rcases hq : ls.getD j none with _ | x | x
    · rw [hq] at he; cases he
    · rw [hq] at he
      obtain ⟨g1, g2⟩ := am_if_some he
      cases g2
      have hj : j < ls.length := Nat.le_of_ble_eq_true g1
      have h1 : (j, Value.int x) ∈ am_ll z ls := am_ll_mem.mpr ⟨.inl x, by
        rw [List.getD_eq_getElem?_getD] at hq
        cases h9 : ls[j]? with
        | none => rw [h9] at hq; cases hq
        | some o => rw [h9] at hq; simp only [Option.getD_some] at hq; rw [hq], rfl⟩
      obtain ⟨kk, hkk⟩ := List.getElem?_of_mem h1
      exact lv_iinc (v := x + am_ci a) hx hb hd hL.2.1 hkk (by rw [am_ci_eq]) (by rw [← hL.1]; exact hj) rfl (fun lsN hN => k lsN (am_Lr_set (v := .inl (x + am_ci a)) hL rfl hN))
    · rw [hq] at he; cases he
  case iadd =>
    obtain rfl : 1 = n := Nat.eq_of_beq_eq_true hl
    obtain ⟨y, x, r, rfl, rfl, rfl⟩ := b2 he
    exact lv_iadd hx hb hd (k lsJ hL)
  case isub =>
    obtain rfl : 1 = n := Nat.eq_of_beq_eq_true hl
    obtain ⟨y, x, r, rfl, rfl, rfl⟩ := b2 he
    exact lv_isub hx hb hd (k lsJ hL)
  case imul =>
    obtain rfl : 1 = n := Nat.eq_of_beq_eq_true hl
    obtain ⟨y, x, r, rfl, rfl, rfl⟩ := b2 he
    exact lv_imul hx hb hd (k lsJ hL)
  case iand =>
    obtain rfl : 1 = n := Nat.eq_of_beq_eq_true hl
    obtain ⟨y, x, r, rfl, rfl, rfl⟩ := b2 he
    exact lv_iand hx hb hd (k lsJ hL)
  case ior =>
    obtain rfl : 1 = n := Nat.eq_of_beq_eq_true hl
    obtain ⟨y, x, r, rfl, rfl, rfl⟩ := b2 he
    exact lv_ior hx hb hd (k lsJ hL)
  case ixor =>
    obtain rfl : 1 = n := Nat.eq_of_beq_eq_true hl
    obtain ⟨y, x, r, rfl, rfl, rfl⟩ := b2 he
    exact lv_ixor hx hb hd (k lsJ hL)
  case ishl =>
    obtain rfl : 1 = n := Nat.eq_of_beq_eq_true hl
    obtain ⟨y, x, r, rfl, rfl, rfl⟩ := b2 he
    exact lv_ishl hx hb hd (k lsJ hL)
  case ishr =>
    obtain rfl : 1 = n := Nat.eq_of_beq_eq_true hl
    obtain ⟨y, x, r, rfl, rfl, rfl⟩ := b2 he
    exact lv_ishr hx hb hd (k lsJ hL)
  case iushr =>
    obtain rfl : 1 = n := Nat.eq_of_beq_eq_true hl
    obtain ⟨y, x, r, rfl, rfl, rfl⟩ := b2 he
    exact lv_iushr hx hb hd rfl (k lsJ hL)
  case i2l =>
    obtain rfl : 1 = n := Nat.eq_of_beq_eq_true hl
    rcases st with _ | ⟨x | x, r⟩
    · cases he
    · cases he
      exact lv_i2l hx hb hd rfl (k lsJ hL)
    · cases he
  case i2c =>
    obtain rfl : 1 = n := Nat.eq_of_beq_eq_true hl
    rcases st with _ | ⟨x | x, r⟩
    · cases he
    · cases he
      exact lv_i2c hx hb hd rfl (k lsJ hL)
    · cases he
  case dup =>
    obtain rfl : 1 = n := Nat.eq_of_beq_eq_true hl
    rcases st with _ | ⟨x | x | x, r⟩
    · cases he
    · cases he
      exact lv_dup hx hb hd rfl (k lsJ hL)
    · cases he
      exact lv_dup hx hb hd (am_cat1 hfv rfl) (k lsJ hL)
    · cases he
  case dup2 =>
    obtain rfl : 1 = n := Nat.eq_of_beq_eq_true hl
    rcases st with _ | ⟨y | y, _ | ⟨x | x | x, r⟩⟩
    · cases he
    · cases he
    · cases he
    · cases he
      exact lv_dup2_11 hx hb hd rfl (am_cat1 hfv rfl) (k lsJ hL)
    · cases he
    · cases he
    · cases he
    · cases he
    · cases he
  case pop =>
    obtain rfl : 1 = n := Nat.eq_of_beq_eq_true hl
    rcases st with _ | ⟨x | x, r⟩
    · cases he
    · cases he
      exact lv_pop hx hb hd rfl (k lsJ hL)
    · cases he
  case ldc j =>
    obtain rfl : 2 = n := Nat.eq_of_beq_eq_true hl
    have he : (match am_ck (am_ow m) j with | some (.inl x) => some (ls, .inl x :: st) | some (.inr q) => some (ls, .inr (.inl (some (99, q))) :: st) | none => none) = some (ls', st') := he
    rcases hq : am_ck (am_ow m) j with _ | x | x
    · rw [hq] at he; cases he
    · rw [hq] at he
      cases he
      exact lv_ldc hx hb hown (hts _ (lw_G_in (am_ckF hq) rfl)) hd (k lsJ hL)
    · rw [hq] at he
      cases he
      obtain ⟨h1, q, h2, h3⟩ := am_ckS hq
      subst h3
      have hR := hXt.2.2.2.1 x q h2
      refine va_ldcS (own := am_cn (am_ow m)) (tx := q.2) (q := z.2.2.2.1 x) hx hb hown ?_ hd (k lsJ hL)
      rw [h1]
      exact hR
  case ldc_w j =>
    obtain rfl : 3 = n := Nat.eq_of_beq_eq_true hl
    have he : (match am_ck (am_ow m) j with | some (.inl x) => some (ls, .inl x :: st) | _ => none) = some (ls', st') := he
    rcases hq : am_ck (am_ow m) j with _ | x | x
    · rw [hq] at he; cases he
    · rw [hq] at he
      cases he
      exact lv_ldcw hx hb hown (hts _ (lw_G_in (am_ckF hq) rfl)) hd (k lsJ hL)
    · rw [hq] at he; cases he
  case ldc2_w j =>
    obtain rfl : 3 = n := Nat.eq_of_beq_eq_true hl
    have he : (match am_cl (am_ow m) j with | some x => some (ls, .inr (.inr x) :: st) | none => none) = some (ls', st') := he
    rcases hq : am_cl (am_ow m) j with _ | x
    · rw [hq] at he; cases he
    · rw [hq] at he
      cases he
      exact lv_ldc2 hx hb hown (hts _ (lw_G_in (am_clF hq) rfl)) hd (k lsJ hL)
  case getstatic j =>
    obtain rfl : 3 = n := Nat.eq_of_beq_eq_true hl
    have he : (match am_gs (am_ow m) j with | some (.inl x) => some (ls, .inl x :: st) | some (.inr q) => some (ls, .inr (.inl (some (q, 0))) :: st) | none => none) = some (ls', st') := he
    rcases hq : am_gs (am_ow m) j with _ | v
    · rw [hq] at he; cases he
    · rw [hq] at he
      rcases am_gsF hq with ⟨h1, rfl, h3⟩ | ⟨h1, rfl, h3⟩ | ⟨h1, rfl, h3⟩
      · cases he
        rw [h1] at hown
        exact va_gets hx hb hXt.2.2.2.2.1 hS hown (hts _ (lw_G_in h3 rfl)) (fun _ h9 => h9) hd (k lsJ hL)
      · cases he
        rw [h1] at hown
        exact va_gets hx hb hXt.2.2.2.2.2.2.1 hS hown (hts _ (lw_G_in h3 rfl)) (fun _ h9 => h9) hd (k lsJ hL)
      · cases he
        rw [h1] at hown
        exact va_gets hx hb hXt.2.2.2.2.2.2.2.1 hS hown (hts _ (lw_G_in h3 rfl)) (fun _ h9 => h9) hd (k lsJ hL)
  all_goals cases he
end
