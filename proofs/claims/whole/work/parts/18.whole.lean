/-! the claim out of a run of the law's rows over the list machine -/
set_option maxHeartbeats 4000000 in
theorem am_whole_of (hpure : ∀ E : am_E, E.1 ≤ 2048 → ∃ h' : am_H, am_ex (am_I1 E) mI_Law_law 0 (am_en mI_Law_law [.inr (.inl (some (97, 0)))]) [] [] = some (some (.inl 1), h') ∧ h'.length ≤ 600000 ∧ am_sl h' ≤ 7302250)
    {p : Program} {e : Env} {s : State} {m : MethodId} {below : List Frame} {meth : Method} {c : Code} (l : Launch) {b L : Nat} {xs : Nat → Int32} (hL : L ≤ 2048) (C0 : lw_At p s m meth c b L xs) : W p l e room_1 s m #[Value.ref b] below meth c s.heap [] 0 0 (lw_Z below #[Value.ref b] s) (entryFrame m ([Value.ref b] : List Value).toArray 4) := by
  obtain ⟨z, z1, z2, z3, hXt⟩ := am_start C0
  obtain ⟨h', hr, hc1, hc2⟩ := hpure (az_E z) (by rw [z3]; exact hL)
  obtain ⟨n, e0⟩ := am_X_ex hr
  obtain ⟨hx, hb, hret, hml, hown, hts, hX, hbl, hlocks, hgv⟩ := C0
  have hfv : az_fv z = .null ∨ ∃ a, az_fv z = .ref a := hXt.2.2.2.2.2.2.2.2.2.2.2.2.2
  have htG : ∀ w ∈ lw_G, w.before #[Value.ref b] s = true := fun w h => hts w (List.mem_filter.mp h).1
  have hval : ([Value.ref b] : List Value) = ([.inr (.inl (some (97, 0)))] : List am_V).map (am_vl z) := by
    show [Value.ref b] = [Value.ref z.2.2.1]
    rw [z2]
  have hent := am_entry (z := z) (m := mI_Law_law) (as := [.inr (.inl (some (97, 0)))]) hfv rfl
  have hS : va_S (az_A z) s.heap s.heap [] := va_S.rf
  have hW : am_W z [] s.heap := ⟨by rw [z1]; rfl, fun k q h => by simp [am_pi1] at h⟩
  rw [lg_entry_eq]
  rw [← hval] at hent
  refine am_body (z := z) (m := mI_Law_law) (R := room_1) (Cc := h'.length) (Cs := am_sl h') (fun c hc hlt => am_Mets l z (am_ht c + 1) c (Nat.lt_succ_self _) hc) hx hb (by decide) hml hown htG (fun h => by cases h) hXt (by decide) (by decide) (by decide) hc1 hc2 ?_ n 0 _ [] [] _ s.heap [] 0 0 e0 hent hW hS (by simp) (by simp [am_sl])
  intro pc lsJ H locs i hd hi hW1 hS1
  rcases hi with ⟨rfl, x, hx1, hz⟩ | ⟨rfl, ⟨x, hx1⟩, hz⟩ | ⟨rfl, hx1, hz⟩
  · cases hx1
    refine va_forget (fun q hq => by have := hS1.2.2 q hq; rw [← z1]; exact this) ?_
    refine W.widen (k := 600000) (n := 7302250) hc1 hc2 ?_
    exact lw_ret hx hb hret hlocks hd
  · cases hx1
  · cases hx1
/-! callees by computing, over a machine that never asks the script -/
def am_E0 : am_E := (0, fun _ => 0)
def am_al0 (h : am_H) (ty : Nat) (q : am_K) (i : Int32) : Bool × am_V := match Nat.beq q.1 97 with
  | true => (false, .inl 0)
  | false => am_al1 am_E0 h ty q i
def am_ln0 (h : am_H) (q : am_K) : Option Int32 := match Nat.beq q.1 97 with
  | true => none
  | false => am_ln1 am_E0 h q
def am_I0 : am_O am_H := (am_gf1, am_pf1, am_al0, am_as1, am_ln0, am_kl1, am_nw1, am_na1)
theorem am_al0_eq {E : am_E} {h : am_H} {ty : Nat} {q : am_K} {i : Int32} (e : (am_al0 h ty q i).1 = true) : am_al1 E h ty q i = am_al0 h ty q i := by
  unfold am_al0 at e ⊢
  cases hb : Nat.beq q.1 97 with
  | true => rw [hb] at e; cases e
  | false =>
    have hne : q.1 ≠ 97 := fun w => by rw [w] at hb; cases hb
    show am_al1 E h ty q i = am_al1 am_E0 h ty q i
    unfold am_al1
    split
    · rfl
    · rename_i w; exact absurd w hne
    · rfl
    · rfl
theorem am_ln0_eq {E : am_E} {h : am_H} {q : am_K} {x : Int32} (e : am_ln0 h q = some x) : am_ln1 E h q = some x := by
  unfold am_ln0 at e
  cases hb : Nat.beq q.1 97 with
  | true => rw [hb] at e; cases e
  | false =>
    rw [hb] at e
    have hne : q.1 ≠ 97 := fun w => by rw [w] at hb; cases hb
    have e : am_ln1 am_E0 h q = some x := e
    rw [← e]
    unfold am_ln1
    split
    · rfl
    · rename_i w; exact absurd w hne
    · rfl
    · rfl
theorem am_do_up {E : am_E} {call call' : Nat → List am_V → am_H → am_R am_H} {m kd c na : Nat} {st : List am_V} {h : am_H} {k : List am_V → am_H → am_R am_H} {R : Option am_V × am_H} (hc : ∀ c as h r, call c as h = some r → call' c as h = some r) (e : am_do am_I0 call m k kd c na st h = some R) : am_do (am_I1 E) call' m k kd c na st h = some R := by
  have hrc : am_rcv am_I0 h kd c (st.take na).reverse = am_rcv (am_I1 E) h kd c (st.take na).reverse := rfl
  unfold am_do at e ⊢
  rw [hrc] at e
  cases hb : (Nat.ble na st.length && (Nat.ble (st.length - na) 4 && (Nat.blt (am_ht c) (am_ht m) && am_rcv (am_I1 E) h kd c (st.take na).reverse))) with
  | false => rw [hb] at e; cases e
  | true =>
    rw [hb] at e
    have e : am_bd (am_rk c) (call c (st.take na).reverse h) (fun vs h' => k (vs ++ st.drop na) h') = some R := e
    show am_bd (am_rk c) (call' c (st.take na).reverse h) (fun vs h' => k (vs ++ st.drop na) h') = some R
    cases hcc : call c (st.take na).reverse h with
    | none =>
      rw [hcc] at e
      obtain ⟨_, _, g, _⟩ := am_bd_some e
      cases g
    | some r => rw [hcc] at e; rw [hc _ _ _ _ hcc]; exact e
theorem am_aL_up {E : am_E} {ty : Nat} {st : List am_V} {h : am_H} {k : List am_V → am_H → am_R am_H} {R : Option am_V × am_H} (e : am_aL am_I0 ty st h k = some R) : am_aL (am_I1 E) ty st h k = some R := by
  rcases st with _ | ⟨j | _, _ | ⟨_ | (_ | q) | _, r⟩⟩
  case cons.inl.cons.inr.inl.some =>
    obtain ⟨g1, g2⟩ := am_if_some (show am_if (am_al0 h ty q j).1 (k ((am_al0 h ty q j).2 :: r) h) = some R from e)
    show am_if (am_al1 E h ty q j).1 (k ((am_al1 E h ty q j).2 :: r) h) = some R
    rw [am_al0_eq g1, g1]
    exact g2
  all_goals cases e
theorem am_st_up {E : am_E} {call call' : Nat → List am_V → am_H → am_R am_H} {m : Nat} (hc : ∀ c as h r, call c as h = some r → call' c as h = some r) {k : Nat → am_L → List am_V → am_H → am_R am_H} {pc : Nat} {ls : am_L} {st : List am_V} {h : am_H} {R : Option am_V × am_H} (e : am_st am_I0 call m k pc ls st h = some R) : am_st (am_I1 E) call' m k pc ls st h = some R := by
  unfold am_st at e ⊢
  rcases hat : am_at m pc with _ | ⟨i, n⟩
  · rw [hat] at e; cases e
  · rw [hat] at e
    replace e : am_si am_I0 call m i n k pc ls st h = some R := e
    show am_si (am_I1 E) call' m i n k pc ls st h = some R
    unfold am_si at e ⊢
    generalize hkd : am_kd i = kd at e ⊢
    rcases kd with _ | _ | _ | _ | kd
    · exact e
    · replace e : am_h1 am_I0 call m i st h (fun st' h' => k (pc + n) ls st' h') = some R := e
      show am_h1 (am_I1 E) call' m i st h (fun st' h' => k (pc + n) ls st' h') = some R
      clear hkd hat
      cases i
      case iaload => exact am_aL_up e
      case baload => exact am_aL_up e
      case aaload => exact am_aL_up e
      case arraylength =>
        rcases st with _ | ⟨_ | (_ | q) | _, r⟩
        case cons.inr.inl.some =>
          replace e : (match am_ln0 h q with | some x => k (pc + n) ls (.inl x :: r) h | none => none) = some R := e
          show (match am_ln1 E h q with | some x => k (pc + n) ls (.inl x :: r) h | none => none) = some R
          cases hg : am_ln0 h q with
          | none => rw [hg] at e; cases e
          | some x => rw [hg] at e; rw [am_ln0_eq hg]; exact e
        all_goals cases e
      case invokevirtual x =>
        replace e : am_iv am_I0 call m (am_cm (am_ow m) x) st h (fun st' h' => k (pc + n) ls st' h') = some R := e
        show am_iv (am_I1 E) call' m (am_cm (am_ow m) x) st h (fun st' h' => k (pc + n) ls st' h') = some R
        unfold am_iv at e ⊢
        split at e
        · exact am_do_up hc e
        · cases e
      case invokestatic x =>
        replace e : am_is am_I0 call m (am_cm (am_ow m) x) st h (fun st' h' => k (pc + n) ls st' h') = some R := e
        show am_is (am_I1 E) call' m (am_cm (am_ow m) x) st h (fun st' h' => k (pc + n) ls st' h') = some R
        unfold am_is at e ⊢
        split at e
        · exact am_do_up hc e
        · exact am_do_up hc e
        · cases e
      case invokespecial x =>
        replace e : am_ip am_I0 call m (am_cm (am_ow m) x) st h (fun st' h' => k (pc + n) ls st' h') = some R := e
        show am_ip (am_I1 E) call' m (am_cm (am_ow m) x) st h (fun st' h' => k (pc + n) ls st' h') = some R
        unfold am_ip at e ⊢
        split at e
        · exact am_do_up hc e
        · exact am_do_up hc e
        · exact e
        · cases e
      all_goals exact e
    · exact e
    · exact e
    · exact e
theorem am_F_call {E : am_E} {call call' : Nat → List am_V → am_H → am_R am_H} {m : Nat} (hc : ∀ c as h r, call c as h = some r → call' c as h = some r) : ∀ (n pc : Nat) (ls : am_L) (st : List am_V) (h : am_H) (R : Option am_V × am_H), am_F am_I0 call m n pc ls st h = some R → am_F (am_I1 E) call' m n pc ls st h = some R := by
  intro n
  induction n with
  | zero => intro pc ls st h R e; cases e
  | succ n ih =>
    intro pc ls st h R e
    have e : am_st am_I0 call m (am_F am_I0 call m n) pc ls st h = some R := e
    show am_st (am_I1 E) call' m (am_F (am_I1 E) call' m n) pc ls st h = some R
    have e2 := am_st_up (E := E) hc e
    rcases am_lin (am_I1 E) call' m pc ls st h with ⟨q, hq⟩ | ⟨a, b, c, d, hq⟩
    · rw [hq] at e2 ⊢; exact e2
    · rw [hq] at e2 ⊢; exact ih _ _ _ _ _ e2
def am_cr (f : Nat) : Nat → Nat → List am_V → am_H → am_R am_H
  | 0 => fun _ _ _ => none
  | d + 1 => fun m as h => match Nat.beq (am_ht m) 0 || Nat.beq m mI_Mo_in with
    | true => none
    | false => am_if (am_nl m as) (am_F am_I0 (am_cr f d) m f 0 (am_en m as) [] h)
theorem am_cr_run (E : am_E) (f : Nat) : ∀ (d m : Nat) (as : List am_V) (h : am_H) (r : Option am_V × am_H), am_cr f d m as h = some r → am_run (am_I1 E) m as h = some r := by
  intro d
  induction d with
  | zero => intro m as h r e; cases e
  | succ d ih =>
    intro m as h r e
    have e : (match Nat.beq (am_ht m) 0 || Nat.beq m mI_Mo_in with | true => none | false => am_if (am_nl m as) (am_F am_I0 (am_cr f d) m f 0 (am_en m as) [] h)) = some r := e
    cases hb : (Nat.beq (am_ht m) 0 || Nat.beq m mI_Mo_in) with
    | true => rw [hb] at e; cases e
    | false =>
      rw [hb] at e
      rw [Bool.or_eq_false_iff] at hb
      have h0 : 0 < am_ht m := by
        rcases Nat.eq_zero_or_pos (am_ht m) with h | h
        · rw [h] at hb; cases hb.1
        · exact h
      obtain ⟨g1, e⟩ := am_if_some e
      rw [am_run_eq (am_I1 E) m h0 hb.2, g1]
      exact am_X_of (am_F_call (fun c as h r hh => ih c as h r hh) _ _ _ _ _ _ e)
/-- the memory at first -/
def am_w0 : List Int32 := [110, 101, 116, 0, 108, 105, 110, 107, 102, 108, 111, 119, 112, 111, 115, 116, 111, 108, 100, 0, 110, 101, 119, 0]
def am_M0 : am_M := fun k i s => match k with
  | 1 => ([2, 15, 6] : List Int32).getD s 0
  | 4 => ([0, 1, 1, -1] : List Int32).getD s 0
  | 5 => -1
  | 6 => -1
  | 18 => Int32.ofNat s
  | 25 => match s with
    | 0 => 2
    | 8 => 15
    | 9 => 6
    | _ => 0
  | 28 => 1
  | 29 => 1
  | 30 => -1
  | 31 => -1
  | 32 => -1
  | 43 => am_w0.getD s 0
  | _ => 0
def am_h44 : am_H := (am_hp am_M0).take 44
def am_eC (a b : am_C) : Bool := match a, b with
  | .inl x, .inl y => decide (x = y)
  | .inr (.inl x), .inr (.inl y) => decide (x = y)
  | .inr (.inr x), .inr (.inr y) => decide (x = y)
  | _, _ => false
theorem am_eC_eq {a b : am_C} (h : am_eC a b = true) : a = b := by
  rcases a with a | a | a <;> rcases b with b | b | b <;> first | (cases h; done) | exact congrArg _ (of_decide_eq_true h) | exact congrArg (fun q => Sum.inr (Sum.inl q)) (of_decide_eq_true h) | exact congrArg (fun q => Sum.inr (Sum.inr q)) (of_decide_eq_true h)
def am_eH : am_H → am_H → Bool
  | [], [] => true
  | a :: l, b :: k => am_eC a b && am_eH l k
  | _, _ => false
theorem am_eH_eq : ∀ {a b : am_H}, am_eH a b = true → a = b
  | [], [], _ => rfl
  | a :: l, b :: k, h => by
    have h : (am_eC a b && am_eH l k) = true := h
    rw [Bool.and_eq_true] at h
    rw [am_eC_eq h.1, am_eH_eq h.2]
  | [], _ :: _, h => by cases h
  | _ :: _, [], h => by cases h
def am_eR (a : am_R am_H) (b : am_H) : Bool := match a with
  | some (none, h) => am_eH h b
  | _ => false
theorem am_eR_eq {a : am_R am_H} {b : am_H} (h : am_eR a b = true) : a = some (none, b) := by
  rcases a with _ | ⟨_ | v, h'⟩
  · cases h
  · rw [am_eH_eq (show am_eH h' b = true from h)]
  · cases h
set_option maxRecDepth 1000000 in
theorem am_Mx0 : am_eR (am_cr 400 9 mI_Mx_init [.inr (.inl (some (0, 0)))] [.inl (8, am_df 8)]) am_h44 = true := by decide +kernel
set_option maxRecDepth 1000000 in
theorem am_Mo0 : am_eR (am_cr 3000 9 mI_Mo_init [.inr (.inl (some (25, 0)))] (am_h44 ++ [.inl (9, am_df 9)])) (am_hp am_M0) = true := by decide +kernel
theorem am_Mx1 (E : am_E) : am_run (am_I1 E) mI_Mx_init [.inr (.inl (some (0, 0)))] [.inl (8, am_df 8)] = some (none, am_h44) := am_cr_run E _ _ _ _ _ _ (am_eR_eq am_Mx0)
theorem am_Mo1 (E : am_E) : am_run (am_I1 E) mI_Mo_init [.inr (.inl (some (25, 0)))] (am_h44 ++ [.inl (9, am_df 9)]) = some (none, am_hp am_M0) := am_cr_run E _ _ _ _ _ _ (am_eR_eq am_Mo0)
theorem am_h44_nw : am_nw1 am_h44 9 = some ((25, 0), am_h44 ++ [.inl (9, am_df 9)]) := by
  unfold am_nw1
  rw [show (am_fr am_h44 && Nat.blt 9 10) = true by decide +kernel]
  show some (am_nm am_h44.length, am_h44 ++ [.inl (9, am_df 9)]) = _
  rw [show am_nm am_h44.length = (25, 0) by decide +kernel]
/-- the law comes to its loop with both objects made -/
theorem am_law0 (E : am_E) : am_ex (am_I1 E) mI_Law_law 0 (am_en mI_Law_law [.inr (.inl (some (97, 0)))]) [] [] = am_ex (am_I1 E) mI_Law_law 18 [some (.inr (.inl (some (97, 0)))), some (.inr (.inl (some (0, 0)))), some (.inr (.inl (some (25, 0)))), some (.inl 0)] [] (am_hp am_M0) := by
  have e1 : am_ex (am_I1 E) mI_Law_law 0 (am_en mI_Law_law [.inr (.inl (some (97, 0)))]) [] [] = am_bV (am_run (am_I1 E) mI_Mx_init [.inr (.inl (some (0, 0)))] [.inl (8, am_df 8)]) (fun h => am_ex (am_I1 E) mI_Law_law 7 [some (.inr (.inl (some (97, 0)))), none, none, none] [.inr (.inl (some (0, 0)))] h) := (am_ex_k _ _ (fun p => Nat.beq p 7) 5 _ _ _ _).trans rfl
  have e2 : ∀ h, am_ex (am_I1 E) mI_Law_law 7 [some (.inr (.inl (some (97, 0)))), none, none, none] [.inr (.inl (some (0, 0)))] h = am_nW (am_I1 E) (some 9) [] h (fun st' h' => am_ex (am_I1 E) mI_Law_law 11 [some (.inr (.inl (some (97, 0)))), some (.inr (.inl (some (0, 0)))), none, none] st' h') := fun h => (am_ex_k _ _ (fun p => Nat.beq p 11) 5 _ _ _ _).trans rfl
  have e3 : ∀ h, am_ex (am_I1 E) mI_Law_law 11 [some (.inr (.inl (some (97, 0)))), some (.inr (.inl (some (0, 0)))), none, none] [.inr (.inl (some (25, 0)))] h = am_bV (am_run (am_I1 E) mI_Mo_init [.inr (.inl (some (25, 0)))] h) (fun h' => am_ex (am_I1 E) mI_Law_law 18 [some (.inr (.inl (some (97, 0)))), some (.inr (.inl (some (0, 0)))), some (.inr (.inl (some (25, 0)))), some (.inl 0)] [] h') := fun h => (am_ex_k _ _ (fun p => Nat.beq p 18) 9 _ _ _ _).trans rfl
  rw [e1, am_Mx1]
  show am_ex (am_I1 E) mI_Law_law 7 _ _ am_h44 = _
  rw [e2]
  have e4 : am_nW (am_I1 E) (some 9) [] am_h44 (fun st' h' => am_ex (am_I1 E) mI_Law_law 11 [some (.inr (.inl (some (97, 0)))), some (.inr (.inl (some (0, 0)))), none, none] st' h') = am_ex (am_I1 E) mI_Law_law 11 [some (.inr (.inl (some (97, 0)))), some (.inr (.inl (some (0, 0)))), none, none] [.inr (.inl (some (25, 0)))] (am_h44 ++ [.inl (9, am_df 9)]) := by
    unfold am_nW
    simp only [am_I1, am_h44_nw]
  rw [e4, e3, am_Mo1]
  rfl
theorem am_hp_len (M : am_M) : (am_hp M).length ≤ 600000 := by
  unfold am_hp
  rw [List.length_map]
  decide
theorem am_sl_gen {L : List am_K} {g g' : am_K → am_C} (h : ∀ q, am_sc (g q) = am_sc (g' q)) : am_sl (L.map g) = am_sl (L.map g') := by
  unfold am_sl
  rw [List.map_map, List.map_map]
  congr 1
  apply List.map_congr_left
  intro q _
  exact h q
theorem am_ac2_sc (M M' : am_M) (q : am_K) (a : Nat × Nat) : am_sc (am_ac2 M q a) = am_sc (am_ac2 M' q a) := by
  obtain ⟨t, n⟩ := a
  rcases t with _ | _ | _ | t
  · rw [am_ac20, am_ac20]; simp only [am_sc, List.length_map]
  · rw [show am_ac2 M q (0 + 1, n) = _ from am_ac21 M q n, show am_ac2 M' q (0 + 1, n) = _ from am_ac21 M' q n]; simp only [am_sc, List.length_map]
  · rw [show am_ac2 M q (0 + 1 + 1, n) = _ from am_ac22 M q n, show am_ac2 M' q (0 + 1 + 1, n) = _ from am_ac22 M' q n]
  · have e : ∀ M : am_M, am_ac2 M q (t + 1 + 1 + 1, n) = .inr (.inr (3, (List.range n).map (fun i => some (19, am_lx (M q.1 q.2 i))))) := fun _ => rfl
    rw [e, e]; simp only [am_sc, List.length_map]
theorem am_co_sc (M M' : am_M) (q : am_K) : am_sc (am_co M q) = am_sc (am_co M' q) := by
  unfold am_co
  generalize (am_ka q.1).getD (0, 0) = a
  generalize am_kc q.1 = o
  cases o with
  | some c => simp only [am_sc, List.length_map]
  | none => exact am_ac2_sc M M' q a
theorem am_sl0 : am_sl (am_hp am_M0) ≤ 7302250 := by decide +kernel
theorem am_hp_sl1 (M M' : am_M) : am_sl (am_hp M) = am_sl (am_hp M') := by
  unfold am_hp
  exact am_sl_gen (am_co_sc M M')
theorem am_hp_sl (M : am_M) : am_sl (am_hp M) ≤ 7302250 := by
  rw [am_hp_sl1 M am_M0]
  exact am_sl0
/-- WHAT IS LEFT: the law's loop over the memory machine -/
theorem am_whole_mem (hloop : ∀ E : am_E, E.1 ≤ 2048 → ∃ M' : am_M, am_ex (am_I2 E) mI_Law_law 18 [some (.inr (.inl (some (97, 0)))), some (.inr (.inl (some (0, 0)))), some (.inr (.inl (some (25, 0)))), some (.inl 0)] [] am_M0 = some (some (.inl 1), M')) :
    ∀ E : am_E, E.1 ≤ 2048 → ∃ h' : am_H, am_ex (am_I1 E) mI_Law_law 0 (am_en mI_Law_law [.inr (.inl (some (97, 0)))]) [] [] = some (some (.inl 1), h') ∧ h'.length ≤ 600000 ∧ am_sl h' ≤ 7302250 := by
  intro E hE
  obtain ⟨M', e⟩ := hloop E hE
  refine ⟨am_hp M', ?_, am_hp_len M', am_hp_sl M'⟩
  rw [am_law0]
  obtain ⟨n, e⟩ := am_X_ex e
  have hV : am_VL [some (.inr (.inl (some (97, 0)))), some (.inr (.inl (some (0, 0)))), some (.inr (.inl (some (25, 0)))), some (.inl 0)] := by
    intro i v hi
    match i, hi with
    | 0, hi => cases hi; exact Or.inr ⟨by show 95 ≤ 97; omega, fun w => by rcases w with w | w <;> cases w⟩
    | 1, hi => cases hi; exact Or.inl ⟨by show 0 < 95; omega, rfl⟩
    | 2, hi => cases hi; exact Or.inl ⟨by show 25 < 95; omega, rfl⟩
    | 3, hi => cases hi; exact trivial
    | n + 4, hi => cases hi
  exact am_X_of (am_F_sim (m := mI_Law_law) (E := E) (fun c _ => am_run_sim E (am_ht c + 1) c (Nat.lt_succ_self _)) n _ _ _ _ _ _ hV (fun v hv => by cases hv) e).1
