/-! heaps only grow; jumps -/
theorem am_pf1_ln (h : am_H) (q : am_K) (ci f : Nat) (v : am_V) : (am_pf1 h q ci f v).2.length = h.length ∧ am_sl (am_pf1 h q ci f v).2 = am_sl h := by
  unfold am_pf1
  rcases hc : am_hg h q with _ | ⟨c0, fs⟩ | c
  · exact ⟨rfl, rfl⟩
  · exact ⟨List.length_set, am_sl_set (am_hgF hc).2 (by show (fs.set f v).length = fs.length; rw [List.length_set])⟩
  · exact ⟨rfl, rfl⟩
theorem am_as1_ln (h : am_H) (ty : Nat) (q : am_K) (i : Int32) (v : am_V) : (am_as1 h ty q i v).2.length = h.length ∧ am_sl (am_as1 h ty q i v).2 = am_sl h := by
  unfold am_as1
  rcases hc : am_hg h q with _ | c | ⟨t, a⟩ | ⟨t, a⟩
  · exact ⟨rfl, rfl⟩
  · exact ⟨rfl, rfl⟩
  · rcases v with x | v
    · exact ⟨List.length_set, am_sl_set (am_hgF hc).2 (by show (a.set (am_ix i) x).length = a.length; rw [List.length_set])⟩
    · exact ⟨rfl, rfl⟩
  · rcases v with x | (_ | y) | x
    · exact ⟨rfl, rfl⟩
    · exact ⟨rfl, rfl⟩
    · exact ⟨List.length_set, am_sl_set (am_hgF hc).2 (by show (a.set (am_ix i) (some y)).length = a.length; rw [List.length_set])⟩
    · exact ⟨rfl, rfl⟩
def am_le (h h' : am_H) : Prop := h.length ≤ h'.length ∧ am_sl h ≤ am_sl h'
theorem am_le_rf (h : am_H) : am_le h h := ⟨Nat.le_refl _, Nat.le_refl _⟩
theorem am_le_tr {a b c : am_H} (h1 : am_le a b) (h2 : am_le b c) : am_le a c := ⟨Nat.le_trans h1.1 h2.1, Nat.le_trans h1.2 h2.2⟩
theorem am_le_eq {a b : am_H} (h : b.length = a.length ∧ am_sl b = am_sl a) : am_le a b := ⟨Nat.le_of_eq h.1.symm, Nat.le_of_eq h.2.symm⟩
theorem am_le_app (h : am_H) (c : am_C) : am_le h (h ++ [c]) := ⟨by simp, by rw [am_sl_app]; omega⟩
theorem am_bd_some {α β : Type} {rk : Nat} {x : Option (Option am_V × α)} {k : List am_V → α → Option β} {R : β} (h : am_bd rk x k = some R) : ∃ r h', x = some (r, h') ∧ k r.toList h' = some R := by
  rcases rk with _ | _ | _ | _ | rk
  · rcases x with _ | ⟨_ | v, h'⟩
    · cases h
    · exact ⟨none, h', rfl, h⟩
    · cases h
  · rcases x with _ | ⟨_ | v | v, h'⟩
    · cases h
    · cases h
    · exact ⟨_, h', rfl, h⟩
    · cases h
  · rcases x with _ | ⟨_ | v | v, h'⟩
    · cases h
    · cases h
    · exact ⟨_, h', rfl, h⟩
    · cases h
  · rcases x with _ | ⟨_ | v | v | v, h'⟩
    · cases h
    · cases h
    · cases h
    · exact ⟨_, h', rfl, h⟩
    · cases h
  · rcases x with _ | ⟨_ | v | v, h'⟩
    · cases h
    · cases h
    · exact ⟨_, h', rfl, h⟩
    · cases h
/-- what a call of the machine says -/
theorem am_do_some {E : am_E} {call : Nat → List am_V → am_H → am_R am_H} {m kd c na : Nat} {k : List am_V → am_H → am_R am_H} {st : List am_V} {h : am_H} {R : Option am_V × am_H} (e : am_do (am_I1 E) call m k kd c na st h = some R) :
    na ≤ st.length ∧ st.length - na ≤ 4 ∧ am_ht c < am_ht m ∧ am_rcv (am_I1 E) h kd c (st.take na).reverse = true ∧ ∃ r h', call c (st.take na).reverse h = some (r, h') ∧ k (r.toList ++ st.drop na) h' = some R := by
  unfold am_do at e
  cases hb : (Nat.ble na st.length && (Nat.ble (st.length - na) 4 && (Nat.blt (am_ht c) (am_ht m) && am_rcv (am_I1 E) h kd c (st.take na).reverse))) with
  | false => rw [hb] at e; cases e
  | true =>
    rw [hb] at e
    simp only [Bool.and_eq_true] at hb
    obtain ⟨b1, b2, b3, b4⟩ := hb
    obtain ⟨r, h', g1, g2⟩ := am_bd_some e
    exact ⟨Nat.le_of_ble_eq_true b1, Nat.le_of_ble_eq_true b2, Nat.le_of_ble_eq_true b3, b4, r, h', g1, g2⟩
theorem am_h1_le {E : am_E} {call : Nat → List am_V → am_H → am_R am_H} {m : Nat} (hcall : ∀ c as h r h', am_ht c < am_ht m → call c as h = some (r, h') → am_le h h') {i : Instr} {st : List am_V} {h : am_H} {k : List am_V → am_H → am_R am_H} {R : Option am_V × am_H} (e : am_h1 (am_I1 E) call m i st h k = some R) : ∃ st' h', k st' h' = some R ∧ am_le h h' := by
  have gdo : ∀ {kd c na : Nat}, am_do (am_I1 E) call m k kd c na st h = some R → ∃ st' h', k st' h' = some R ∧ am_le h h' := by
    intro kd c na e
    obtain ⟨-, -, b3, -, r, h', g1, g2⟩ := am_do_some e
    exact ⟨_, h', g2, hcall _ _ _ _ _ b3 g1⟩
  cases i
  case getfield x =>
    have e : am_gF (am_I1 E) (am_cf (am_ow m) x) st h k = some R := e
    rcases ht : am_cf (am_ow m) x with _ | ⟨ci, f⟩
    · rw [ht] at e; cases e
    · rw [ht] at e
      rcases st with _ | ⟨_ | (_ | q) | _, r⟩
      · cases e
      · cases e
      · cases e
      · have e : (match am_gf1 h q ci f with | some v => k (v :: r) h | none => none) = some R := e
        cases hg : am_gf1 h q ci f with
        | none => rw [hg] at e; cases e
        | some v => rw [hg] at e; exact ⟨_, h, e, am_le_rf h⟩
      · cases e
  case putfield x =>
    have e : am_pF (am_I1 E) m (am_cf (am_ow m) x) st h k = some R := e
    rcases ht : am_cf (am_ow m) x with _ | ⟨ci, f⟩
    · rw [ht] at e; cases e
    · rw [ht] at e
      rcases st with _ | ⟨v, _ | ⟨_ | (_ | q) | _, r⟩⟩
      · cases e
      · cases e
      · cases e
      · cases e
      · obtain ⟨-, e⟩ := am_if_some (show am_if (am_fo m ci f) (am_if (am_pf1 h q ci f v).1 (k r (am_pf1 h q ci f v).2)) = some R from e)
        obtain ⟨-, e⟩ := am_if_some e
        exact ⟨_, _, e, am_le_eq (am_pf1_ln h q ci f v)⟩
      · cases e
  case iaload =>
    rcases st with _ | ⟨j | _, _ | ⟨_ | (_ | q) | _, r⟩⟩
    case cons.inl.cons.inr.inl.some => exact ⟨_, h, (am_if_some (show am_if (am_al1 E h 0 q j).1 (k ((am_al1 E h 0 q j).2 :: r) h) = some R from e)).2, am_le_rf h⟩
    all_goals cases e
  case baload =>
    rcases st with _ | ⟨j | _, _ | ⟨_ | (_ | q) | _, r⟩⟩
    case cons.inl.cons.inr.inl.some => exact ⟨_, h, (am_if_some (show am_if (am_al1 E h 1 q j).1 (k ((am_al1 E h 1 q j).2 :: r) h) = some R from e)).2, am_le_rf h⟩
    all_goals cases e
  case aaload =>
    rcases st with _ | ⟨j | _, _ | ⟨_ | (_ | q) | _, r⟩⟩
    case cons.inl.cons.inr.inl.some => exact ⟨_, h, (am_if_some (show am_if (am_al1 E h 2 q j).1 (k ((am_al1 E h 2 q j).2 :: r) h) = some R from e)).2, am_le_rf h⟩
    all_goals cases e
  case iastore =>
    rcases st with _ | ⟨v, _ | ⟨j | _, _ | ⟨_ | (_ | q) | _, r⟩⟩⟩
    case cons.cons.inl.cons.inr.inl.some => exact ⟨_, _, (am_if_some (show am_if (am_as1 h 0 q j v).1 (k r (am_as1 h 0 q j v).2) = some R from e)).2, am_le_eq (am_as1_ln h 0 q j v)⟩
    all_goals cases e
  case bastore =>
    rcases st with _ | ⟨v, _ | ⟨j | _, _ | ⟨_ | (_ | q) | _, r⟩⟩⟩
    case cons.cons.inl.cons.inr.inl.some => exact ⟨_, _, (am_if_some (show am_if (am_as1 h 1 q j v).1 (k r (am_as1 h 1 q j v).2) = some R from e)).2, am_le_eq (am_as1_ln h 1 q j v)⟩
    all_goals cases e
  case aastore =>
    rcases st with _ | ⟨v, _ | ⟨j | _, _ | ⟨_ | (_ | q) | _, r⟩⟩⟩
    case cons.cons.inl.cons.inr.inl.some => exact ⟨_, _, (am_if_some (show am_if (am_as1 h 2 q j v).1 (k r (am_as1 h 2 q j v).2) = some R from e)).2, am_le_eq (am_as1_ln h 2 q j v)⟩
    all_goals cases e
  case arraylength =>
    rcases st with _ | ⟨_ | (_ | q) | _, r⟩
    case cons.inr.inl.some =>
      have e : (match am_ln1 E h q with | some x => k (.inl x :: r) h | none => none) = some R := e
      cases hg : am_ln1 E h q with
      | none => rw [hg] at e; cases e
      | some v => rw [hg] at e; exact ⟨_, h, e, am_le_rf h⟩
    all_goals cases e
  case new x =>
    have e : am_nW (am_I1 E) (am_cc (am_ow m) x) st h k = some R := e
    rcases ht : am_cc (am_ow m) x with _ | ci
    · rw [ht] at e; cases e
    · rw [ht] at e
      rcases hg : am_nw1 h ci with _ | ⟨q, h'⟩
      · have e2 : am_nW (am_I1 E) (some ci) st h k = none := by unfold am_nW; simp only [am_I1, hg]
        rw [e2] at e; cases e
      · have e2 : am_nW (am_I1 E) (some ci) st h k = k (.inr (.inl (some q)) :: st) h' := by unfold am_nW; simp only [am_I1, hg]
        rw [e2] at e
        refine ⟨_, h', e, ?_⟩
        unfold am_nw1 at hg
        split at hg
        · cases hg; exact am_le_app _ _
        · cases hg
  case newarray x =>
    have e : am_nA (am_I1 E) (am_aT x) st h k = some R := e
    rcases ht : am_aT x with _ | t
    · rw [ht] at e; cases e
    · rw [ht] at e
      rcases st with _ | ⟨j | _, r⟩
      · cases e
      · exact ⟨_, _, (am_if_some (show am_if (am_na1 h t j).1 (k (.inr (.inl (some (am_na1 h t j).2.1)) :: r) (am_na1 h t j).2.2) = some R from e)).2, am_le_app _ _⟩
      · cases e
  case anewarray x =>
    have e : am_nA (am_I1 E) (am_ac (am_cc (am_ow m) x)) st h k = some R := e
    rcases ht : am_ac (am_cc (am_ow m) x) with _ | t
    · rw [ht] at e; cases e
    · rw [ht] at e
      rcases st with _ | ⟨j | _, r⟩
      · cases e
      · exact ⟨_, _, (am_if_some (show am_if (am_na1 h t j).1 (k (.inr (.inl (some (am_na1 h t j).2.1)) :: r) (am_na1 h t j).2.2) = some R from e)).2, am_le_app _ _⟩
      · cases e
  case invokevirtual x =>
    have e : am_iv (am_I1 E) call m (am_cm (am_ow m) x) st h k = some R := e
    unfold am_iv at e
    split at e
    · exact gdo e
    · cases e
  case invokestatic x =>
    have e : am_is (am_I1 E) call m (am_cm (am_ow m) x) st h k = some R := e
    unfold am_is at e
    split at e
    · exact gdo e
    · exact gdo e
    · cases e
  case invokespecial x =>
    have e : am_ip (am_I1 E) call m (am_cm (am_ow m) x) st h k = some R := e
    unfold am_ip at e
    split at e
    · exact gdo e
    · exact gdo e
    · rcases st with _ | ⟨_ | (_ | q) | _, r⟩
      · cases e
      · cases e
      · cases e
      · exact ⟨_, h, (am_if_some (show am_if (Nat.blt q.1 95 && Nat.ble r.length 4) (k r h) = some R from e)).2, am_le_rf h⟩
      · cases e
    · cases e
  all_goals cases e
/-- a jump goes on at one place, or nowhere -/
def am_Ln {A B R : Type} (f : (A → B → Option R) → Option R) : Prop := (∀ k, f k = none) ∨ ∃ a b, ∀ k, f k = k a b
theorem am_Ln_0 {A B R : Type} : am_Ln (fun _ : A → B → Option R => none) := Or.inl fun _ => rfl
theorem am_Ln_1 {A B R : Type} (a : A) (c : B) : am_Ln (fun k : A → B → Option R => k a c) := Or.inr ⟨a, c, fun _ => rfl⟩
theorem am_Ln_if {A B R : Type} (b : Bool) (a : A) (c : B) : am_Ln (fun k : A → B → Option R => am_if b (k a c)) := by
  cases b
  · exact Or.inl fun _ => rfl
  · exact Or.inr ⟨a, c, fun _ => rfl⟩
theorem am_Ln_br {R : Type} (pc : Nat) (off : Int) (r : List am_V) : am_Ln (fun k : Nat → List am_V → Option R => am_br pc off (fun t => k t r)) := by
  unfold am_br
  generalize (pc : Int) + off = z
  cases z
  · exact am_Ln_1 _ _
  · exact am_Ln_0
theorem am_Ln_ite {A B R : Type} {f g : (A → B → Option R) → Option R} (c : Prop) [Decidable c] (hf : am_Ln f) (hg : am_Ln g) : am_Ln (fun k => if c then f k else g k) := by
  by_cases h : c
  · simp only [if_pos h]; exact hf
  · simp only [if_neg h]; exact hg
section
variable {Hp : Type}
theorem am_Ln_h2 (i : Instr) (pc n : Nat) (st : List am_V) : am_Ln (fun k : Nat → List am_V → am_R Hp => am_h2 i pc n st k) := by
  cases i
  case goto off => exact am_Ln_br pc off st
  case ifCond c off =>
    rcases st with _ | ⟨x | _, r⟩
    · exact am_Ln_0
    · cases c
      · exact am_Ln_ite (x = 0) (am_Ln_br pc off r) (am_Ln_1 _ _)
      · exact am_Ln_ite (x = 0) (am_Ln_1 _ _) (am_Ln_br pc off r)
      · exact am_Ln_ite (x < 0) (am_Ln_br pc off r) (am_Ln_1 _ _)
      · exact am_Ln_ite (x < 0) (am_Ln_1 _ _) (am_Ln_br pc off r)
      · exact am_Ln_ite (x ≤ 0) (am_Ln_1 _ _) (am_Ln_br pc off r)
      · exact am_Ln_ite (x ≤ 0) (am_Ln_br pc off r) (am_Ln_1 _ _)
    · exact am_Ln_0
  case if_icmp c off =>
    rcases st with _ | ⟨y | _, _ | ⟨x | _, r⟩⟩
    · exact am_Ln_0
    · exact am_Ln_0
    · cases c
      · exact am_Ln_ite (x = y) (am_Ln_br pc off r) (am_Ln_1 _ _)
      · exact am_Ln_ite (x = y) (am_Ln_1 _ _) (am_Ln_br pc off r)
      · exact am_Ln_ite (x < y) (am_Ln_br pc off r) (am_Ln_1 _ _)
      · exact am_Ln_ite (x < y) (am_Ln_1 _ _) (am_Ln_br pc off r)
      · exact am_Ln_ite (x ≤ y) (am_Ln_1 _ _) (am_Ln_br pc off r)
      · exact am_Ln_ite (x ≤ y) (am_Ln_br pc off r) (am_Ln_1 _ _)
    · exact am_Ln_0
    · exact am_Ln_0
    · exact am_Ln_0
    · exact am_Ln_0
  case ifnull off =>
    rcases st with _ | ⟨_ | (_ | q) | _, r⟩
    · exact am_Ln_0
    · exact am_Ln_0
    · exact am_Ln_br pc off r
    · exact am_Ln_if _ _ _
    · exact am_Ln_0
  case ifnonnull off =>
    rcases st with _ | ⟨_ | (_ | q) | _, r⟩
    · exact am_Ln_0
    · exact am_Ln_0
    · exact am_Ln_1 _ _
    · exact am_Ln_ite _ (am_Ln_br pc off r) (am_Ln_0)
    · exact am_Ln_0
  case tableswitch d lo hi offs =>
    rcases st with _ | ⟨x | _, r⟩
    · exact am_Ln_0
    · refine am_Ln_ite _ ?_ (am_Ln_0)
      generalize offs.toList = l
      induction l generalizing lo with
      | nil => exact am_Ln_br pc d r
      | cons o os ih => exact am_Ln_ite (x = am_ci lo) (am_Ln_br pc o r) (ih (lo + 1))
    · exact am_Ln_0
  all_goals exact am_Ln_0
end
theorem am_st_le {E : am_E} {call : Nat → List am_V → am_H → am_R am_H} {m : Nat} (hcall : ∀ c as h r h', am_ht c < am_ht m → call c as h = some (r, h') → am_le h h') {pc : Nat} {ls : am_L} {st : List am_V} {h : am_H} {k : Nat → am_L → List am_V → am_H → am_R am_H} {R : Option am_V × am_H} (e : am_st (am_I1 E) call m k pc ls st h = some R) : (∃ a b c d, k a b c d = some R ∧ am_le h d) ∨ am_le h R.2 := by
  unfold am_st at e
  rcases hat : am_at m pc with _ | ⟨i, n⟩
  · rw [hat] at e; cases e
  · rw [hat] at e
    have e : am_si (am_I1 E) call m i n k pc ls st h = some R := e
    unfold am_si at e
    have h0 : (match am_pu (am_ow m) i ls st with | some (ls', st') => k (pc + n) ls' st' h | none => none) = some R → ∃ a b c d, k a b c d = some R ∧ am_le h d := by
      intro e
      rcases hp : am_pu (am_ow m) i ls st with _ | ⟨l', s'⟩
      · rw [hp] at e; cases e
      · rw [hp] at e; exact ⟨_, _, _, h, e, am_le_rf h⟩
    generalize am_kd i = kd at e
    rcases kd with _ | _ | _ | _ | kd
    · exact Or.inl (h0 e)
    · obtain ⟨a, b, g1, g2⟩ := am_h1_le hcall e
      exact Or.inl ⟨_, _, _, _, g1, g2⟩
    · have e : am_h2 i pc n st (fun pc' st' => k pc' ls st' h) = some R := e
      rcases am_Ln_h2 (Hp := am_H) i pc n st with hr | ⟨a, b, hr⟩
      · have h1 : am_h2 i pc n st (fun pc' st' => k pc' ls st' h) = none := hr _
        rw [h1] at e
        cases e
      · have h1 : am_h2 i pc n st (fun pc' st' => k pc' ls st' h) = k a ls b h := hr _
        rw [h1] at e
        exact Or.inl ⟨_, _, _, h, e, am_le_rf h⟩
    · have e : am_h3 m i st h = some R := e
      refine Or.inr ?_
      cases i
      case ireturn =>
        rcases st with _ | ⟨x | _, _ | _⟩
        · cases e
        · obtain ⟨-, e⟩ := am_if_some (show am_if (am_rz (am_rk m) x) (some (some (.inl x), h)) = some R from e)
          cases e; exact am_le_rf h
        · cases e
        · cases e
        · cases e
      case areturn =>
        rcases st with _ | ⟨_ | x | _, _ | _⟩
        · cases e
        · cases e
        · cases e
        · obtain ⟨-, e⟩ := am_if_some (show am_if (Nat.beq (am_rk m) 3) (some (some (.inr (.inl x)), h)) = some R from e)
          cases e; exact am_le_rf h
        · cases e
        · cases e
        · cases e
      case return_ =>
        rcases st with _ | ⟨_, _⟩
        · obtain ⟨-, e⟩ := am_if_some (show am_if (Nat.beq (am_rk m) 0) (some (none, h)) = some R from e)
          cases e; exact am_le_rf h
        · cases e
      all_goals cases e
    · exact Or.inl (h0 e)
theorem am_F_mono {E : am_E} {call : Nat → List am_V → am_H → am_R am_H} {m : Nat} (hcall : ∀ c as h r h', am_ht c < am_ht m → call c as h = some (r, h') → am_le h h') : ∀ (n pc : Nat) (ls : am_L) (st : List am_V) (h : am_H) (R : Option am_V × am_H), am_F (am_I1 E) call m n pc ls st h = some R → am_le h R.2 := by
  intro n
  induction n with
  | zero => intro pc ls st h R e; cases e
  | succ n ih =>
    intro pc ls st h R e
    rcases am_st_le hcall (show am_st (am_I1 E) call m (am_F (am_I1 E) call m n) pc ls st h = some R from e) with ⟨a, b, c, d, g1, g2⟩ | g
    · exact am_le_tr g2 (ih _ _ _ _ _ g1)
    · exact g
theorem am_run_le (E : am_E) : ∀ (d m : Nat), am_ht m < d → ∀ as h r h', am_run (am_I1 E) m as h = some (r, h') → am_le h h' := by
  intro d
  induction d with
  | zero => intro m hm; exact absurd hm (Nat.not_lt_zero _)
  | succ d ih =>
    intro m hm as h r h' e
    by_cases h0 : 0 < am_ht m
    · cases hn : Nat.beq m mI_Mo_in with
      | true =>
        have := Nat.eq_of_beq_eq_true hn
        subst this
        have e : am_nt as h = some (r, h') := e
        unfold am_nt at e
        split at e
        · cases e; exact am_le_rf h
        · cases e
      | false =>
        rw [am_run_eq (am_I1 E) m h0 hn] at e
        obtain ⟨-, e⟩ := am_if_some e
        obtain ⟨n, e⟩ := am_X_ex e
        exact am_F_mono (fun c as h r h' hc e => ih c (by omega) as h r h' e) n _ _ _ _ _ e
    · exfalso
      unfold am_run at e
      rw [show am_ht m = 0 by omega] at e
      cases e
/-- jumps -/
theorem am_br_some {α : Type} {pc : Nat} {off : Int} {k : Nat → Option α} {R : α} (e : am_br pc off k = some R) : ∃ t : Nat, (pc : Int) + off = (t : Int) ∧ k t = some R := by
  unfold am_br at e
  cases hz : (pc : Int) + off with
  | ofNat t => rw [hz] at e; exact ⟨t, rfl, e⟩
  | negSucc t => rw [hz] at e; cases e
theorem am_ts_eq {α : Type} {x : Int32} {pc : Nat} {d : Int} {k : Nat → Option α} : ∀ (os : List Int) (lo : Int), -2000 ≤ lo → lo + os.length ≤ 4000 → am_ts x pc d k os lo = if lo ≤ x.toInt ∧ x.toInt < lo + os.length then am_br pc (os.getD (x.toInt - lo).toNat 0) k else am_br pc d k := by
  intro os
  induction os with
  | nil =>
    intro lo h1 h2
    rw [if_neg (by simp only [List.length_nil]; omega)]
    rfl
  | cons o os ih =>
    intro lo h1 h2
    show (if x = am_ci lo then am_br pc o k else am_ts x pc d k os (lo + 1)) = _
    simp only [List.length_cons] at h2 ⊢
    have hci : (am_ci lo).toInt = lo := by
      rw [← am_ci_eq, Int32.toInt_ofInt_of_le (by simp; omega) (by simp; omega)]
    by_cases hx : x = am_ci lo
    · rw [if_pos hx]
      have hxl : x.toInt = lo := by rw [hx, hci]
      rw [if_pos (by omega), hxl]
      simp
    · rw [if_neg hx, ih (lo + 1) (by omega) (by push_cast at h2; omega)]
      have hne : x.toInt ≠ lo := fun w => hx (Int32.toInt_inj.mp (by rw [hci]; exact w))
      by_cases hr : lo + 1 ≤ x.toInt ∧ x.toInt < lo + 1 + os.length
      · rw [if_pos hr, if_pos (by push_cast; omega)]
        congr 1
        have : (x.toInt - lo).toNat = (x.toInt - (lo + 1)).toNat + 1 := by omega
        rw [this]
        simp
      · rw [if_neg hr, if_neg (by push_cast; omega)]
section
variable {p : Program} {l : Launch} {e : Env} {R : Room} {s : State} {mid : MethodId} {args : Array Value} {below : List Frame} {meth : Method} {c : Code} {H : Heap} {locs : List Loc} {cells slots : Nat} {Q : State → Prop} {z : am_N} {pc n m : Nat} {st : List am_V} {lsJ : Array Slot} {i : Instr}
theorem am_h2_W (hx : p.tables.exec = Jvm.exec) (hb : c.code = am_by m) (hd : decode (am_by m) pc = .ok (i, n)) (hl : am_lk1 i n = true) (hj : am_jk pc i = true) {k : Nat → List am_V → am_R am_H} {Rr : Option am_V × am_H} (he : am_h2 i pc n st k = some Rr)
    (K : ∀ pc' st', k pc' st' = some Rr → W p l e R s mid args below meth c H locs cells slots Q (F0 mid pc' lsJ (st'.map (am_vl z)))) : W p l e R s mid args below meth c H locs cells slots Q (F0 mid pc lsJ (st.map (am_vl z))) := by
  have tg : ∀ {o : Int}, decide (0 ≤ (pc : Int) + o) = true → ∃ t : Nat, (pc : Int) + o = (t : Int) := by
    intro o ho
    have := of_decide_eq_true ho
    exact ⟨((pc : Int) + o).toNat, by omega⟩
  have br : ∀ {o : Int} {t : Nat} {r : List am_V}, (pc : Int) + o = (t : Int) → am_br pc o (fun t => k t r) = some Rr → W p l e R s mid args below meth c H locs cells slots Q (F0 mid t lsJ (r.map (am_vl z))) := by
    intro o t r ht he
    obtain ⟨t', h1, h2⟩ := am_br_some he
    have : t = t' := by omega
    subst this
    exact K _ _ h2
  cases i
  case goto off =>
    obtain rfl : 3 = n := Nat.eq_of_beq_eq_true hl
    obtain ⟨t, h1, h2⟩ := am_br_some (show am_br pc off (fun t => k t st) = some Rr from he)
    exact lv_goto hx hb hd h1 (K _ _ h2)
  case ifCond cnd off =>
    obtain rfl : 3 = n := Nat.eq_of_beq_eq_true hl
    obtain ⟨t, ht⟩ := tg hj
    rcases st with _ | ⟨x | _, r⟩
    · cases he
    · have he : am_c1 cnd x (am_br pc off (fun t => k t r)) (k (pc + 3) r) = some Rr := he
      cases cnd
      · exact lv_if_eq hx hb hd ht (fun w => br ht (by rw [am_c1, if_pos w] at he; exact he)) (fun w => K _ _ (by rw [am_c1, if_neg w] at he; exact he))
      · exact lv_if_ne hx hb hd ht (fun w => br ht (by rw [am_c1, if_neg w] at he; exact he)) (fun w => K _ _ (by rw [am_c1, if_pos w] at he; exact he))
      · exact lv_if_lt hx hb hd ht (fun w => br ht (by rw [am_c1, if_pos w] at he; exact he)) (fun w => K _ _ (by rw [am_c1, if_neg w] at he; exact he))
      · exact lv_if_ge hx hb hd ht (fun w => br ht (by rw [am_c1, if_neg (Int32.not_lt.mpr w)] at he; exact he)) (fun w => K _ _ (by rw [am_c1, if_pos (Int32.not_le.mp w)] at he; exact he))
      · exact lv_if_gt hx hb hd ht (fun w => br ht (by rw [am_c1, if_neg (Int32.not_le.mpr w)] at he; exact he)) (fun w => K _ _ (by rw [am_c1, if_pos (Int32.not_lt.mp w)] at he; exact he))
      · exact lv_if_le hx hb hd ht (fun w => br ht (by rw [am_c1, if_pos w] at he; exact he)) (fun w => K _ _ (by rw [am_c1, if_neg w] at he; exact he))
    · cases he
  case if_icmp cnd off =>
    obtain rfl : 3 = n := Nat.eq_of_beq_eq_true hl
    obtain ⟨t, ht⟩ := tg hj
    rcases st with _ | ⟨y | _, _ | ⟨x | _, r⟩⟩
    case cons.inl.cons.inl =>
      have he : am_c2 cnd x y (am_br pc off (fun t => k t r)) (k (pc + 3) r) = some Rr := he
      cases cnd
      · exact lv_icmp_eq hx hb hd ht (fun w => br ht (by rw [am_c2, if_pos w] at he; exact he)) (fun w => K _ _ (by rw [am_c2, if_neg w] at he; exact he))
      · exact lv_icmp_ne hx hb hd ht (fun w => br ht (by rw [am_c2, if_neg w] at he; exact he)) (fun w => K _ _ (by rw [am_c2, if_pos w] at he; exact he))
      · exact lv_icmp_lt hx hb hd ht (fun w => br ht (by rw [am_c2, if_pos w] at he; exact he)) (fun w => K _ _ (by rw [am_c2, if_neg w] at he; exact he))
      · exact lv_icmp_ge hx hb hd ht (fun w => br ht (by rw [am_c2, if_neg (Int32.not_lt.mpr w)] at he; exact he)) (fun w => K _ _ (by rw [am_c2, if_pos (Int32.not_le.mp w)] at he; exact he))
      · exact lv_icmp_gt hx hb hd ht (fun w => br ht (by rw [am_c2, if_neg (Int32.not_le.mpr w)] at he; exact he)) (fun w => K _ _ (by rw [am_c2, if_pos (Int32.not_lt.mp w)] at he; exact he))
      · exact lv_icmp_le hx hb hd ht (fun w => br ht (by rw [am_c2, if_pos w] at he; exact he)) (fun w => K _ _ (by rw [am_c2, if_neg w] at he; exact he))
    all_goals cases he
  case ifnull off =>
    obtain rfl : 3 = n := Nat.eq_of_beq_eq_true hl
    rcases st with _ | ⟨_ | (_ | q) | _, r⟩
    · cases he
    · cases he
    · obtain ⟨t, h1, h2⟩ := am_br_some (show am_br pc off (fun t => k t r) = some Rr from he)
      exact lv_ifnullN hx hb hd h1 (K _ _ h2)
    · obtain ⟨h1, h2⟩ := am_if_some (show am_if (Nat.blt q.1 95) (k (pc + 3) r) = some Rr from he)
      rw [List.map_cons, am_vlw (Nat.le_of_ble_eq_true h1)]
      exact lv_ifnull hx hb hd (K _ _ h2)
    · cases he
  case ifnonnull off =>
    obtain rfl : 3 = n := Nat.eq_of_beq_eq_true hl
    rcases st with _ | ⟨_ | (_ | q) | _, r⟩
    · cases he
    · cases he
    · have he : k (pc + 3) r = some Rr := he
      exact lv_ifnonnullN hx hb hd (K _ _ he)
    · obtain ⟨h1, h2⟩ := am_if_some (show am_if (Nat.blt q.1 95) (am_br pc off (fun t => k t r)) = some Rr from he)
      obtain ⟨t, h3, h4⟩ := am_br_some h2
      rw [List.map_cons, am_vlw (Nat.le_of_ble_eq_true h1)]
      exact lv_ifnonnull hx hb hd h3 (K _ _ h4)
    · cases he
  case tableswitch d lo hi offs =>
    rcases st with _ | ⟨x | _, r⟩
    · cases he
    · obtain ⟨h1, h2⟩ := am_if_some (show am_if (decide (-1000 ≤ lo ∧ lo ≤ 0 ∧ hi ≤ 1000 ∧ (offs.toList.length : Int) = hi - lo + 1)) (am_ts x pc d (fun t => k t r) offs.toList lo) = some Rr from he)
      obtain ⟨g1, g2, g3, g4⟩ := of_decide_eq_true h1
      rw [am_ts_eq _ _ (by omega) (by omega)] at h2
      by_cases hr : lo ≤ x.toInt ∧ x.toInt < lo + offs.toList.length
      · rw [if_pos hr] at h2
        obtain ⟨t, h3, h4⟩ := am_br_some h2
        have hlt : (x.toInt - lo).toNat < offs.toList.length := by omega
        refine lv_tableIn hx hb hd (by omega) (by omega) (off := offs.toList.getD (x.toInt - lo).toNat 0) ?_ h3 (K _ _ h4)
        rw [← Array.getElem?_toList, List.getD_eq_getElem?_getD, List.getElem?_eq_getElem hlt]
        rfl
      · rw [if_neg hr] at h2
        obtain ⟨t, h3, h4⟩ := am_br_some h2
        exact lv_tableOut hx hb hd (by omega) h3 (K _ _ h4)
    · cases he
  all_goals cases he
end
