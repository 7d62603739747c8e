/-! a step goes on at one place, or ends: so runs have a limit -/
def am_Li {A B R : Type} (f : (A → B → Option R) → Option R) : Prop := (∃ r, ∀ k, f k = r) ∨ ∃ a b, ∀ k, f k = k a b
section
variable {Hp : Type}
theorem am_Li_bd {A B β : Type} (rk : Nat) (x : Option (Option am_V × B)) (g : List am_V → A) : am_Li (fun k : A → B → Option β => am_bd rk x (fun vs h => k (g vs) h)) := by
  rcases rk with _ | _ | _ | _ | rk
  · rcases x with _ | ⟨_ | v, h⟩
    · exact Or.inl ⟨none, fun _ => rfl⟩
    · exact Or.inr ⟨g [], h, fun _ => rfl⟩
    · exact Or.inl ⟨none, fun _ => rfl⟩
  · rcases x with _ | ⟨_ | v | v, h⟩
    · exact Or.inl ⟨none, fun _ => rfl⟩
    · exact Or.inl ⟨none, fun _ => rfl⟩
    · exact Or.inr ⟨g [.inl v], h, fun _ => rfl⟩
    · exact Or.inl ⟨none, fun _ => rfl⟩
  · rcases x with _ | ⟨_ | v | v, h⟩
    · exact Or.inl ⟨none, fun _ => rfl⟩
    · exact Or.inl ⟨none, fun _ => rfl⟩
    · exact Or.inr ⟨g [.inl v], h, fun _ => rfl⟩
    · exact Or.inl ⟨none, fun _ => rfl⟩
  · rcases x with _ | ⟨_ | v | v | v, h⟩
    · exact Or.inl ⟨none, fun _ => rfl⟩
    · exact Or.inl ⟨none, fun _ => rfl⟩
    · exact Or.inl ⟨none, fun _ => rfl⟩
    · exact Or.inr ⟨g [.inr (.inl v)], h, fun _ => rfl⟩
    · exact Or.inl ⟨none, fun _ => rfl⟩
  · rcases x with _ | ⟨_ | v | v, h⟩
    · exact Or.inl ⟨none, fun _ => rfl⟩
    · exact Or.inl ⟨none, fun _ => rfl⟩
    · exact Or.inr ⟨g [.inl v], h, fun _ => rfl⟩
    · exact Or.inl ⟨none, fun _ => rfl⟩
theorem am_Li_if {A B R : Type} (b : Bool) (a : A) (c : B) : am_Li (fun k : A → B → Option R => am_if b (k a c)) := by
  cases b
  · exact Or.inl ⟨none, fun _ => rfl⟩
  · exact Or.inr ⟨a, c, fun _ => rfl⟩
theorem am_Li_0 {A B R : Type} (r : Option R) : am_Li (fun _ : A → B → Option R => r) := Or.inl ⟨r, fun _ => rfl⟩
theorem am_Li_1 {A B R : Type} (a : A) (c : B) : am_Li (fun k : A → B → Option R => k a c) := Or.inr ⟨a, c, fun _ => rfl⟩
theorem am_Li_ite {A B R : Type} {f g : (A → B → Option R) → Option R} (c : Prop) [Decidable c] (hf : am_Li f) (hg : am_Li g) : am_Li (fun k => if c then f k else g k) := by
  by_cases h : c
  · simp only [if_pos h]; exact hf
  · simp only [if_neg h]; exact hg
theorem am_Li_do (I : am_O Hp) (call : Nat → List am_V → Hp → am_R Hp) (m kd c na : Nat) (st : List am_V) (h : Hp) : am_Li (fun k => am_do I call m k kd c na st h) := by
  unfold am_do
  generalize (Nat.ble na st.length && (Nat.ble (st.length - na) 4 && (Nat.blt (am_ht c) (am_ht m) && am_rcv I h kd c (st.take na).reverse))) = b
  cases b
  · exact am_Li_0 _
  · exact am_Li_bd _ _ (fun vs => vs ++ st.drop na)
theorem am_Li_h1 (I : am_O Hp) (call : Nat → List am_V → Hp → am_R Hp) (m : Nat) (i : Instr) (st : List am_V) (h : Hp) : am_Li (fun k => am_h1 I call m i st h k) := by
  have gF : ∀ t, am_Li (fun k => am_gF I t st h k) := by
    intro t
    rcases t with _ | ⟨ci, f⟩
    · exact am_Li_0 _
    · rcases st with _ | ⟨_ | (_ | q) | _, r⟩
      · exact am_Li_0 _
      · exact am_Li_0 _
      · exact am_Li_0 _
      · show am_Li (fun k => match I.1 h q ci f with | some v => k (v :: r) h | none => none)
        generalize I.1 h q ci f = o
        cases o
        · exact am_Li_0 _
        · exact am_Li_1 _ _
      · exact am_Li_0 _
  have pF : ∀ t, am_Li (fun k => am_pF I m t st h k) := by
    intro t
    rcases t with _ | ⟨ci, f⟩
    · exact am_Li_0 _
    · rcases st with _ | ⟨v, _ | ⟨_ | (_ | q) | _, r⟩⟩
      · exact am_Li_0 _
      · exact am_Li_0 _
      · exact am_Li_0 _
      · exact am_Li_0 _
      · exact am_Li_ite _ (am_Li_if _ _ _) (am_Li_0 _)
      · exact am_Li_0 _
  have aL : ∀ t, am_Li (fun k => am_aL I t st h k) := by
    intro t
    rcases st with _ | ⟨j | _, _ | ⟨_ | (_ | q) | _, r⟩⟩
    · exact am_Li_0 _
    · exact am_Li_0 _
    · exact am_Li_0 _
    · exact am_Li_0 _
    · exact am_Li_if _ _ _
    · exact am_Li_0 _
    · exact am_Li_0 _
    · exact am_Li_0 _
    · exact am_Li_0 _
    · exact am_Li_0 _
    · exact am_Li_0 _
  have aS : ∀ t, am_Li (fun k => am_aS I t st h k) := by
    intro t
    rcases st with _ | ⟨v, _ | ⟨j | _, _ | ⟨_ | (_ | q) | _, r⟩⟩⟩
    · exact am_Li_0 _
    · exact am_Li_0 _
    · exact am_Li_0 _
    · exact am_Li_0 _
    · exact am_Li_0 _
    · exact am_Li_if _ _ _
    · exact am_Li_0 _
    · exact am_Li_0 _
    · exact am_Li_0 _
    · exact am_Li_0 _
    · exact am_Li_0 _
    · exact am_Li_0 _
  have lN : am_Li (fun k => am_lN I st h k) := by
    rcases st with _ | ⟨_ | (_ | q) | _, r⟩
    · exact am_Li_0 _
    · exact am_Li_0 _
    · exact am_Li_0 _
    · show am_Li (fun k => match I.2.2.2.2.1 h q with | some x => k (.inl x :: r) h | none => none)
      generalize I.2.2.2.2.1 h q = o
      cases o
      · exact am_Li_0 _
      · exact am_Li_1 _ _
    · exact am_Li_0 _
  have nW : ∀ t, am_Li (fun k => am_nW I t st h k) := by
    intro t
    rcases t with _ | ci
    · exact am_Li_0 _
    · show am_Li (fun k => match I.2.2.2.2.2.2.1 h ci with | some (q, h') => k (.inr (.inl (some q)) :: st) h' | none => none)
      generalize I.2.2.2.2.2.2.1 h ci = o
      rcases o with _ | ⟨q, h'⟩
      · exact am_Li_0 _
      · exact am_Li_1 _ _
  have nA : ∀ t, am_Li (fun k => am_nA I t st h k) := by
    intro t
    rcases t with _ | t
    · exact am_Li_0 _
    · rcases st with _ | ⟨x | _, r⟩
      · exact am_Li_0 _
      · exact am_Li_if _ _ _
      · exact am_Li_0 _
  have oI : am_Li (fun k => am_oI st h k) := by
    rcases st with _ | ⟨_ | (_ | q) | _, r⟩
    · exact am_Li_0 _
    · exact am_Li_0 _
    · exact am_Li_0 _
    · exact am_Li_if _ _ _
    · exact am_Li_0 _
  have iv : ∀ t, am_Li (fun k => am_iv I call m t st h k) := by
    intro t
    rcases t with _ | ⟨_ | kd, c, na⟩
    · exact am_Li_0 _
    · exact am_Li_do I call m 0 c na st h
    · exact am_Li_0 _
  have is : ∀ t, am_Li (fun k => am_is I call m t st h k) := by
    intro t
    rcases t with _ | ⟨_ | _ | _ | _ | kd, c, na⟩
    · exact am_Li_0 _
    · exact am_Li_0 _
    · exact am_Li_do I call m 1 c na st h
    · exact am_Li_0 _
    · exact am_Li_do I call m 3 c na st h
    · exact am_Li_0 _
  have ip : ∀ t, am_Li (fun k => am_ip I call m t st h k) := by
    intro t
    rcases t with _ | ⟨_ | _ | _ | _ | _ | _ | kd, c, na⟩
    · exact am_Li_0 _
    · exact am_Li_0 _
    · exact am_Li_0 _
    · exact am_Li_do I call m 2 c na st h
    · exact am_Li_0 _
    · exact am_Li_do I call m 4 c na st h
    · exact oI
    · exact am_Li_0 _
  cases i
  case getfield => exact gF _
  case putfield => exact pF _
  case iaload => exact aL _
  case baload => exact aL _
  case aaload => exact aL _
  case iastore => exact aS _
  case bastore => exact aS _
  case aastore => exact aS _
  case arraylength => exact lN
  case new => exact nW _
  case newarray => exact nA _
  case anewarray => exact nA _
  case invokevirtual => exact iv _
  case invokestatic => exact is _
  case invokespecial => exact ip _
  all_goals exact am_Li_0 _
theorem am_Li_br {R : Type} (pc : Nat) (off : Int) (r : List am_V) : am_Li (fun k : Nat → List am_V → Option R => am_br pc off (fun t => k t r)) := by
  unfold am_br
  generalize (pc : Int) + off = z
  cases z
  · exact am_Li_1 _ _
  · exact am_Li_0 _
theorem am_Li_h2 (i : Instr) (pc n : Nat) (st : List am_V) : am_Li (fun k : Nat → List am_V → am_R Hp => am_h2 i pc n st k) := by
  cases i
  case goto off => exact am_Li_br pc off st
  case ifCond c off =>
    rcases st with _ | ⟨x | _, r⟩
    · exact am_Li_0 _
    · cases c
      · exact am_Li_ite (x = 0) (am_Li_br pc off r) (am_Li_1 _ _)
      · exact am_Li_ite (x = 0) (am_Li_1 _ _) (am_Li_br pc off r)
      · exact am_Li_ite (x < 0) (am_Li_br pc off r) (am_Li_1 _ _)
      · exact am_Li_ite (x < 0) (am_Li_1 _ _) (am_Li_br pc off r)
      · exact am_Li_ite (x ≤ 0) (am_Li_1 _ _) (am_Li_br pc off r)
      · exact am_Li_ite (x ≤ 0) (am_Li_br pc off r) (am_Li_1 _ _)
    · exact am_Li_0 _
  case if_icmp c off =>
    rcases st with _ | ⟨y | _, _ | ⟨x | _, r⟩⟩
    · exact am_Li_0 _
    · exact am_Li_0 _
    · cases c
      · exact am_Li_ite (x = y) (am_Li_br pc off r) (am_Li_1 _ _)
      · exact am_Li_ite (x = y) (am_Li_1 _ _) (am_Li_br pc off r)
      · exact am_Li_ite (x < y) (am_Li_br pc off r) (am_Li_1 _ _)
      · exact am_Li_ite (x < y) (am_Li_1 _ _) (am_Li_br pc off r)
      · exact am_Li_ite (x ≤ y) (am_Li_1 _ _) (am_Li_br pc off r)
      · exact am_Li_ite (x ≤ y) (am_Li_br pc off r) (am_Li_1 _ _)
    · exact am_Li_0 _
    · exact am_Li_0 _
    · exact am_Li_0 _
    · exact am_Li_0 _
  case ifnull off =>
    rcases st with _ | ⟨_ | (_ | q) | _, r⟩
    · exact am_Li_0 _
    · exact am_Li_0 _
    · exact am_Li_br pc off r
    · exact am_Li_if _ _ _
    · exact am_Li_0 _
  case ifnonnull off =>
    rcases st with _ | ⟨_ | (_ | q) | _, r⟩
    · exact am_Li_0 _
    · exact am_Li_0 _
    · exact am_Li_1 _ _
    · exact am_Li_ite _ (am_Li_br pc off r) (am_Li_0 _)
    · exact am_Li_0 _
  case tableswitch d lo hi offs =>
    rcases st with _ | ⟨x | _, r⟩
    · exact am_Li_0 _
    · refine am_Li_ite _ ?_ (am_Li_0 _)
      generalize offs.toList = l
      induction l generalizing lo with
      | nil => exact am_Li_br pc d r
      | cons o os ih => exact am_Li_ite (x = am_ci lo) (am_Li_br pc o r) (ih (lo + 1))
    · exact am_Li_0 _
  all_goals exact am_Li_0 _
/-- a step: the answer, or the one state at which it goes on -/
theorem am_lin (I : am_O Hp) (call : Nat → List am_V → Hp → am_R Hp) (m pc : Nat) (ls : am_L) (st : List am_V) (h : Hp) : (∃ r, ∀ k, am_st I call m k pc ls st h = r) ∨ ∃ a b c d, ∀ k, am_st I call m k pc ls st h = k a b c d := by
  unfold am_st
  rcases am_at m pc with _ | ⟨i, n⟩
  · exact Or.inl ⟨none, fun _ => rfl⟩
  · show (∃ r, ∀ k, am_si I call m i n k pc ls st h = r) ∨ ∃ a b c d, ∀ k, am_si I call m i n k pc ls st h = k a b c d
    unfold am_si
    generalize am_kd i = kd
    have h0 : (∃ r, ∀ k : Nat → am_L → List am_V → Hp → am_R Hp, (match am_pu (am_ow m) i ls st with | some (ls', st') => k (pc + n) ls' st' h | none => none) = r) ∨ ∃ a b c d, ∀ k : Nat → am_L → List am_V → Hp → am_R Hp, (match am_pu (am_ow m) i ls st with | some (ls', st') => k (pc + n) ls' st' h | none => none) = k a b c d := by
      rcases am_pu (am_ow m) i ls st with _ | ⟨l', s'⟩
      · exact Or.inl ⟨none, fun _ => rfl⟩
      · exact Or.inr ⟨_, _, _, _, fun _ => rfl⟩
    rcases kd with _ | _ | _ | _ | kd
    · exact h0
    · rcases am_Li_h1 I call m i st h with ⟨r, hr⟩ | ⟨a, b, hr⟩
      · exact Or.inl ⟨r, fun k => hr _⟩
      · exact Or.inr ⟨pc + n, ls, a, b, fun k => hr _⟩
    · rcases am_Li_h2 (Hp := Hp) i pc n st with ⟨r, hr⟩ | ⟨a, b, hr⟩
      · exact Or.inl ⟨r, fun k => hr _⟩
      · exact Or.inr ⟨a, ls, b, h, fun k => hr _⟩
    · exact Or.inl ⟨_, fun _ => rfl⟩
    · exact h0
/-- so many steps at most -/
def am_F (I : am_O Hp) (call : Nat → List am_V → Hp → am_R Hp) (m : Nat) : Nat → Nat → am_L → List am_V → Hp → am_R Hp
  | 0 => fun _ _ _ _ => none
  | n + 1 => fun pc ls st h => am_st I call m (am_F I call m n) pc ls st h
theorem am_F_up (I : am_O Hp) (call : Nat → List am_V → Hp → am_R Hp) (m : Nat) : ∀ (n pc : Nat) (ls : am_L) (st : List am_V) (h : Hp) (r : Option am_V × Hp), am_F I call m n pc ls st h = some r → am_F I call m (n + 1) pc ls st h = some r := by
  intro n
  induction n with
  | zero => intro pc ls st h r e; cases e
  | succ n ih =>
    intro pc ls st h r e
    show am_st I call m (am_F I call m (n + 1)) pc ls st h = some r
    have e1 : am_st I call m (am_F I call m n) pc ls st h = some r := e
    rcases am_lin I call m pc ls st h with ⟨q, hq⟩ | ⟨a, b, c, d, hq⟩
    · rw [hq] at e1 ⊢; exact e1
    · rw [hq] at e1 ⊢; exact ih _ _ _ _ _ e1
theorem am_F_le (I : am_O Hp) (call : Nat → List am_V → Hp → am_R Hp) (m : Nat) {n n' pc : Nat} {ls : am_L} {st : List am_V} {h : Hp} {r : Option am_V × Hp} (hn : n ≤ n') (e : am_F I call m n pc ls st h = some r) : am_F I call m n' pc ls st h = some r := by
  induction hn with
  | refl => exact e
  | step _ ih => exact am_F_up I call m _ _ _ _ _ _ ih
noncomputable def am_X (I : am_O Hp) (call : Nat → List am_V → Hp → am_R Hp) (m pc : Nat) (ls : am_L) (st : List am_V) (h : Hp) : am_R Hp :=
  @dite (am_R Hp) (∃ r, ∃ n, am_F I call m n pc ls st h = some r) (Classical.propDecidable _) (fun q => some (Classical.choose q)) (fun _ => none)
theorem am_X_of {I : am_O Hp} {call : Nat → List am_V → Hp → am_R Hp} {m n pc : Nat} {ls : am_L} {st : List am_V} {h : Hp} {r : Option am_V × Hp} (e : am_F I call m n pc ls st h = some r) : am_X I call m pc ls st h = some r := by
  have q : ∃ r, ∃ n, am_F I call m n pc ls st h = some r := ⟨r, n, e⟩
  unfold am_X
  rw [dif_pos q]
  obtain ⟨n', e'⟩ := Classical.choose_spec q
  have h1 := am_F_le I call m (Nat.le_max_left n n') e
  have h2 := am_F_le I call m (Nat.le_max_right n n') e'
  exact h2.symm.trans h1
theorem am_X_ex {I : am_O Hp} {call : Nat → List am_V → Hp → am_R Hp} {m pc : Nat} {ls : am_L} {st : List am_V} {h : Hp} {r : Option am_V × Hp} (e : am_X I call m pc ls st h = some r) : ∃ n, am_F I call m n pc ls st h = some r := by
  unfold am_X at e
  by_cases q : ∃ r, ∃ n, am_F I call m n pc ls st h = some r
  · rw [dif_pos q] at e
    have h1 := Classical.choose_spec q
    rw [Option.some.inj e] at h1
    exact h1
  · rw [dif_neg q] at e
    cases e
theorem am_X_st (I : am_O Hp) (call : Nat → List am_V → Hp → am_R Hp) (m pc : Nat) (ls : am_L) (st : List am_V) (h : Hp) : am_X I call m pc ls st h = am_st I call m (am_X I call m) pc ls st h := by
  have key : ∀ r, am_X I call m pc ls st h = some r ↔ am_st I call m (am_X I call m) pc ls st h = some r := by
    intro r
    rcases am_lin I call m pc ls st h with ⟨q, hq⟩ | ⟨a, b, c, d, hq⟩
    · rw [hq]
      constructor
      · intro e
        obtain ⟨n, e⟩ := am_X_ex e
        cases n with
        | zero => cases e
        | succ n => exact (hq _).symm.trans e
      · intro e
        exact am_X_of (n := 1) ((hq _).trans e)
    · rw [hq]
      constructor
      · intro e
        obtain ⟨n, e⟩ := am_X_ex e
        cases n with
        | zero => cases e
        | succ n => exact am_X_of ((hq _).symm.trans e)
      · intro e
        obtain ⟨n, e⟩ := am_X_ex e
        exact am_X_of (n := n + 1) ((hq _).trans e)
  cases hx : am_X I call m pc ls st h with
  | some r => exact ((key r).mp hx).symm
  | none =>
    cases hy : am_st I call m (am_X I call m) pc ls st h with
    | none => rfl
    | some r => rw [(key r).mpr hy] at hx; cases hx
/-- many steps, till a place of cut -/
def am_k (I : am_O Hp) (call : Nat → List am_V → Hp → am_R Hp) (m : Nat) (cut : Nat → Bool) (k0 : Nat → am_L → List am_V → Hp → am_R Hp) : Nat → Nat → am_L → List am_V → Hp → am_R Hp
  | 0 => k0
  | n + 1 => fun pc ls st h => am_st I call m (fun pc' ls' st' h' => match cut pc' with
    | true => k0 pc' ls' st' h'
    | false => am_k I call m cut k0 n pc' ls' st' h') pc ls st h
theorem am_X_k (I : am_O Hp) (call : Nat → List am_V → Hp → am_R Hp) (m : Nat) (cut : Nat → Bool) : ∀ n, am_k I call m cut (am_X I call m) n = am_X I call m := by
  intro n
  induction n with
  | zero => rfl
  | succ n ih =>
    funext pc ls st h
    show am_st I call m (fun pc' ls' st' h' => match cut pc' with
      | true => am_X I call m pc' ls' st' h'
      | false => am_k I call m cut (am_X I call m) n pc' ls' st' h') pc ls st h = _
    rw [am_X_st I call m pc ls st h]
    congr 1
    funext pc' ls' st' h'
    cases cut pc'
    · exact congrFun (congrFun (congrFun (congrFun ih pc') ls') st') h'
    · rfl
/-- calls that agree on lower methods give the same run -/
theorem am_st_call (I : am_O Hp) {call call' : Nat → List am_V → Hp → am_R Hp} {m : Nat} (hc : ∀ c, am_ht c < am_ht m → ∀ as h, call c as h = call' c as h) (k : Nat → am_L → List am_V → Hp → am_R Hp) (pc : Nat) (ls : am_L) (st : List am_V) (h : Hp) : am_st I call m k pc ls st h = am_st I call' m k pc ls st h := by
  have hdo : ∀ (kk : List am_V → Hp → am_R Hp) (kd c na : Nat), am_do I call m kk kd c na st h = am_do I call' m kk kd c na st h := by
    intro kk kd c na
    unfold am_do
    cases hb : (Nat.ble na st.length && (Nat.ble (st.length - na) 4 && (Nat.blt (am_ht c) (am_ht m) && am_rcv I h kd c (st.take na).reverse))) with
    | false => rfl
    | true =>
      simp only [Bool.and_eq_true] at hb
      have hlt : am_ht c < am_ht m := Nat.le_of_ble_eq_true hb.2.2.1
      simp only [hc c hlt]
  unfold am_st
  rcases am_at m pc with _ | ⟨i, n⟩
  · rfl
  · show am_si I call m i n k pc ls st h = am_si I call' m i n k pc ls st h
    unfold am_si
    have h1 : ∀ kk, am_h1 I call m i st h kk = am_h1 I call' m i st h kk := by
      intro kk
      cases i
      case invokevirtual x =>
        show am_iv I call m _ st h kk = am_iv I call' m _ st h kk
        unfold am_iv
        split
        · exact hdo _ _ _ _
        · rfl
      case invokestatic x =>
        show am_is I call m _ st h kk = am_is I call' m _ st h kk
        unfold am_is
        split
        · exact hdo _ _ _ _
        · exact hdo _ _ _ _
        · rfl
      case invokespecial x =>
        show am_ip I call m _ st h kk = am_ip I call' m _ st h kk
        unfold am_ip
        split
        · exact hdo _ _ _ _
        · exact hdo _ _ _ _
        · rfl
        · rfl
      all_goals rfl
    rw [h1]
theorem am_X_call (I : am_O Hp) {call call' : Nat → List am_V → Hp → am_R Hp} {m : Nat} (hc : ∀ c, am_ht c < am_ht m → ∀ as h, call c as h = call' c as h) : am_X I call m = am_X I call' m := by
  have hF : ∀ n, am_F I call m n = am_F I call' m n := by
    intro n
    induction n with
    | zero => rfl
    | succ n ih =>
      funext pc ls st h
      show am_st I call m (am_F I call m n) pc ls st h = am_st I call' m (am_F I call' m n) pc ls st h
      rw [ih]
      exact am_st_call I hc _ _ _ _ _
  have hF2 : am_F I call m = am_F I call' m := funext hF
  funext pc ls st h
  unfold am_X
  rw [hF2]
/-- a method's locals at its start -/
def am_en (m : Nat) (as : List am_V) : am_L := as.map some ++ List.replicate (am_ml m - as.length) none
/-- no long among the arguments, and not too many -/
def am_nl (m : Nat) (as : List am_V) : Bool := as.all (fun v => match v with
  | .inr (.inr _) => false
  | _ => true) && Nat.ble as.length (am_ml m)
/-- what a method that isn't run by its rows answers: in(long, long, long) -/
def am_nt (as : List am_V) (h : Hp) : am_R Hp := match as with
  | [.inr (.inr v), .inr (.inr a), .inr (.inr b)] => some (some (.inl (if v < a then 0 else if b < v then 0 else 1)), h)
  | _ => none
noncomputable def am_run0 (I : am_O Hp) : Nat → Nat → List am_V → Hp → am_R Hp
  | 0 => fun _ _ _ => none
  | d + 1 => fun m as h => match Nat.beq (am_ht m) 0 with
    | true => none
    | false => match Nat.beq m mI_Mo_in with
      | true => am_nt as h
      | false => am_if (am_nl m as) (am_X I (am_run0 I d) m 0 (am_en m as) [] h)
noncomputable def am_run (I : am_O Hp) (m : Nat) (as : List am_V) (h : Hp) : am_R Hp := am_run0 I (am_ht m) m as h
theorem am_run_up (I : am_O Hp) : ∀ (n m : Nat), am_ht m < n → ∀ d, am_ht m ≤ d → am_run0 I d m = am_run0 I (am_ht m) m := by
  intro n
  induction n with
  | zero => intro m h; exact absurd h (Nat.not_lt_zero _)
  | succ n ih =>
    intro m hm d hd
    cases hh : am_ht m with
    | zero =>
      cases d with
      | zero => rfl
      | succ d =>
        funext as h
        show (match Nat.beq (am_ht m) 0 with | true => none | false => match Nat.beq m mI_Mo_in with | true => am_nt as h | false => am_if (am_nl m as) (am_X I (am_run0 I d) m 0 (am_en m as) [] h)) = none
        rw [hh]
    | succ a =>
      cases d with
      | zero => omega
      | succ d =>
        funext as h
        show (match Nat.beq (am_ht m) 0 with | true => none | false => match Nat.beq m mI_Mo_in with | true => am_nt as h | false => am_if (am_nl m as) (am_X I (am_run0 I d) m 0 (am_en m as) [] h)) = (match Nat.beq (am_ht m) 0 with | true => none | false => match Nat.beq m mI_Mo_in with | true => am_nt as h | false => am_if (am_nl m as) (am_X I (am_run0 I a) m 0 (am_en m as) [] h))
        rw [am_X_call I (call := am_run0 I d) (call' := am_run0 I a) (m := m) (fun c hc as h => by
          rw [ih c (by omega) d (by omega), ih c (by omega) a (by omega)])]
/-- a method's run, with the runs of those below it -/
noncomputable def am_ex (I : am_O Hp) (m pc : Nat) (ls : am_L) (st : List am_V) (h : Hp) : am_R Hp := am_X I (am_run I) m pc ls st h
theorem am_run_eq (I : am_O Hp) (m : Nat) (h0 : 0 < am_ht m) (hn : Nat.beq m mI_Mo_in = false) (as : List am_V) (h : Hp) : am_run I m as h = am_if (am_nl m as) (am_ex I m 0 (am_en m as) [] h) := by
  unfold am_run am_ex
  cases hh : am_ht m with
  | zero => omega
  | succ d =>
    show (match Nat.beq (am_ht m) 0 with | true => none | false => match Nat.beq m mI_Mo_in with | true => am_nt as h | false => am_if (am_nl m as) (am_X I (am_run0 I d) m 0 (am_en m as) [] h)) = _
    rw [hn, hh]
    show am_if (am_nl m as) (am_X I (am_run0 I d) m 0 (am_en m as) [] h) = _
    rw [am_X_call I (call := am_run0 I d) (call' := am_run I) (m := m) (fun c hc as h => by
      show _ = am_run0 I (am_ht c) c as h
      rw [am_run_up I (am_ht c + 1) c (Nat.lt_succ_self _) d (by omega)])]
theorem am_ex_k (I : am_O Hp) (m : Nat) (cut : Nat → Bool) (n pc : Nat) (ls : am_L) (st : List am_V) (h : Hp) : am_ex I m pc ls st h = am_k I (am_run I) m cut (am_ex I m) n pc ls st h := (congrFun (congrFun (congrFun (congrFun (am_X_k I (am_run I) m cut n) pc) ls) st) h).symm
end
