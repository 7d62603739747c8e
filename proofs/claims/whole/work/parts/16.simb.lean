/-! the machine over a memory and over the list heap that it pictures go alike -/
theorem am_VS_cons {v : am_V} {st : List am_V} : am_VS (v :: st) ↔ am_Vv v ∧ am_VS st := List.forall_mem_cons
theorem am_VS_i {x : Int32} {st : List am_V} (h : am_VS st) : am_VS (.inl x :: st) := am_VS_cons.mpr ⟨trivial, h⟩
theorem am_VL_get {ls : am_L} {j : Nat} {v : am_V} (h : am_VL ls) (e : ls.getD j none = some v) : am_Vv v := by
  rw [List.getD_eq_getElem?_getD] at e
  cases h1 : ls[j]? with
  | none => rw [h1] at e; cases e
  | some o => rw [h1] at e; simp only [Option.getD_some] at e; subst e; exact h j v h1
theorem am_VL_set {ls : am_L} {j : Nat} {v : am_V} (h : am_VL ls) (hv : am_Vv v) : am_VL (ls.set j (some v)) := by
  intro i w hw
  rw [List.getElem?_set] at hw
  by_cases e : j = i
  · rw [if_pos e] at hw
    by_cases hl : j < ls.length
    · rw [if_pos hl] at hw; cases hw; exact hv
    · rw [if_neg hl] at hw; cases hw
  · rw [if_neg e] at hw; exact h i w hw
theorem am_pu_V {own : Nat} {i : Instr} {ls ls' : am_L} {st st' : List am_V} (he : am_pu own i ls st = some (ls', st')) (hL : am_VL ls) (hS : am_VS st) : am_VL ls' ∧ am_VS st' := by
  have b2 : ∀ {f : Int32 → Int32 → Int32}, am_b2 f ls st = some (ls', st') → am_VL ls' ∧ am_VS st' := by
    intro f h
    obtain ⟨y, x, r, rfl, rfl, rfl⟩ := am_b2_some h
    exact ⟨hL, am_VS_i (am_VS_cons.mp (am_VS_cons.mp hS).2).2⟩
  have ldi : ∀ {j : Nat}, am_ldi ls j st = some (ls', st') → am_VL ls' ∧ am_VS st' := by
    intro j h
    obtain ⟨x, h1, rfl, rfl⟩ := am_ldi_some h
    exact ⟨hL, am_VS_i hS⟩
  have lda : ∀ {j : Nat}, am_lda ls j st = some (ls', st') → am_VL ls' ∧ am_VS st' := by
    intro j h
    obtain ⟨x, h1, rfl, rfl⟩ := am_lda_some h
    exact ⟨hL, am_VS_cons.mpr ⟨am_VL_get hL h1, hS⟩⟩
  have sti : ∀ {j : Nat}, am_sti ls j st = some (ls', st') → am_VL ls' ∧ am_VS st' := by
    intro j h
    obtain ⟨x, rfl, h2, rfl⟩ := am_sti_some h
    exact ⟨am_VL_set hL trivial, (am_VS_cons.mp hS).2⟩
  have sta : ∀ {j : Nat}, am_sta ls j st = some (ls', st') → am_VL ls' ∧ am_VS st' := by
    intro j h
    obtain ⟨x, rfl, h2, rfl⟩ := am_sta_some h
    exact ⟨am_VL_set hL (am_VS_cons.mp hS).1, (am_VS_cons.mp hS).2⟩
  cases i
  case iconst a => cases he; exact ⟨hL, am_VS_i hS⟩
  case bipush a =>
    have he : (match decide (-128 ≤ a ∧ a ≤ 127) with | true => some (ls, .inl (am_ci a) :: st) | false => none) = some (ls', st') := he
    split at he
    · cases he; exact ⟨hL, am_VS_i hS⟩
    · cases he
  case sipush a =>
    have he : (match decide (-32768 ≤ a ∧ a ≤ 32767) with | true => some (ls, .inl (am_ci a) :: st) | false => none) = some (ls', st') := he
    split at he
    · cases he; exact ⟨hL, am_VS_i hS⟩
    · cases he
  case lconst a => cases he; exact ⟨hL, am_VS_cons.mpr ⟨trivial, hS⟩⟩
  case aconst_null => cases he; exact ⟨hL, am_VS_cons.mpr ⟨trivial, hS⟩⟩
  case iload_n j => exact ldi he
  case iload j => exact ldi he
  case aload_n j => exact lda he
  case aload j => exact lda he
  case istore_n j => exact sti he
  case istore j => exact sti he
  case astore_n j => exact sta he
  case astore j => exact sta he
  case iinc j a =>
    have he : (match ls.getD j none with | some (.inl x) => am_if (Nat.blt j ls.length) (some (ls.set j (some (.inl (x + am_ci a))), st)) | _ => none) = some (ls', st') := he
    split at he
    · obtain ⟨-, g2⟩ := am_if_some he
      cases g2
      exact ⟨am_VL_set hL trivial, hS⟩
    · cases he
  case iadd => exact b2 he
  case isub => exact b2 he
  case imul => exact b2 he
  case iand => exact b2 he
  case ior => exact b2 he
  case ixor => exact b2 he
  case ishl => exact b2 he
  case ishr => exact b2 he
  case iushr => exact b2 he
  case i2l =>
    rcases st with _ | ⟨x | x, r⟩
    · cases he
    · cases he; exact ⟨hL, am_VS_cons.mpr ⟨trivial, (am_VS_cons.mp hS).2⟩⟩
    · cases he
  case i2c =>
    rcases st with _ | ⟨x | x, r⟩
    · cases he
    · cases he; exact ⟨hL, am_VS_i (am_VS_cons.mp hS).2⟩
    · cases he
  case dup =>
    rcases st with _ | ⟨x | x | x, r⟩
    · cases he
    · cases he; exact ⟨hL, am_VS_i hS⟩
    · cases he; exact ⟨hL, am_VS_cons.mpr ⟨(am_VS_cons.mp hS).1, hS⟩⟩
    · cases he
  case dup2 =>
    rcases st with _ | ⟨y | y, _ | ⟨x | x | x, r⟩⟩
    case cons.inl.cons.inr.inl => cases he; exact ⟨hL, am_VS_i (am_VS_cons.mpr ⟨(am_VS_cons.mp (am_VS_cons.mp hS).2).1, hS⟩)⟩
    all_goals cases he
  case pop =>
    rcases st with _ | ⟨x | x, r⟩
    · cases he
    · cases he; exact ⟨hL, (am_VS_cons.mp hS).2⟩
    · cases he
  case ldc j =>
    have he : (match am_ck own j with | some (.inl x) => some (ls, .inl x :: st) | some (.inr q) => some (ls, .inr (.inl (some (99, q))) :: st) | none => none) = some (ls', st') := he
    rcases hq : am_ck own j with _ | x | x
    · rw [hq] at he; cases he
    · rw [hq] at he; cases he; exact ⟨hL, am_VS_i hS⟩
    · rw [hq] at he
      cases he
      obtain ⟨-, q, h2, -⟩ := am_ckS hq
      have h6 : x < 6 := (List.getElem?_eq_some_iff.mp h2).1
      exact ⟨hL, am_VS_cons.mpr ⟨Or.inr ⟨by show 95 ≤ 99; omega, fun _ => h6⟩, hS⟩⟩
  case ldc_w j =>
    have he : (match am_ck own j with | some (.inl x) => some (ls, .inl x :: st) | _ => none) = some (ls', st') := he
    rcases hq : am_ck own j with _ | x | x
    · rw [hq] at he; cases he
    · rw [hq] at he; cases he; exact ⟨hL, am_VS_i hS⟩
    · rw [hq] at he; cases he
  case ldc2_w j =>
    have he : (match am_cl own j with | some x => some (ls, .inr (.inr x) :: st) | none => none) = some (ls', st') := he
    rcases hq : am_cl own j with _ | x
    · rw [hq] at he; cases he
    · rw [hq] at he; cases he; exact ⟨hL, am_VS_cons.mpr ⟨trivial, hS⟩⟩
  case getstatic j =>
    have he : (match am_gs own j with | some (.inl x) => some (ls, .inl x :: st) | some (.inr q) => some (ls, .inr (.inl (some (q, 0))) :: st) | none => none) = some (ls', st') := he
    rcases hq : am_gs own j with _ | v
    · rw [hq] at he; cases he
    · rw [hq] at he
      rcases am_gsF hq with ⟨-, rfl, -⟩ | ⟨-, rfl, -⟩ | ⟨-, rfl, -⟩
      · cases he; exact ⟨hL, am_VS_cons.mpr ⟨Or.inr ⟨by show 95 ≤ 98; omega, fun w => by rcases w with w | w <;> cases w⟩, hS⟩⟩
      · cases he; exact ⟨hL, am_VS_i hS⟩
      · cases he; exact ⟨hL, am_VS_cons.mpr ⟨Or.inr ⟨by show 95 ≤ 95; omega, fun w => by rcases w with w | w <;> cases w⟩, hS⟩⟩
  all_goals cases he
/-- a jump, over any heap: where it goes -/
def am_Lp (st : List am_V) (f : ∀ R : Type, (Nat → List am_V → Option R) → Option R) : Prop := (∀ R k, f R k = none) ∨ ∃ a b, (∀ v ∈ b, v ∈ st) ∧ ∀ R k, f R k = k a b
theorem am_Lp_0 {st : List am_V} : am_Lp st (fun _ _ => none) := Or.inl fun _ _ => rfl
theorem am_Lp_1 {st : List am_V} (a : Nat) (b : List am_V) (h : ∀ v ∈ b, v ∈ st) : am_Lp st (fun _ k => k a b) := Or.inr ⟨a, b, h, fun _ _ => rfl⟩
theorem am_Lp_if {st : List am_V} (c : Bool) (a : Nat) (b : List am_V) (h : ∀ v ∈ b, v ∈ st) : am_Lp st (fun _ k => am_if c (k a b)) := by
  cases c
  · exact Or.inl fun _ _ => rfl
  · exact Or.inr ⟨a, b, h, fun _ _ => rfl⟩
theorem am_Lp_br {st : List am_V} (pc : Nat) (off : Int) (r : List am_V) (h : ∀ v ∈ r, v ∈ st) : am_Lp st (fun _ k => am_br pc off (fun t => k t r)) := by
  unfold am_br
  generalize (pc : Int) + off = z
  cases z
  · exact am_Lp_1 _ _ h
  · exact am_Lp_0
theorem am_Lp_ite {st : List am_V} {f g : ∀ R : Type, (Nat → List am_V → Option R) → Option R} (c : Prop) [Decidable c] (hf : am_Lp st f) (hg : am_Lp st g) : am_Lp st (fun R k => if c then f R k else g R k) := by
  by_cases h : c
  · simp only [if_pos h]; exact hf
  · simp only [if_neg h]; exact hg
theorem am_Lp_h2 (i : Instr) (pc n : Nat) (st : List am_V) : am_Lp st (fun R k => match i with
  | .goto off => am_br pc off (fun t => k t st)
  | .ifCond c off => (match st with
    | .inl x :: r => am_c1 c x (am_br pc off (fun t => k t r)) (k (pc + n) r)
    | _ => none)
  | .if_icmp c off => (match st with
    | .inl y :: .inl x :: r => am_c2 c x y (am_br pc off (fun t => k t r)) (k (pc + n) r)
    | _ => none)
  | .ifnull off => (match st with
    | .inr (.inl none) :: r => am_br pc off (fun t => k t r)
    | .inr (.inl (some q)) :: r => am_if (Nat.blt q.1 95) (k (pc + n) r)
    | _ => none)
  | .ifnonnull off => (match st with
    | .inr (.inl none) :: r => k (pc + n) r
    | .inr (.inl (some q)) :: r => am_if (Nat.blt q.1 95) (am_br pc off (fun t => k t r))
    | _ => none)
  | .tableswitch d lo hi offs => (match st with
    | .inl x :: r => am_if (decide (-1000 ≤ lo ∧ lo ≤ 0 ∧ hi ≤ 1000 ∧ (offs.toList.length : Int) = hi - lo + 1)) (am_ts x pc d (fun t => k t r) offs.toList lo)
    | _ => none)
  | _ => none) := by
  cases i
  case goto off => exact am_Lp_br pc off st (fun v hv => hv)
  case ifCond c off =>
    rcases st with _ | ⟨x | _, r⟩
    · exact am_Lp_0
    · have hr : ∀ v ∈ r, v ∈ (.inl x :: r : List am_V) := fun v hv => List.mem_cons_of_mem _ hv
      cases c
      · exact am_Lp_ite (x = 0) (am_Lp_br pc off r hr) (am_Lp_1 _ _ hr)
      · exact am_Lp_ite (x = 0) (am_Lp_1 _ _ hr) (am_Lp_br pc off r hr)
      · exact am_Lp_ite (x < 0) (am_Lp_br pc off r hr) (am_Lp_1 _ _ hr)
      · exact am_Lp_ite (x < 0) (am_Lp_1 _ _ hr) (am_Lp_br pc off r hr)
      · exact am_Lp_ite (x ≤ 0) (am_Lp_1 _ _ hr) (am_Lp_br pc off r hr)
      · exact am_Lp_ite (x ≤ 0) (am_Lp_br pc off r hr) (am_Lp_1 _ _ hr)
    · exact am_Lp_0
  case if_icmp c off =>
    rcases st with _ | ⟨y | _, _ | ⟨x | _, r⟩⟩
    case cons.inl.cons.inl =>
      have hr : ∀ v ∈ r, v ∈ (.inl y :: .inl x :: r : List am_V) := fun v hv => List.mem_cons_of_mem _ (List.mem_cons_of_mem _ hv)
      cases c
      · exact am_Lp_ite (x = y) (am_Lp_br pc off r hr) (am_Lp_1 _ _ hr)
      · exact am_Lp_ite (x = y) (am_Lp_1 _ _ hr) (am_Lp_br pc off r hr)
      · exact am_Lp_ite (x < y) (am_Lp_br pc off r hr) (am_Lp_1 _ _ hr)
      · exact am_Lp_ite (x < y) (am_Lp_1 _ _ hr) (am_Lp_br pc off r hr)
      · exact am_Lp_ite (x ≤ y) (am_Lp_1 _ _ hr) (am_Lp_br pc off r hr)
      · exact am_Lp_ite (x ≤ y) (am_Lp_br pc off r hr) (am_Lp_1 _ _ hr)
    all_goals exact am_Lp_0
  case ifnull off =>
    rcases st with _ | ⟨_ | (_ | q) | _, r⟩
    · exact am_Lp_0
    · exact am_Lp_0
    · exact am_Lp_br pc off r (fun v hv => List.mem_cons_of_mem _ hv)
    · exact am_Lp_if _ _ _ (fun v hv => List.mem_cons_of_mem _ hv)
    · exact am_Lp_0
  case ifnonnull off =>
    rcases st with _ | ⟨_ | (_ | q) | _, r⟩
    · exact am_Lp_0
    · exact am_Lp_0
    · exact am_Lp_1 _ _ (fun v hv => List.mem_cons_of_mem _ hv)
    · exact am_Lp_ite _ (am_Lp_br pc off r (fun v hv => List.mem_cons_of_mem _ hv)) am_Lp_0
    · exact am_Lp_0
  case tableswitch d lo hi offs =>
    rcases st with _ | ⟨x | _, r⟩
    · exact am_Lp_0
    · have hr : ∀ v ∈ r, v ∈ (.inl x :: r : List am_V) := fun v hv => List.mem_cons_of_mem _ hv
      refine am_Lp_ite _ ?_ am_Lp_0
      generalize offs.toList = l
      induction l generalizing lo with
      | nil => exact am_Lp_br pc d r hr
      | cons o os ih => exact am_Lp_ite (x = am_ci lo) (am_Lp_br pc o r hr) (ih (lo + 1))
    · exact am_Lp_0
  all_goals exact am_Lp_0
theorem am_h2_sim {H1 H2 : Type} {i : Instr} {pc n : Nat} {st : List am_V} {k : Nat → List am_V → am_R H2} {R : Option am_V × H2} (he : am_h2 i pc n st k = some R) : ∃ a b, (∀ v ∈ b, v ∈ st) ∧ k a b = some R ∧ ∀ k' : Nat → List am_V → am_R H1, am_h2 i pc n st k' = k' a b := by
  rcases am_Lp_h2 i pc n st with h | ⟨a, b, hb, h⟩
  · have h1 : am_h2 i pc n st k = none := h _ k
    rw [h1] at he
    cases he
  · have h1 : am_h2 i pc n st k = k a b := h _ k
    rw [h1] at he
    exact ⟨a, b, hb, he, fun k' => h _ k'⟩
theorem am_do_some2 {I : am_O am_M} {call : Nat → List am_V → am_M → am_R am_M} {m kd c na : Nat} {k : List am_V → am_M → am_R am_M} {st : List am_V} {h : am_M} {R : Option am_V × am_M} (e : am_do I call m k kd c na st h = some R) :
    na ≤ st.length ∧ st.length - na ≤ 4 ∧ am_ht c < am_ht m ∧ am_rcv I h kd c (st.take na).reverse = true ∧ ∃ r h', call c (st.take na).reverse h = some (r, h') ∧ k (r.toList ++ st.drop na) h' = some R ∧ ∀ {H1 : Type} (h1 : H1) (k' : List am_V → H1 → am_R H1), am_bd (am_rk c) (some (r, h1)) (fun vs h' => k' (vs ++ st.drop na) h') = k' (r.toList ++ st.drop na) h1 := by
  unfold am_do at e
  cases hb : (Nat.ble na st.length && (Nat.ble (st.length - na) 4 && (Nat.blt (am_ht c) (am_ht m) && am_rcv I h kd c (st.take na).reverse))) with
  | false => rw [hb] at e; cases e
  | true =>
    rw [hb] at e
    simp only [Bool.and_eq_true] at hb
    obtain ⟨b1, b2, b3, b4⟩ := hb
    refine ⟨Nat.le_of_ble_eq_true b1, Nat.le_of_ble_eq_true b2, Nat.le_of_ble_eq_true b3, b4, ?_⟩
    generalize am_rk c = rk at e
    generalize call c (st.take na).reverse h = x at e
    rcases rk with _ | _ | _ | _ | rk
    · rcases x with _ | ⟨_ | v, h'⟩
      · cases e
      · exact ⟨none, h', rfl, e, fun _ _ => rfl⟩
      · cases e
    · rcases x with _ | ⟨_ | v | v, h'⟩
      · cases e
      · cases e
      · exact ⟨_, h', rfl, e, fun _ _ => rfl⟩
      · cases e
    · rcases x with _ | ⟨_ | v | v, h'⟩
      · cases e
      · cases e
      · exact ⟨_, h', rfl, e, fun _ _ => rfl⟩
      · cases e
    · rcases x with _ | ⟨_ | v | v | v, h'⟩
      · cases e
      · cases e
      · cases e
      · exact ⟨_, h', rfl, e, fun _ _ => rfl⟩
      · cases e
    · rcases x with _ | ⟨_ | v | v, h'⟩
      · cases e
      · cases e
      · exact ⟨_, h', rfl, e, fun _ _ => rfl⟩
      · cases e
def am_Vr (r : Option am_V) : Prop := ∀ v, r = some v → am_Vv v
def am_Sim (call2 : Nat → List am_V → am_M → am_R am_M) (call1 : Nat → List am_V → am_H → am_R am_H) (c : Nat) : Prop := ∀ as M r M', am_VS as → call2 c as M = some (r, M') → call1 c as (am_hp M) = some (r, am_hp M') ∧ am_Vr r
section
variable {E : am_E} {call2 : Nat → List am_V → am_M → am_R am_M} {call1 : Nat → List am_V → am_H → am_R am_H} {m : Nat}
theorem am_do_sim (hcall : ∀ c, am_ht c < am_ht m → am_Sim call2 call1 c) {kd c na : Nat} {st : List am_V} {M : am_M} {k : List am_V → am_M → am_R am_M} {R : Option am_V × am_M} (hS : am_VS st) (e : am_do (am_I2 E) call2 m k kd c na st M = some R) :
    ∃ st' M', am_VS st' ∧ k st' M' = some R ∧ ∀ k' : List am_V → am_H → am_R am_H, am_do (am_I1 E) call1 m k' kd c na st (am_hp M) = k' st' (am_hp M') := by
  obtain ⟨b1, b2, b3, b4, r, M', g1, g2, g3⟩ := am_do_some2 e
  have hVas : am_VS (st.take na).reverse := fun v hv => hS v (List.mem_of_mem_take (List.mem_reverse.mp hv))
  obtain ⟨s1, s2⟩ := hcall c b3 _ _ _ _ hVas g1
  refine ⟨r.toList ++ st.drop na, M', fun v hv => ?_, g2, fun k' => ?_⟩
  · rcases List.mem_append.mp hv with h | h
    · exact s2 v (by cases r with | none => cases h | some w => cases h with | head => rfl | tail _ h => cases h)
    · exact hS v (List.mem_of_mem_drop h)
  · have hrc : am_rcv (am_I1 E) (am_hp M) kd c (st.take na).reverse = true := by
      revert b4 hVas
      generalize (st.take na).reverse = as
      intro b4 hVas
      rcases kd with _ | _ | _ | _ | _ | kd
      · rcases as with _ | ⟨_ | (_ | q) | _, As⟩
        · cases b4
        · cases b4
        · cases b4
        · have b4 : (match am_kl2 M q with | some ci => Nat.beq ci (am_ow c) | none => false) = true := b4
          show (match am_kl1 (am_hp M) q with | some ci => Nat.beq ci (am_ow c) | none => false) = true
          cases hk : am_kl2 M q with
          | none => rw [hk] at b4; cases b4
          | some ci =>
            rw [hk] at b4
            rw [am_kl_sim (am_VS_cons.mp hVas).1 hk]
            exact b4
        · cases b4
      · rfl
      · exact b4
      · rfl
      · exact b4
      · rfl
    unfold am_do
    rw [show (Nat.ble na st.length && (Nat.ble (st.length - na) 4 && (Nat.blt (am_ht c) (am_ht m) && am_rcv (am_I1 E) (am_hp M) kd c (st.take na).reverse))) = true by
      rw [hrc, show Nat.ble na st.length = true from Nat.ble_eq_true_of_le b1, show Nat.ble (st.length - na) 4 = true from Nat.ble_eq_true_of_le b2, show Nat.blt (am_ht c) (am_ht m) = true from Nat.ble_eq_true_of_le b3]; rfl]
    show am_bd (am_rk c) (call1 c (st.take na).reverse (am_hp M)) _ = _
    rw [s1]
    exact g3 _ k'
theorem am_h1_sim (hcall : ∀ c, am_ht c < am_ht m → am_Sim call2 call1 c) {i : Instr} {st : List am_V} {M : am_M} {k : List am_V → am_M → am_R am_M} {R : Option am_V × am_M} (hS : am_VS st) (e : am_h1 (am_I2 E) call2 m i st M k = some R) :
    ∃ st' M', am_VS st' ∧ k st' M' = some R ∧ ∀ k' : List am_V → am_H → am_R am_H, am_h1 (am_I1 E) call1 m i st (am_hp M) k' = k' st' (am_hp M') := by
  cases i
  case getfield x =>
    have e : am_gF (am_I2 E) (am_cf (am_ow m) x) st M k = some R := e
    have K : ∀ k', am_h1 (am_I1 E) call1 m (.getfield x) st (am_hp M) k' = am_gF (am_I1 E) (am_cf (am_ow m) x) st (am_hp M) k' := fun _ => rfl
    rcases ht : am_cf (am_ow m) x with _ | ⟨ci, f⟩
    · rw [ht] at e; cases e
    · rw [ht] at e
      rcases st with _ | ⟨_ | (_ | q) | _, r⟩
      case cons.inr.inl.some =>
        have hq := (am_VS_cons.mp hS).1
        have hr := (am_VS_cons.mp hS).2
        cases hg : am_gf2 M q ci f with
        | none =>
          have e2 : am_gF (am_I2 E) (some (ci, f)) (.inr (.inl (some q)) :: r) M k = none := by unfold am_gF; simp only [am_I2, hg]
          rw [e2] at e; cases e
        | some v =>
          have e2 : am_gF (am_I2 E) (some (ci, f)) (.inr (.inl (some q)) :: r) M k = k (v :: r) M := by unfold am_gF; simp only [am_I2, hg]
          rw [e2] at e
          obtain ⟨s1, s2⟩ := am_gf_sim hq hg
          refine ⟨_, M, am_VS_cons.mpr ⟨s2, hr⟩, e, fun k' => ?_⟩
          rw [K, ht]
          unfold am_gF
          simp only [am_I1, s1]
      all_goals cases e
  case putfield x =>
    have e : am_pF (am_I2 E) m (am_cf (am_ow m) x) st M k = some R := e
    have K : ∀ k', am_h1 (am_I1 E) call1 m (.putfield x) st (am_hp M) k' = am_pF (am_I1 E) m (am_cf (am_ow m) x) st (am_hp M) k' := fun _ => rfl
    rcases ht : am_cf (am_ow m) x with _ | ⟨ci, f⟩
    · rw [ht] at e; cases e
    · rw [ht] at e
      rcases st with _ | ⟨v, _ | ⟨_ | (_ | q) | _, r⟩⟩
      case cons.cons.inr.inl.some =>
        obtain ⟨g1, e⟩ := am_if_some (show am_if (am_fo m ci f) (am_if (am_pf2 M q ci f v).1 (k r (am_pf2 M q ci f v).2)) = some R from e)
        obtain ⟨g2, e⟩ := am_if_some e
        have hq := (am_VS_cons.mp (am_VS_cons.mp hS).2).1
        obtain ⟨s1, s2⟩ := am_pf_sim hq g2
        refine ⟨_, _, (am_VS_cons.mp (am_VS_cons.mp hS).2).2, e, fun k' => ?_⟩
        rw [K, ht]
        show am_if (am_fo m ci f) (am_if (am_pf1 (am_hp M) q ci f v).1 (k' r (am_pf1 (am_hp M) q ci f v).2)) = _
        rw [g1, s1, s2]
        rfl
      all_goals cases e
  case iaload =>
    rcases st with _ | ⟨j | _, _ | ⟨_ | (_ | q) | _, r⟩⟩
    case cons.inl.cons.inr.inl.some =>
      obtain ⟨g1, e⟩ := am_if_some (show am_if (am_al2 E M 0 q j).1 (k ((am_al2 E M 0 q j).2 :: r) M) = some R from e)
      obtain ⟨s1, s2, s3⟩ := am_al_sim (am_VS_cons.mp (am_VS_cons.mp hS).2).1 g1
      refine ⟨_, M, am_VS_cons.mpr ⟨s3, (am_VS_cons.mp (am_VS_cons.mp hS).2).2⟩, e, fun k' => ?_⟩
      show am_if (am_al1 E (am_hp M) 0 q j).1 (k' ((am_al1 E (am_hp M) 0 q j).2 :: r) (am_hp M)) = _
      rw [s1, s2]; rfl
    all_goals cases e
  case baload =>
    rcases st with _ | ⟨j | _, _ | ⟨_ | (_ | q) | _, r⟩⟩
    case cons.inl.cons.inr.inl.some =>
      obtain ⟨g1, e⟩ := am_if_some (show am_if (am_al2 E M 1 q j).1 (k ((am_al2 E M 1 q j).2 :: r) M) = some R from e)
      obtain ⟨s1, s2, s3⟩ := am_al_sim (am_VS_cons.mp (am_VS_cons.mp hS).2).1 g1
      refine ⟨_, M, am_VS_cons.mpr ⟨s3, (am_VS_cons.mp (am_VS_cons.mp hS).2).2⟩, e, fun k' => ?_⟩
      show am_if (am_al1 E (am_hp M) 1 q j).1 (k' ((am_al1 E (am_hp M) 1 q j).2 :: r) (am_hp M)) = _
      rw [s1, s2]; rfl
    all_goals cases e
  case aaload =>
    rcases st with _ | ⟨j | _, _ | ⟨_ | (_ | q) | _, r⟩⟩
    case cons.inl.cons.inr.inl.some =>
      obtain ⟨g1, e⟩ := am_if_some (show am_if (am_al2 E M 2 q j).1 (k ((am_al2 E M 2 q j).2 :: r) M) = some R from e)
      obtain ⟨s1, s2, s3⟩ := am_al_sim (am_VS_cons.mp (am_VS_cons.mp hS).2).1 g1
      refine ⟨_, M, am_VS_cons.mpr ⟨s3, (am_VS_cons.mp (am_VS_cons.mp hS).2).2⟩, e, fun k' => ?_⟩
      show am_if (am_al1 E (am_hp M) 2 q j).1 (k' ((am_al1 E (am_hp M) 2 q j).2 :: r) (am_hp M)) = _
      rw [s1, s2]; rfl
    all_goals cases e
  case iastore =>
    rcases st with _ | ⟨v, _ | ⟨j | _, _ | ⟨_ | (_ | q) | _, r⟩⟩⟩
    case cons.cons.inl.cons.inr.inl.some =>
      obtain ⟨g1, e⟩ := am_if_some (show am_if (am_as2 M 0 q j v).1 (k r (am_as2 M 0 q j v).2) = some R from e)
      have h3 := (am_VS_cons.mp (am_VS_cons.mp hS).2).2
      obtain ⟨s1, s2⟩ := am_as_sim (am_VS_cons.mp h3).1 (am_VS_cons.mp hS).1 g1
      refine ⟨_, _, (am_VS_cons.mp h3).2, e, fun k' => ?_⟩
      show am_if (am_as1 (am_hp M) 0 q j v).1 (k' r (am_as1 (am_hp M) 0 q j v).2) = _
      rw [s1, s2]; rfl
    all_goals cases e
  case bastore =>
    rcases st with _ | ⟨v, _ | ⟨j | _, _ | ⟨_ | (_ | q) | _, r⟩⟩⟩
    case cons.cons.inl.cons.inr.inl.some =>
      obtain ⟨g1, e⟩ := am_if_some (show am_if (am_as2 M 1 q j v).1 (k r (am_as2 M 1 q j v).2) = some R from e)
      have h3 := (am_VS_cons.mp (am_VS_cons.mp hS).2).2
      obtain ⟨s1, s2⟩ := am_as_sim (am_VS_cons.mp h3).1 (am_VS_cons.mp hS).1 g1
      refine ⟨_, _, (am_VS_cons.mp h3).2, e, fun k' => ?_⟩
      show am_if (am_as1 (am_hp M) 1 q j v).1 (k' r (am_as1 (am_hp M) 1 q j v).2) = _
      rw [s1, s2]; rfl
    all_goals cases e
  case aastore =>
    rcases st with _ | ⟨v, _ | ⟨j | _, _ | ⟨_ | (_ | q) | _, r⟩⟩⟩
    case cons.cons.inl.cons.inr.inl.some =>
      obtain ⟨g1, e⟩ := am_if_some (show am_if (am_as2 M 2 q j v).1 (k r (am_as2 M 2 q j v).2) = some R from e)
      have h3 := (am_VS_cons.mp (am_VS_cons.mp hS).2).2
      obtain ⟨s1, s2⟩ := am_as_sim (am_VS_cons.mp h3).1 (am_VS_cons.mp hS).1 g1
      refine ⟨_, _, (am_VS_cons.mp h3).2, e, fun k' => ?_⟩
      show am_if (am_as1 (am_hp M) 2 q j v).1 (k' r (am_as1 (am_hp M) 2 q j v).2) = _
      rw [s1, s2]; rfl
    all_goals cases e
  case arraylength =>
    rcases st with _ | ⟨_ | (_ | q) | _, r⟩
    case cons.inr.inl.some =>
      have e : (match am_ln2 E M q with | some x => k (.inl x :: r) M | none => none) = some R := e
      cases hg : am_ln2 E M q with
      | none => rw [hg] at e; cases e
      | some v =>
        rw [hg] at e
        refine ⟨_, M, am_VS_i (am_VS_cons.mp hS).2, e, fun k' => ?_⟩
        show (match am_ln1 E (am_hp M) q with | some x => k' (.inl x :: r) (am_hp M) | none => none) = _
        rw [am_ln_sim (am_VS_cons.mp hS).1 hg]
    all_goals cases e
  case new x =>
    have e : am_nW (am_I2 E) (am_cc (am_ow m) x) st M k = some R := e
    exfalso
    generalize am_cc (am_ow m) x = t at e
    rcases t with _ | ci <;> cases e
  case newarray x =>
    have e : am_nA (am_I2 E) (am_aT x) st M k = some R := e
    exfalso
    generalize am_aT x = t at e
    rcases t with _ | ci
    · cases e
    · rcases st with _ | ⟨_ | _, _⟩ <;> cases e
  case anewarray x =>
    have e : am_nA (am_I2 E) (am_ac (am_cc (am_ow m) x)) st M k = some R := e
    exfalso
    generalize am_ac (am_cc (am_ow m) x) = t at e
    rcases t with _ | ci
    · cases e
    · rcases st with _ | ⟨_ | _, _⟩ <;> cases e
  case invokevirtual x =>
    have e : am_iv (am_I2 E) call2 m (am_cm (am_ow m) x) st M k = some R := e
    have K : ∀ k', am_h1 (am_I1 E) call1 m (.invokevirtual x) st (am_hp M) k' = am_iv (am_I1 E) call1 m (am_cm (am_ow m) x) st (am_hp M) k' := fun _ => rfl
    unfold am_iv at e
    split at e
    · rename_i cc na hcm
      obtain ⟨st', M', g1, g2, g3⟩ := am_do_sim hcall hS e
      exact ⟨st', M', g1, g2, fun k' => by rw [K, hcm]; exact g3 k'⟩
    · cases e
  case invokestatic x =>
    have e : am_is (am_I2 E) call2 m (am_cm (am_ow m) x) st M k = some R := e
    have K : ∀ k', am_h1 (am_I1 E) call1 m (.invokestatic x) st (am_hp M) k' = am_is (am_I1 E) call1 m (am_cm (am_ow m) x) st (am_hp M) k' := fun _ => rfl
    unfold am_is at e
    split at e
    · rename_i cc na hcm
      obtain ⟨st', M', g1, g2, g3⟩ := am_do_sim hcall hS e
      exact ⟨st', M', g1, g2, fun k' => by rw [K, hcm]; exact g3 k'⟩
    · rename_i cc na hcm
      obtain ⟨st', M', g1, g2, g3⟩ := am_do_sim hcall hS e
      exact ⟨st', M', g1, g2, fun k' => by rw [K, hcm]; exact g3 k'⟩
    · cases e
  case invokespecial x =>
    have e : am_ip (am_I2 E) call2 m (am_cm (am_ow m) x) st M k = some R := e
    have K : ∀ k', am_h1 (am_I1 E) call1 m (.invokespecial x) st (am_hp M) k' = am_ip (am_I1 E) call1 m (am_cm (am_ow m) x) st (am_hp M) k' := fun _ => rfl
    unfold am_ip at e
    split at e
    · rename_i cc na hcm
      obtain ⟨st', M', g1, g2, g3⟩ := am_do_sim hcall hS e
      exact ⟨st', M', g1, g2, fun k' => by rw [K, hcm]; exact g3 k'⟩
    · rename_i cc na hcm
      obtain ⟨st', M', g1, g2, g3⟩ := am_do_sim hcall hS e
      exact ⟨st', M', g1, g2, fun k' => by rw [K, hcm]; exact g3 k'⟩
    · rename_i c5 na hcm
      rcases st with _ | ⟨_ | (_ | q) | _, r⟩
      · cases e
      · cases e
      · cases e
      · obtain ⟨g1, e⟩ := am_if_some (show am_if (Nat.blt q.1 95 && Nat.ble r.length 4) (k r M) = some R from e)
        refine ⟨r, M, (am_VS_cons.mp hS).2, e, fun k' => ?_⟩
        rw [K, hcm]
        show am_if (Nat.blt q.1 95 && Nat.ble r.length 4) (k' r (am_hp M)) = _
        rw [g1]; rfl
      · cases e
    · cases e
  all_goals cases e
theorem am_F_sim (hcall : ∀ c, am_ht c < am_ht m → am_Sim call2 call1 c) : ∀ (n pc : Nat) (ls : am_L) (st : List am_V) (M : am_M) (r : Option am_V) (M' : am_M), am_VL ls → am_VS st → am_F (am_I2 E) call2 m n pc ls st M = some (r, M') → am_F (am_I1 E) call1 m n pc ls st (am_hp M) = some (r, am_hp M') ∧ am_Vr r := by
  intro n
  induction n with
  | zero => intro pc ls st M r M' _ _ e; cases e
  | succ n ih =>
    intro pc ls st M r M' hL hS e
    have e : am_st (am_I2 E) call2 m (am_F (am_I2 E) call2 m n) pc ls st M = some (r, M') := e
    show am_st (am_I1 E) call1 m (am_F (am_I1 E) call1 m n) pc ls st (am_hp M) = some (r, am_hp M') ∧ am_Vr r
    unfold am_st at e ⊢
    rcases hat : am_at m pc with _ | ⟨i, k⟩
    · rw [hat] at e; cases e
    · rw [hat] at e
      have e : am_si (am_I2 E) call2 m i k (am_F (am_I2 E) call2 m n) pc ls st M = some (r, M') := e
      show am_si (am_I1 E) call1 m i k (am_F (am_I1 E) call1 m n) pc ls st (am_hp M) = some (r, am_hp M') ∧ am_Vr r
      unfold am_si at e ⊢
      have pure0 : (match am_pu (am_ow m) i ls st with | some (ls', st') => am_F (am_I2 E) call2 m n (pc + k) ls' st' M | none => none) = some (r, M') → (match am_pu (am_ow m) i ls st with | some (ls', st') => am_F (am_I1 E) call1 m n (pc + k) ls' st' (am_hp M) | none => none) = some (r, am_hp M') ∧ am_Vr r := by
        intro e
        rcases hp : am_pu (am_ow m) i ls st with _ | ⟨l', s'⟩
        · rw [hp] at e; cases e
        · rw [hp] at e
          obtain ⟨v1, v2⟩ := am_pu_V hp hL hS
          exact ih _ _ _ _ _ _ v1 v2 e
      generalize am_kd i = kd at e ⊢
      rcases kd with _ | _ | _ | _ | kd
      · exact pure0 e
      · obtain ⟨st', M1, g1, g2, g3⟩ := am_h1_sim hcall hS e
        have h9 := g3 (fun st' h' => am_F (am_I1 E) call1 m n (pc + k) ls st' h')
        show am_h1 (am_I1 E) call1 m i st (am_hp M) (fun st' h' => am_F (am_I1 E) call1 m n (pc + k) ls st' h') = _ ∧ _
        rw [h9]
        exact ih _ _ _ _ _ _ hL g1 g2
      · obtain ⟨a, b, g1, g2, g3⟩ := am_h2_sim (H1 := am_H) e
        have h9 := g3 (fun pc' st' => am_F (am_I1 E) call1 m n pc' ls st' (am_hp M))
        show am_h2 i pc k st (fun pc' st' => am_F (am_I1 E) call1 m n pc' ls st' (am_hp M)) = _ ∧ _
        rw [h9]
        exact ih _ _ _ _ _ _ hL (fun v hv => hS v (g1 v hv)) g2
      · have e : am_h3 m i st M = some (r, M') := e
        show am_h3 m i st (am_hp M) = some (r, am_hp M') ∧ am_Vr r
        cases i
        case ireturn =>
          rcases st with _ | ⟨x | _, _ | _⟩
          · cases e
          · obtain ⟨g1, e⟩ := am_if_some (show am_if (am_rz (am_rk m) x) (some (some (.inl x), M)) = some (r, M') from e)
            cases e
            exact ⟨by show am_if (am_rz (am_rk m) x) (some (some (Sum.inl x : am_V), am_hp M)) = _; rw [g1]; rfl, fun v hv => by cases hv; exact trivial⟩
          · cases e
          · cases e
          · cases e
        case areturn =>
          rcases st with _ | ⟨_ | x | _, _ | _⟩
          case cons.inr.inl.nil =>
            obtain ⟨g1, e⟩ := am_if_some (show am_if (Nat.beq (am_rk m) 3) (some (some (.inr (.inl x)), M)) = some (r, M') from e)
            cases e
            exact ⟨by show am_if (Nat.beq (am_rk m) 3) (some (some (Sum.inr (Sum.inl x) : am_V), am_hp M)) = _; rw [g1]; rfl, fun v hv => by cases hv; exact (am_VS_cons.mp hS).1⟩
          all_goals cases e
        case return_ =>
          rcases st with _ | ⟨_, _⟩
          · obtain ⟨g1, e⟩ := am_if_some (show am_if (Nat.beq (am_rk m) 0) (some (none, M)) = some (r, M') from e)
            cases e
            exact ⟨by show am_if (Nat.beq (am_rk m) 0) (some (none, am_hp M)) = _; rw [g1]; rfl, fun v hv => by cases hv⟩
          · cases e
        all_goals cases e
      · exact pure0 e
end
theorem am_VL_en {m : Nat} {as : List am_V} (h : am_VS as) : am_VL (am_en m as) := by
  intro i v hi
  unfold am_en at hi
  rw [List.getElem?_append] at hi
  split at hi
  · rw [List.getElem?_map] at hi
    cases h9 : as[i]? with
    | none => rw [h9] at hi; cases hi
    | some w => rw [h9] at hi; cases hi; exact h _ (List.mem_of_getElem? h9)
  · rw [List.getElem?_replicate] at hi
    split at hi <;> cases hi
/-- A RUN OVER THE MEMORY IS A RUN OVER THE HEAP IT PICTURES -/
theorem am_run_sim (E : am_E) : ∀ (d m : Nat), am_ht m < d → am_Sim (am_run (am_I2 E)) (am_run (am_I1 E)) m := by
  intro d
  induction d with
  | zero => intro m hm; exact absurd hm (Nat.not_lt_zero _)
  | succ d ih =>
    intro m hmd as M r M' hV e
    by_cases h0 : 0 < am_ht m
    · cases hn : Nat.beq m mI_Mo_in with
      | true =>
        have := Nat.eq_of_beq_eq_true hn
        subst this
        have e : am_nt as M = some (r, M') := e
        show am_nt as (am_hp M) = some (r, am_hp M') ∧ am_Vr r
        unfold am_nt at e ⊢
        split at e
        · cases e
          exact ⟨rfl, fun v hv => by cases hv; exact trivial⟩
        · cases e
      | false =>
        rw [am_run_eq (am_I2 E) m h0 hn] at e
        obtain ⟨g1, e⟩ := am_if_some e
        obtain ⟨n, e⟩ := am_X_ex e
        obtain ⟨s1, s2⟩ := am_F_sim (m := m) (E := E) (call1 := am_run (am_I1 E)) (fun c hc => ih c (by omega)) n _ _ _ _ _ _ (am_VL_en hV) (fun v hv => by cases hv) e
        refine ⟨?_, s2⟩
        rw [am_run_eq (am_I1 E) m h0 hn, g1]
        exact am_X_of s1
    · exfalso
      unfold am_run at e
      rw [show am_ht m = 0 by omega] at e
      cases e
