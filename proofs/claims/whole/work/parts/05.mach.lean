/-! A SMALL MACHINE over the tables of 02: values, one step in continuation form, runs without end told by a limit.
    Hp: what a heap is; am_O: what the machine asks of it. -/
abbrev am_K : Type := Nat × Nat
abbrev am_V : Type := Int32 ⊕ (Option (Nat × Nat) ⊕ Int64)
abbrev am_L : Type := List (Option am_V)
abbrev am_R (Hp : Type) : Type := Option (Option am_V × Hp)
/-- gf: a field; pf: a field is written (may it be, the heap then); al: an element (0 int, 1 boolean or byte, 2 reference); as; ln: a length; kl: the class of an object; nw: a new object; na: a new array (0 int, 1 boolean, 2, 3 references) -/
abbrev am_O (Hp : Type) : Type :=
  (Hp → am_K → Nat → Nat → Option am_V) × (Hp → am_K → Nat → Nat → am_V → Bool × Hp) × (Hp → Nat → am_K → Int32 → Bool × am_V) × (Hp → Nat → am_K → Int32 → am_V → Bool × Hp) × (Hp → am_K → Option Int32) × (Hp → am_K → Option Nat) × (Hp → Nat → Option (am_K × Hp)) × (Hp → Nat → Int32 → Bool × (am_K × Hp))
def am_ci (n : Int) : Int32 := match n with
  | .ofNat k => Int32.ofNat k
  | .negSucc k => -(Int32.ofNat (k + 1))
def am_if {α : Type} (b : Bool) (x : Option α) : Option α := if b = true then x else none
def am_ldi (ls : am_L) (j : Nat) (st : List am_V) : Option (am_L × List am_V) := match ls.getD j none with
  | some (.inl x) => some (ls, .inl x :: st)
  | _ => none
def am_lda (ls : am_L) (j : Nat) (st : List am_V) : Option (am_L × List am_V) := match ls.getD j none with
  | some (.inr (.inl r)) => some (ls, .inr (.inl r) :: st)
  | _ => none
def am_sti (ls : am_L) (j : Nat) (st : List am_V) : Option (am_L × List am_V) := match st with
  | .inl x :: r => am_if (Nat.blt j ls.length) (some (ls.set j (some (.inl x)), r))
  | _ => none
def am_sta (ls : am_L) (j : Nat) (st : List am_V) : Option (am_L × List am_V) := match st with
  | .inr (.inl x) :: r => am_if (Nat.blt j ls.length) (some (ls.set j (some (.inr (.inl x))), r))
  | _ => none
def am_b2 (f : Int32 → Int32 → Int32) (ls : am_L) (st : List am_V) : Option (am_L × List am_V) := match st with
  | .inl y :: .inl x :: r => some (ls, .inl (f x y) :: r)
  | _ => none
/-- what touches locals and stack alone -/
def am_pu (own : Nat) (i : Instr) (ls : am_L) (st : List am_V) : Option (am_L × List am_V) := match i with
  | .iconst a => some (ls, .inl (am_ci a) :: st)
  | .bipush a => match decide (-128 ≤ a ∧ a ≤ 127) with
    | true => some (ls, .inl (am_ci a) :: st)
    | false => none
  | .sipush a => match decide (-32768 ≤ a ∧ a ≤ 32767) with
    | true => some (ls, .inl (am_ci a) :: st)
    | false => none
  | .lconst a => some (ls, .inr (.inr (Int64.ofNat a.val)) :: st)
  | .aconst_null => some (ls, .inr (.inl none) :: st)
  | .iload_n j => am_ldi ls j.val st
  | .iload j => am_ldi ls j st
  | .aload_n j => am_lda ls j.val st
  | .aload j => am_lda ls j st
  | .istore_n j => am_sti ls j.val st
  | .istore j => am_sti ls j st
  | .astore_n j => am_sta ls j.val st
  | .astore j => am_sta ls j st
  | .iinc j c => match ls.getD j none with
    | some (.inl x) => am_if (Nat.blt j ls.length) (some (ls.set j (some (.inl (x + am_ci c))), st))
    | _ => none
  | .iadd => am_b2 (fun x y => x + y) ls st
  | .isub => am_b2 (fun x y => x - y) ls st
  | .imul => am_b2 (fun x y => x * y) ls st
  | .iand => am_b2 (fun x y => x &&& y) ls st
  | .ior => am_b2 (fun x y => x ||| y) ls st
  | .ixor => am_b2 (fun x y => x ^^^ y) ls st
  | .ishl => am_b2 (fun x y => x <<< (y &&& 31)) ls st
  | .ishr => am_b2 (fun x y => x >>> (y &&& 31)) ls st
  | .iushr => am_b2 (fun x y => (x.toUInt32 >>> (y.toUInt32 &&& Int32.toUInt32 31)).toInt32) ls st
  | .i2l => match st with
    | .inl x :: r => some (ls, .inr (.inr x.toInt64) :: r)
    | _ => none
  | .i2c => match st with
    | .inl x :: r => some (ls, .inl (x.toUInt32 % 65536).toInt32 :: r)
    | _ => none
  | .dup => match st with
    | .inl x :: r => some (ls, .inl x :: .inl x :: r)
    | .inr (.inl x) :: r => some (ls, .inr (.inl x) :: .inr (.inl x) :: r)
    | _ => none
  | .dup2 => match st with
    | .inl y :: .inr (.inl x) :: r => some (ls, .inl y :: .inr (.inl x) :: .inl y :: .inr (.inl x) :: r)
    | _ => none
  | .pop => match st with
    | .inl _ :: r => some (ls, r)
    | _ => none
  | .ldc k => match am_ck own k with
    | some (.inl x) => some (ls, .inl x :: st)
    | some (.inr s) => some (ls, .inr (.inl (some (99, s))) :: st)
    | none => none
  | .ldc_w k => match am_ck own k with
    | some (.inl x) => some (ls, .inl x :: st)
    | _ => none
  | .ldc2_w k => match am_cl own k with
    | some x => some (ls, .inr (.inr x) :: st)
    | none => none
  | .getstatic k => match am_gs own k with
    | some (.inl x) => some (ls, .inl x :: st)
    | some (.inr s) => some (ls, .inr (.inl (some (s, 0))) :: st)
    | none => none
  | _ => none
def am_br {α : Type} (pc : Nat) (off : Int) (k : Nat → Option α) : Option α := match (pc : Int) + off with
  | .ofNat t => k t
  | .negSucc _ => none
def am_c1 {α : Type} (c : ClassFile.Cond) (x : Int32) (a b : α) : α := match c with
  | .eq => if x = 0 then a else b
  | .ne => if x = 0 then b else a
  | .lt => if x < 0 then a else b
  | .ge => if x < 0 then b else a
  | .gt => if x ≤ 0 then b else a
  | .le => if x ≤ 0 then a else b
def am_c2 {α : Type} (c : ClassFile.Cond) (x y : Int32) (a b : α) : α := match c with
  | .eq => if x = y then a else b
  | .ne => if x = y then b else a
  | .lt => if x < y then a else b
  | .ge => if x < y then b else a
  | .gt => if x ≤ y then b else a
  | .le => if x ≤ y then a else b
def am_ts {α : Type} (x : Int32) (pc : Nat) (d : Int) (k : Nat → Option α) : List Int → Int → Option α
  | [], _ => am_br pc d k
  | o :: os, lo => if x = am_ci lo then am_br pc o k else am_ts x pc d k os (lo + 1)
def am_z (x : Int32) : Bool := decide (x = 0) || decide (x = 1)
def am_ch (x : Int32) : Bool := decide (narrow .char (.int x) = .int x)
def am_by8 (x : Int32) : Bool := decide (narrow .byte (.int x) = .int x)
def am_rz (rk : Nat) (x : Int32) : Bool := match rk with
  | 1 => true
  | 2 => am_z x
  | 4 => am_ch x
  | 5 => am_by8 x
  | _ => false
def am_bV {α β : Type} (x : Option (Option am_V × α)) (k : α → Option β) : Option β := match x with
  | some (none, h) => k h
  | _ => none
def am_bI {α β : Type} (x : Option (Option am_V × α)) (k : Int32 → α → Option β) : Option β := match x with
  | some (some (.inl v), h) => k v h
  | _ => none
def am_bR {α β : Type} (x : Option (Option am_V × α)) (k : Option (Nat × Nat) → α → Option β) : Option β := match x with
  | some (some (.inr (.inl v)), h) => k v h
  | _ => none
def am_bd {α β : Type} (rk : Nat) (x : Option (Option am_V × α)) (k : List am_V → α → Option β) : Option β := match rk with
  | 0 => am_bV x (fun h => k [] h)
  | 3 => am_bR x (fun v h => k [.inr (.inl v)] h)
  | _ => am_bI x (fun v h => k [.inl v] h)
section
variable {Hp : Type}
def am_rcv (I : am_O Hp) (h : Hp) (kd c : Nat) (as : List am_V) : Bool := match kd with
  | 0 => match as with
    | .inr (.inl (some q)) :: _ => match I.2.2.2.2.2.1 h q with
      | some ci => Nat.beq ci (am_ow c)
      | none => false
    | _ => false
  | 2 => match as with
    | .inr (.inl (some q)) :: _ => Nat.blt q.1 95
    | _ => false
  | 4 => match as with
    | .inr (.inl (some q)) :: _ => Nat.blt q.1 95
    | _ => false
  | _ => true
/-- a call of method c: kd as am_cm has it -/
def am_do (I : am_O Hp) (call : Nat → List am_V → Hp → am_R Hp) (m : Nat) (k : List am_V → Hp → am_R Hp) (kd c na : Nat) (st : List am_V) (h : Hp) : am_R Hp :=
  match Nat.ble na st.length && (Nat.ble (st.length - na) 4 && (Nat.blt (am_ht c) (am_ht m) && am_rcv I h kd c (st.take na).reverse)) with
  | true => am_bd (am_rk c) (call c (st.take na).reverse h) (fun vs h' => k (vs ++ st.drop na) h')
  | false => none
def am_gF (I : am_O Hp) (t : Option (Nat × Nat)) (st : List am_V) (h : Hp) (k : List am_V → Hp → am_R Hp) : am_R Hp := match t with
  | some (ci, f) => match st with
    | .inr (.inl (some q)) :: r => match I.1 h q ci f with
      | some v => k (v :: r) h
      | none => none
    | _ => none
  | none => none
def am_fo (m ci f : Nat) : Bool := match am_ff ci f with
  | false => true
  | true => am_ii m && Nat.beq (am_ow m) ci
def am_pF (I : am_O Hp) (m : Nat) (t : Option (Nat × Nat)) (st : List am_V) (h : Hp) (k : List am_V → Hp → am_R Hp) : am_R Hp := match t with
  | some (ci, f) => match st with
    | v :: .inr (.inl (some q)) :: r => am_if (am_fo m ci f) (am_if (I.2.1 h q ci f v).1 (k r (I.2.1 h q ci f v).2))
    | _ => none
  | none => none
def am_aL (I : am_O Hp) (ty : Nat) (st : List am_V) (h : Hp) (k : List am_V → Hp → am_R Hp) : am_R Hp := match st with
  | .inl j :: .inr (.inl (some q)) :: r => am_if (I.2.2.1 h ty q j).1 (k ((I.2.2.1 h ty q j).2 :: r) h)
  | _ => none
def am_aS (I : am_O Hp) (ty : Nat) (st : List am_V) (h : Hp) (k : List am_V → Hp → am_R Hp) : am_R Hp := match st with
  | v :: .inl j :: .inr (.inl (some q)) :: r => am_if (I.2.2.2.1 h ty q j v).1 (k r (I.2.2.2.1 h ty q j v).2)
  | _ => none
def am_lN (I : am_O Hp) (st : List am_V) (h : Hp) (k : List am_V → Hp → am_R Hp) : am_R Hp := match st with
  | .inr (.inl (some q)) :: r => match I.2.2.2.2.1 h q with
    | some x => k (.inl x :: r) h
    | none => none
  | _ => none
def am_nW (I : am_O Hp) (t : Option Nat) (st : List am_V) (h : Hp) (k : List am_V → Hp → am_R Hp) : am_R Hp := match t with
  | some ci => match I.2.2.2.2.2.2.1 h ci with
    | some (q, h') => k (.inr (.inl (some q)) :: st) h'
    | none => none
  | none => none
def am_nA (I : am_O Hp) (ty : Option Nat) (st : List am_V) (h : Hp) (k : List am_V → Hp → am_R Hp) : am_R Hp := match ty with
  | some t => match st with
    | .inl x :: r => am_if (I.2.2.2.2.2.2.2 h t x).1 (k (.inr (.inl (some (I.2.2.2.2.2.2.2 h t x).2.1)) :: r) (I.2.2.2.2.2.2.2 h t x).2.2)
    | _ => none
  | none => none
def am_oI (st : List am_V) (h : Hp) (k : List am_V → Hp → am_R Hp) : am_R Hp := match st with
  | .inr (.inl (some q)) :: r => am_if (Nat.blt q.1 95 && Nat.ble r.length 4) (k r h)
  | _ => none
def am_iv (I : am_O Hp) (call : Nat → List am_V → Hp → am_R Hp) (m : Nat) (t : Option (Nat × Nat × Nat)) (st : List am_V) (h : Hp) (k : List am_V → Hp → am_R Hp) : am_R Hp := match t with
  | some (0, c, na) => am_do I call m k 0 c na st h
  | _ => none
def am_is (I : am_O Hp) (call : Nat → List am_V → Hp → am_R Hp) (m : Nat) (t : Option (Nat × Nat × Nat)) (st : List am_V) (h : Hp) (k : List am_V → Hp → am_R Hp) : am_R Hp := match t with
  | some (1, c, na) => am_do I call m k 1 c na st h
  | some (3, c, na) => am_do I call m k 3 c na st h
  | _ => none
def am_ip (I : am_O Hp) (call : Nat → List am_V → Hp → am_R Hp) (m : Nat) (t : Option (Nat × Nat × Nat)) (st : List am_V) (h : Hp) (k : List am_V → Hp → am_R Hp) : am_R Hp := match t with
  | some (2, c, na) => am_do I call m k 2 c na st h
  | some (4, c, na) => am_do I call m k 4 c na st h
  | some (5, _, _) => am_oI st h k
  | _ => none
def am_ac (t : Option Nat) : Option Nat := match t with
  | some 0 => some 2
  | some 2 => some 3
  | _ => none
def am_aT (t : ArrayType) : Option Nat := match t with
  | .int => some 0
  | .boolean => some 1
  | _ => none
/-- heap, calls: goes on behind the instruction with the same locals -/
def am_h1 (I : am_O Hp) (call : Nat → List am_V → Hp → am_R Hp) (m : Nat) (i : Instr) (st : List am_V) (h : Hp) (k : List am_V → Hp → am_R Hp) : am_R Hp := match i with
  | .getfield x => am_gF I (am_cf (am_ow m) x) st h k
  | .putfield x => am_pF I m (am_cf (am_ow m) x) st h k
  | .iaload => am_aL I 0 st h k
  | .baload => am_aL I 1 st h k
  | .aaload => am_aL I 2 st h k
  | .iastore => am_aS I 0 st h k
  | .bastore => am_aS I 1 st h k
  | .aastore => am_aS I 2 st h k
  | .arraylength => am_lN I st h k
  | .new x => am_nW I (am_cc (am_ow m) x) st h k
  | .newarray ty => am_nA I (am_aT ty) st h k
  | .anewarray c => am_nA I (am_ac (am_cc (am_ow m) c)) st h k
  | .invokevirtual x => am_iv I call m (am_cm (am_ow m) x) st h k
  | .invokestatic x => am_is I call m (am_cm (am_ow m) x) st h k
  | .invokespecial x => am_ip I call m (am_cm (am_ow m) x) st h k
  | _ => none
def am_j1 (c : ClassFile.Cond) (off : Int) (pc n : Nat) (st : List am_V) (k : Nat → List am_V → am_R Hp) : am_R Hp := match st with
  | .inl x :: r => am_c1 c x (am_br pc off (fun t => k t r)) (k (pc + n) r)
  | _ => none
def am_j2 (c : ClassFile.Cond) (off : Int) (pc n : Nat) (st : List am_V) (k : Nat → List am_V → am_R Hp) : am_R Hp := match st with
  | .inl y :: .inl x :: r => am_c2 c x y (am_br pc off (fun t => k t r)) (k (pc + n) r)
  | _ => none
def am_jn (off : Int) (pc n : Nat) (st : List am_V) (k : Nat → List am_V → am_R Hp) : am_R Hp := match st with
  | .inr (.inl none) :: r => am_br pc off (fun t => k t r)
  | .inr (.inl (some q)) :: r => am_if (Nat.blt q.1 95) (k (pc + n) r)
  | _ => none
def am_jN (off : Int) (pc n : Nat) (st : List am_V) (k : Nat → List am_V → am_R Hp) : am_R Hp := match st with
  | .inr (.inl none) :: r => k (pc + n) r
  | .inr (.inl (some q)) :: r => am_if (Nat.blt q.1 95) (am_br pc off (fun t => k t r))
  | _ => none
def am_jt (d lo hi : Int) (offs : Array Int) (pc : Nat) (st : List am_V) (k : Nat → List am_V → am_R Hp) : am_R Hp := match st with
  | .inl x :: r => am_if (decide (-1000 ≤ lo ∧ lo ≤ 0 ∧ hi ≤ 1000 ∧ (offs.toList.length : Int) = hi - lo + 1)) (am_ts x pc d (fun t => k t r) offs.toList lo)
  | _ => none
/-- jumps -/
def am_h2 (i : Instr) (pc n : Nat) (st : List am_V) (k : Nat → List am_V → am_R Hp) : am_R Hp := match i with
  | .goto off => am_br pc off (fun t => k t st)
  | .ifCond c off => am_j1 c off pc n st k
  | .if_icmp c off => am_j2 c off pc n st k
  | .ifnull off => am_jn off pc n st k
  | .ifnonnull off => am_jN off pc n st k
  | .tableswitch d lo hi offs => am_jt d lo hi offs pc st k
  | _ => none
/-- ends -/
def am_h3 (m : Nat) (i : Instr) (st : List am_V) (h : Hp) : am_R Hp := match i with
  | .ireturn => match st with
    | [.inl x] => am_if (am_rz (am_rk m) x) (some (some (.inl x), h))
    | _ => none
  | .areturn => match st with
    | [.inr (.inl x)] => am_if (Nat.beq (am_rk m) 3) (some (some (.inr (.inl x)), h))
    | _ => none
  | .return_ => match st with
    | [] => am_if (Nat.beq (am_rk m) 0) (some (none, h))
    | _ => none
  | _ => none
/-- of which kind an instruction is: 1 heap and calls, 2 jumps, 3 ends, 0 else -/
def am_kd (i : Instr) : Nat := match i with
  | .getfield _ => 1
  | .putfield _ => 1
  | .iaload => 1
  | .baload => 1
  | .aaload => 1
  | .iastore => 1
  | .bastore => 1
  | .aastore => 1
  | .arraylength => 1
  | .new _ => 1
  | .newarray _ => 1
  | .anewarray _ => 1
  | .invokevirtual _ => 1
  | .invokestatic _ => 1
  | .invokespecial _ => 1
  | .goto _ => 2
  | .ifCond _ _ => 2
  | .if_icmp _ _ => 2
  | .ifnull _ => 2
  | .ifnonnull _ => 2
  | .tableswitch _ _ _ _ => 2
  | .ireturn => 3
  | .areturn => 3
  | .return_ => 3
  | _ => 0
def am_si (I : am_O Hp) (call : Nat → List am_V → Hp → am_R Hp) (m : Nat) (i : Instr) (n : Nat) (k : Nat → am_L → List am_V → Hp → am_R Hp) (pc : Nat) (ls : am_L) (st : List am_V) (h : Hp) : am_R Hp := match am_kd i with
  | 1 => am_h1 I call m i st h (fun st' h' => k (pc + n) ls st' h')
  | 2 => am_h2 i pc n st (fun pc' st' => k pc' ls st' h)
  | 3 => am_h3 m i st h
  | _ => match am_pu (am_ow m) i ls st with
    | some (ls', st') => k (pc + n) ls' st' h
    | none => none
def am_st (I : am_O Hp) (call : Nat → List am_V → Hp → am_R Hp) (m : Nat) (k : Nat → am_L → List am_V → Hp → am_R Hp) (pc : Nat) (ls : am_L) (st : List am_V) (h : Hp) : am_R Hp := match am_at m pc with
  | none => none
  | some (i, n) => am_si I call m i n k pc ls st h
end
