/-! a method's body; Met of every method by its height -/
section
variable {p : Program} {l : Launch} {e : Env} {R : Room} {s : State} {mid : MethodId} {args : Array Value} {below : List Frame} {meth : Method} {c : Code} {Q : State → Prop} {z : am_N} {m : Nat}
set_option maxHeartbeats 4000000 in
theorem am_body (hcall : ∀ c, c < 190 → am_ht c < am_ht m → am_MetC l z c) (hx : p.tables.exec = Jvm.exec) (hb : c.code = am_by m) (hm : m < 191) (hml : c.maxLocals = am_ml m) (hown : s.vm.findClass (am_cn (am_ow m)) = some mid.cls) (hts : ∀ w ∈ lw_G, w.before args s = true) (hini : am_ii m = true → meth.name = "<init>") (hXt : am_Xt z s)
    (hRf : am_ht m ≤ R.frames) (hRl : 38 * am_ht m ≤ R.locals) (hht : 0 < am_ht m) {r : Option am_V} {h' : am_H} {Cc Cs : Nat} (hCc : Cc ≤ R.cells) (hCs : Cs ≤ R.slots)
    (hret : ∀ (pc : Nat) (lsJ : Array Slot) (H : Heap) (locs : List Loc) (i : Instr), decode (am_by m) pc = .ok (i, 1) → ((i = .ireturn ∧ ∃ x, r = some (.inl x) ∧ am_rz (am_rk m) x = true) ∨ (i = .areturn ∧ (∃ x, r = some (.inr (.inl x))) ∧ am_rk m = 3) ∨ (i = .return_ ∧ r = none ∧ am_rk m = 0)) → am_W z h' H → va_S (az_A z) s.heap H locs → W p l e R s mid args below meth c H locs Cc Cs Q (F0 mid pc lsJ (r.toList.map (am_vl z)))) :
    ∀ (n pc : Nat) (ls : am_L) (st : List am_V) (h : am_H) (lsJ : Array Slot) (H : Heap) (locs : List Loc) (cells slots : Nat), am_F (am_I1 (az_E z)) (am_run (am_I1 (az_E z))) m n pc ls st h = some (r, h') → am_Lr z (am_ml m) ls lsJ → am_W z h H → va_S (az_A z) s.heap H locs → cells + (h'.length - h.length) = Cc → slots + (am_sl h' - am_sl h) = Cs → W p l e R s mid args below meth c H locs cells slots Q (F0 mid pc lsJ (st.map (am_vl z))) := by
  have hfv : az_fv z = .null ∨ ∃ a, az_fv z = .ref a := hXt.2.2.2.2.2.2.2.2.2.2.2.2.2
  have hmono : ∀ c as h r h', am_ht c < am_ht m → am_run (am_I1 (az_E z)) c as h = some (r, h') → am_le h h' := fun c as h r h' _ e => am_run_le (az_E z) (am_ht c + 1) c (Nat.lt_succ_self _) as h r h' e
  intro n
  induction n with
  | zero => intro pc ls st h lsJ H locs cells slots e0; cases e0
  | succ n ih =>
    intro pc ls st h lsJ H locs cells slots e0 hL hW hS hc1 hc2
    replace e0 : am_st (am_I1 (az_E z)) (am_run (am_I1 (az_E z))) m (am_F (am_I1 (az_E z)) (am_run (am_I1 (az_E z))) m n) pc ls st h = some (r, h') := e0
    have mono : ∀ {pc ls st h1}, am_F (am_I1 (az_E z)) (am_run (am_I1 (az_E z))) m n pc ls st h1 = some (r, h') → am_le h1 h' := fun g => am_F_mono hmono n _ _ _ _ _ g
    unfold am_st at e0
    rcases hat : am_at m pc with _ | ⟨i, k⟩
    · rw [hat] at e0; cases e0
    · rw [hat] at e0
      replace e0 : am_si (am_I1 (az_E z)) (am_run (am_I1 (az_E z))) m i k (am_F (am_I1 (az_E z)) (am_run (am_I1 (az_E z))) m n) pc ls st h = some (r, h') := e0
      have hd := am_dec hm hat
      have hl := am_lens hm hat
      have hj := am_jks hm hat
      unfold am_si at e0
      have pure0 : (match am_pu (am_ow m) i ls st with | some (ls', st') => am_F (am_I1 (az_E z)) (am_run (am_I1 (az_E z))) m n (pc + k) ls' st' h | none => none) = some (r, h') → W p l e R s mid args below meth c H locs cells slots Q (F0 mid pc lsJ (st.map (am_vl z))) := by
        intro e0
        rcases hp : am_pu (am_ow m) i ls st with _ | ⟨l', s'⟩
        · rw [hp] at e0; cases e0
        · rw [hp] at e0
          exact am_pu_W hx hb hown hts hXt hS hd hl hL hp (fun lsJ' hL' => ih _ _ _ _ _ _ _ _ _ e0 hL' hW hS hc1 hc2)
      rcases hkd : am_kd i with _ | _ | _ | _ | kd
      · rw [hkd] at e0; exact pure0 e0
      · rw [hkd] at e0
        replace e0 : am_h1 (am_I1 (az_E z)) (am_run (am_I1 (az_E z))) m i st h (fun st' h1 => am_F (am_I1 (az_E z)) (am_run (am_I1 (az_E z))) m n (pc + k) ls st' h1) = some (r, h') := e0
        cases i
        case getfield x =>
          obtain rfl : 3 = k := Nat.eq_of_beq_eq_true hl
          replace e0 : am_gF (am_I1 (az_E z)) (am_cf (am_ow m) x) st h (fun st' h1 => am_F (am_I1 (az_E z)) (am_run (am_I1 (az_E z))) m n (pc + 3) ls st' h1) = some (r, h') := e0
          rcases ht : am_cf (am_ow m) x with _ | ⟨ci, f⟩
          · rw [ht] at e0; cases e0
          · rw [ht] at e0
            rcases st with _ | ⟨_ | (_ | q) | _, rr⟩
            case cons.inr.inl.some =>
              cases hg : am_gf1 h q ci f with
              | none =>
                have e2 : am_gF (am_I1 (az_E z)) (some (ci, f)) (.inr (.inl (some q)) :: rr) h (fun st' h1 => am_F (am_I1 (az_E z)) (am_run (am_I1 (az_E z))) m n (pc + 3) ls st' h1) = none := by unfold am_gF; simp only [am_I1, hg]
                rw [e2] at e0; cases e0
              | some v =>
                have e2 : am_gF (am_I1 (az_E z)) (some (ci, f)) (.inr (.inl (some q)) :: rr) h (fun st' h1 => am_F (am_I1 (az_E z)) (am_run (am_I1 (az_E z))) m n (pc + 3) ls st' h1) = am_F (am_I1 (az_E z)) (am_run (am_I1 (az_E z))) m n (pc + 3) ls (v :: rr) h := by unfold am_gF; simp only [am_I1, hg]
                rw [e2] at e0
                exact am_gf_W hx hb hown hts hXt hS hW hd ht hg (ih _ _ _ _ _ _ _ _ _ e0 hL hW hS hc1 hc2)
            all_goals cases e0
        case putfield x =>
          obtain rfl : 3 = k := Nat.eq_of_beq_eq_true hl
          replace e0 : am_pF (am_I1 (az_E z)) m (am_cf (am_ow m) x) st h (fun st' h1 => am_F (am_I1 (az_E z)) (am_run (am_I1 (az_E z))) m n (pc + 3) ls st' h1) = some (r, h') := e0
          rcases ht : am_cf (am_ow m) x with _ | ⟨ci, f⟩
          · rw [ht] at e0; cases e0
          · rw [ht] at e0
            rcases st with _ | ⟨v, _ | ⟨_ | (_ | q) | _, rr⟩⟩
            case cons.cons.inr.inl.some =>
              obtain ⟨g1, e0⟩ := am_if_some (show am_if (am_fo m ci f) (am_if (am_pf1 h q ci f v).1 (am_F (am_I1 (az_E z)) (am_run (am_I1 (az_E z))) m n (pc + 3) ls rr (am_pf1 h q ci f v).2)) = some (r, h') from e0)
              obtain ⟨g2, e0⟩ := am_if_some e0
              obtain ⟨l1, l2⟩ := am_pf1_ln h q ci f v
              exact am_pf_W hx hb hown hts hini hXt hS hW hd ht g1 g2 (fun H1 locs1 w1 w2 => ih _ _ _ _ _ _ _ _ _ e0 hL w1 w2 (by rw [l1]; exact hc1) (by rw [l2]; exact hc2))
            all_goals cases e0
        case iaload =>
          obtain rfl : 1 = k := Nat.eq_of_beq_eq_true hl
          rcases st with _ | ⟨j | _, _ | ⟨_ | (_ | q) | _, rr⟩⟩
          case cons.inl.cons.inr.inl.some =>
            obtain ⟨g1, e0⟩ := am_if_some (show am_if (am_al1 (az_E z) h 0 q j).1 (am_F (am_I1 (az_E z)) (am_run (am_I1 (az_E z))) m n (pc + 1) ls ((am_al1 (az_E z) h 0 q j).2 :: rr) h) = some (r, h') from e0)
            exact am_al_W hx hb hXt hS hW (Or.inl ⟨rfl, rfl⟩) hd g1 (ih _ _ _ _ _ _ _ _ _ e0 hL hW hS hc1 hc2)
          all_goals cases e0
        case baload =>
          obtain rfl : 1 = k := Nat.eq_of_beq_eq_true hl
          rcases st with _ | ⟨j | _, _ | ⟨_ | (_ | q) | _, rr⟩⟩
          case cons.inl.cons.inr.inl.some =>
            obtain ⟨g1, e0⟩ := am_if_some (show am_if (am_al1 (az_E z) h 1 q j).1 (am_F (am_I1 (az_E z)) (am_run (am_I1 (az_E z))) m n (pc + 1) ls ((am_al1 (az_E z) h 1 q j).2 :: rr) h) = some (r, h') from e0)
            exact am_al_W hx hb hXt hS hW (Or.inr (Or.inl ⟨rfl, rfl⟩)) hd g1 (ih _ _ _ _ _ _ _ _ _ e0 hL hW hS hc1 hc2)
          all_goals cases e0
        case aaload =>
          obtain rfl : 1 = k := Nat.eq_of_beq_eq_true hl
          rcases st with _ | ⟨j | _, _ | ⟨_ | (_ | q) | _, rr⟩⟩
          case cons.inl.cons.inr.inl.some =>
            obtain ⟨g1, e0⟩ := am_if_some (show am_if (am_al1 (az_E z) h 2 q j).1 (am_F (am_I1 (az_E z)) (am_run (am_I1 (az_E z))) m n (pc + 1) ls ((am_al1 (az_E z) h 2 q j).2 :: rr) h) = some (r, h') from e0)
            exact am_al_W hx hb hXt hS hW (Or.inr (Or.inr ⟨rfl, rfl⟩)) hd g1 (ih _ _ _ _ _ _ _ _ _ e0 hL hW hS hc1 hc2)
          all_goals cases e0
        case iastore =>
          obtain rfl : 1 = k := Nat.eq_of_beq_eq_true hl
          rcases st with _ | ⟨v, _ | ⟨j | _, _ | ⟨_ | (_ | q) | _, rr⟩⟩⟩
          case cons.cons.inl.cons.inr.inl.some =>
            obtain ⟨g1, e0⟩ := am_if_some (show am_if (am_as1 h 0 q j v).1 (am_F (am_I1 (az_E z)) (am_run (am_I1 (az_E z))) m n (pc + 1) ls rr (am_as1 h 0 q j v).2) = some (r, h') from e0)
            obtain ⟨l1, l2⟩ := am_as1_ln h 0 q j v
            exact am_as_W hx hb hXt hS hW (Or.inl ⟨rfl, rfl⟩) hd g1 (fun H1 locs1 w1 w2 => ih _ _ _ _ _ _ _ _ _ e0 hL w1 w2 (by rw [l1]; exact hc1) (by rw [l2]; exact hc2))
          all_goals cases e0
        case bastore =>
          obtain rfl : 1 = k := Nat.eq_of_beq_eq_true hl
          rcases st with _ | ⟨v, _ | ⟨j | _, _ | ⟨_ | (_ | q) | _, rr⟩⟩⟩
          case cons.cons.inl.cons.inr.inl.some =>
            obtain ⟨g1, e0⟩ := am_if_some (show am_if (am_as1 h 1 q j v).1 (am_F (am_I1 (az_E z)) (am_run (am_I1 (az_E z))) m n (pc + 1) ls rr (am_as1 h 1 q j v).2) = some (r, h') from e0)
            obtain ⟨l1, l2⟩ := am_as1_ln h 1 q j v
            exact am_as_W hx hb hXt hS hW (Or.inr (Or.inl ⟨rfl, rfl⟩)) hd g1 (fun H1 locs1 w1 w2 => ih _ _ _ _ _ _ _ _ _ e0 hL w1 w2 (by rw [l1]; exact hc1) (by rw [l2]; exact hc2))
          all_goals cases e0
        case aastore =>
          obtain rfl : 1 = k := Nat.eq_of_beq_eq_true hl
          rcases st with _ | ⟨v, _ | ⟨j | _, _ | ⟨_ | (_ | q) | _, rr⟩⟩⟩
          case cons.cons.inl.cons.inr.inl.some =>
            obtain ⟨g1, e0⟩ := am_if_some (show am_if (am_as1 h 2 q j v).1 (am_F (am_I1 (az_E z)) (am_run (am_I1 (az_E z))) m n (pc + 1) ls rr (am_as1 h 2 q j v).2) = some (r, h') from e0)
            obtain ⟨l1, l2⟩ := am_as1_ln h 2 q j v
            exact am_as_W hx hb hXt hS hW (Or.inr (Or.inr ⟨rfl, rfl⟩)) hd g1 (fun H1 locs1 w1 w2 => ih _ _ _ _ _ _ _ _ _ e0 hL w1 w2 (by rw [l1]; exact hc1) (by rw [l2]; exact hc2))
          all_goals cases e0
        case arraylength =>
          obtain rfl : 1 = k := Nat.eq_of_beq_eq_true hl
          rcases st with _ | ⟨_ | (_ | q) | _, rr⟩
          case cons.inr.inl.some =>
            replace e0 : (match am_ln1 (az_E z) h q with | some x => am_F (am_I1 (az_E z)) (am_run (am_I1 (az_E z))) m n (pc + 1) ls (.inl x :: rr) h | none => none) = some (r, h') := e0
            cases hg : am_ln1 (az_E z) h q with
            | none => rw [hg] at e0; cases e0
            | some v =>
              rw [hg] at e0
              exact am_ln_W hx hb hXt hS hW hd hg (ih _ _ _ _ _ _ _ _ _ e0 hL hW hS hc1 hc2)
          all_goals cases e0
        case new x =>
          obtain rfl : 3 = k := Nat.eq_of_beq_eq_true hl
          replace e0 : am_nW (am_I1 (az_E z)) (am_cc (am_ow m) x) st h (fun st' h1 => am_F (am_I1 (az_E z)) (am_run (am_I1 (az_E z))) m n (pc + 3) ls st' h1) = some (r, h') := e0
          rcases ht : am_cc (am_ow m) x with _ | ci
          · rw [ht] at e0; cases e0
          · rw [ht] at e0
            rcases hg : am_nw1 h ci with _ | ⟨q, h1⟩
            · have e2 : am_nW (am_I1 (az_E z)) (some ci) st h (fun st' h1 => am_F (am_I1 (az_E z)) (am_run (am_I1 (az_E z))) m n (pc + 3) ls st' h1) = none := by unfold am_nW; simp only [am_I1, hg]
              rw [e2] at e0; cases e0
            · have e2 : am_nW (am_I1 (az_E z)) (some ci) st h (fun st' h1 => am_F (am_I1 (az_E z)) (am_run (am_I1 (az_E z))) m n (pc + 3) ls st' h1) = am_F (am_I1 (az_E z)) (am_run (am_I1 (az_E z))) m n (pc + 3) ls (.inr (.inl (some q)) :: st) h1 := by unfold am_nW; simp only [am_I1, hg]
              rw [e2] at e0
              have hm1 := mono e0
              have hh1 : h1 = h ++ [.inl (ci, am_df ci)] ∧ ci < 10 := by
                unfold am_nw1 at hg
                split at hg
                · rename_i hb9
                  cases hg
                  simp only [Bool.and_eq_true] at hb9
                  exact ⟨rfl, Nat.le_of_ble_eq_true hb9.2⟩
                · cases hg
              have hsz : am_sc (.inl (ci, am_df ci)) = am_nf ci := by
                show (am_df ci).length = am_nf ci
                unfold am_df
                rw [List.length_map]
                have h3 : ∀ ci, ci < 10 → (am_tyT ci).length = am_nf ci := by decide
                exact h3 ci hh1.2
              have hl1 : h1.length = h.length + 1 := by rw [hh1.1, List.length_append]; rfl
              have hl2 : am_sl h1 = am_sl h + am_nf ci := by rw [hh1.1, am_sl_app, hsz]
              have hmm := hm1.1
              have hmm2 := hm1.2
              exact am_nw_W hx hb hown hts hXt hS hW hd ht hg (by omega) (by omega) (fun H1 w1 w2 => ih _ _ _ _ _ _ _ _ _ e0 hL w1 w2 (by omega) (by omega))
        case newarray ty =>
          obtain rfl : 2 = k := Nat.eq_of_beq_eq_true hl
          replace e0 : am_nA (am_I1 (az_E z)) (am_aT ty) st h (fun st' h1 => am_F (am_I1 (az_E z)) (am_run (am_I1 (az_E z))) m n (pc + 2) ls st' h1) = some (r, h') := e0
          have core : ∀ t, am_aT ty = some t → ((t = 0 ∧ Instr.newarray ty = .newarray .int ∧ 2 = 2) ∨ (t = 1 ∧ Instr.newarray ty = .newarray .boolean ∧ 2 = 2)) → t < 2 → W p l e R s mid args below meth c H locs cells slots Q (F0 mid pc lsJ (st.map (am_vl z))) := by
            intro t ht hi ht2
            rw [ht] at e0
            rcases st with _ | ⟨j | _, rr⟩
            · cases e0
            · obtain ⟨g1, e0⟩ := am_if_some (show am_if (am_na1 h t j).1 (am_F (am_I1 (az_E z)) (am_run (am_I1 (az_E z))) m n (pc + 2) ls (.inr (.inl (some (am_na1 h t j).2.1)) :: rr) (am_na1 h t j).2.2) = some (r, h') from e0)
              have hm1 := mono e0
              have hsz : am_sc (am_nc1 t (am_ix j)) = am_ix j := by
                unfold am_nc1
                rw [show Nat.blt t 2 = true from Nat.ble_eq_true_of_le ht2]
                show (List.replicate (am_ix j) (0 : Int32)).length = _
                rw [List.length_replicate]
              have hl1 : (am_na1 h t j).2.2.length = h.length + 1 := by show (h ++ [am_nc1 t (am_ix j)]).length = _; rw [List.length_append]; rfl
              have hl2 : am_sl (am_na1 h t j).2.2 = am_sl h + am_ix j := by show am_sl (h ++ [am_nc1 t (am_ix j)]) = _; rw [am_sl_app, hsz]
              have hmm := hm1.1
              have hmm2 := hm1.2
              exact am_na_W hx hb hown hts hXt hS hW (by rcases hi with q | q; exact Or.inl q; exact Or.inr (Or.inl q)) hd g1 (by omega) (by omega) (fun H1 w1 w2 => ih _ _ _ _ _ _ _ _ _ e0 hL w1 w2 (by omega) (by omega))
            · cases e0
          cases ty
          case int => exact core 0 rfl (Or.inl ⟨rfl, rfl, rfl⟩) (by omega)
          case boolean => exact core 1 rfl (Or.inr ⟨rfl, rfl, rfl⟩) (by omega)
          all_goals cases e0
        case anewarray x =>
          obtain rfl : 3 = k := Nat.eq_of_beq_eq_true hl
          replace e0 : am_nA (am_I1 (az_E z)) (am_ac (am_cc (am_ow m) x)) st h (fun st' h1 => am_F (am_I1 (az_E z)) (am_run (am_I1 (az_E z))) m n (pc + 3) ls st' h1) = some (r, h') := e0
          have core : ∀ t, am_ac (am_cc (am_ow m) x) = some t → (t = 2 ∨ t = 3) → am_cc (am_ow m) x = some (am_ec t) → W p l e R s mid args below meth c H locs cells slots Q (F0 mid pc lsJ (st.map (am_vl z))) := by
            intro t ht hi hcc
            rw [ht] at e0
            rcases st with _ | ⟨j | _, rr⟩
            · cases e0
            · obtain ⟨g1, e0⟩ := am_if_some (show am_if (am_na1 h t j).1 (am_F (am_I1 (az_E z)) (am_run (am_I1 (az_E z))) m n (pc + 3) ls (.inr (.inl (some (am_na1 h t j).2.1)) :: rr) (am_na1 h t j).2.2) = some (r, h') from e0)
              have hm1 := mono e0
              have hsz : am_sc (am_nc1 t (am_ix j)) = am_ix j := by
                rcases hi with rfl | rfl
                · show (List.replicate (am_ix j) (none : Option am_K)).length = _
                  rw [List.length_replicate]
                · show (List.replicate (am_ix j) (none : Option am_K)).length = _
                  rw [List.length_replicate]
              have hl1 : (am_na1 h t j).2.2.length = h.length + 1 := by show (h ++ [am_nc1 t (am_ix j)]).length = _; rw [List.length_append]; rfl
              have hl2 : am_sl (am_na1 h t j).2.2 = am_sl h + am_ix j := by show am_sl (h ++ [am_nc1 t (am_ix j)]) = _; rw [am_sl_app, hsz]
              have hmm := hm1.1
              have hmm2 := hm1.2
              exact am_na_W hx hb hown hts hXt hS hW (Or.inr (Or.inr ⟨x, _, hi, rfl, rfl, hcc, rfl⟩)) hd g1 (by omega) (by omega) (fun H1 w1 w2 => ih _ _ _ _ _ _ _ _ _ e0 hL w1 w2 (by omega) (by omega))
            · cases e0
          rcases hcc : am_cc (am_ow m) x with _ | _ | _ | _ | ci
          · rw [hcc] at e0; cases e0
          · exact core 2 (by rw [hcc]; rfl) (Or.inl rfl) hcc
          · rw [hcc] at e0; cases e0
          · exact core 3 (by rw [hcc]; rfl) (Or.inr rfl) hcc
          · rw [hcc] at e0; cases e0
        case invokevirtual x =>
          obtain rfl : 3 = k := Nat.eq_of_beq_eq_true hl
          replace e0 : am_iv (am_I1 (az_E z)) (am_run (am_I1 (az_E z))) m (am_cm (am_ow m) x) st h (fun st' h1 => am_F (am_I1 (az_E z)) (am_run (am_I1 (az_E z))) m n (pc + 3) ls st' h1) = some (r, h') := e0
          unfold am_iv at e0
          split at e0
          · rename_i cc na hcm
            refine am_do_W hcall hx hb hm hml hown hts hXt hS hW hL.2.1.1 hRf hRl hcm (Or.inl ⟨rfl, rfl⟩) hd e0 (fun st' h1 g2 hle => ?_) (fun st' h1 H1 locs1 g2 hle w1 w2 => ih _ _ _ _ _ _ _ _ _ g2 hL w1 w2 ?_ ?_)
            · have := mono g2; have := this.1; have := (mono g2).2; have := hle.1; have := hle.2; omega
            · have := (mono g2).1; have := hle.1; omega
            · have := (mono g2).2; have := hle.2; omega
          · cases e0
        case invokestatic x =>
          obtain rfl : 3 = k := Nat.eq_of_beq_eq_true hl
          replace e0 : am_is (am_I1 (az_E z)) (am_run (am_I1 (az_E z))) m (am_cm (am_ow m) x) st h (fun st' h1 => am_F (am_I1 (az_E z)) (am_run (am_I1 (az_E z))) m n (pc + 3) ls st' h1) = some (r, h') := e0
          unfold am_is at e0
          split at e0
          · rename_i cc na hcm
            refine am_do_W hcall hx hb hm hml hown hts hXt hS hW hL.2.1.1 hRf hRl hcm (Or.inr (Or.inl ⟨Or.inl rfl, rfl⟩)) hd e0 (fun st' h1 g2 hle => ?_) (fun st' h1 H1 locs1 g2 hle w1 w2 => ih _ _ _ _ _ _ _ _ _ g2 hL w1 w2 ?_ ?_)
            · have := mono g2; have := this.1; have := (mono g2).2; have := hle.1; have := hle.2; omega
            · have := (mono g2).1; have := hle.1; omega
            · have := (mono g2).2; have := hle.2; omega
          · rename_i cc na hcm
            refine am_do_W hcall hx hb hm hml hown hts hXt hS hW hL.2.1.1 hRf hRl hcm (Or.inr (Or.inl ⟨Or.inr rfl, rfl⟩)) hd e0 (fun st' h1 g2 hle => ?_) (fun st' h1 H1 locs1 g2 hle w1 w2 => ih _ _ _ _ _ _ _ _ _ g2 hL w1 w2 ?_ ?_)
            · have := mono g2; have := this.1; have := (mono g2).2; have := hle.1; have := hle.2; omega
            · have := (mono g2).1; have := hle.1; omega
            · have := (mono g2).2; have := hle.2; omega
          · cases e0
        case invokespecial x =>
          obtain rfl : 3 = k := Nat.eq_of_beq_eq_true hl
          replace e0 : am_ip (am_I1 (az_E z)) (am_run (am_I1 (az_E z))) m (am_cm (am_ow m) x) st h (fun st' h1 => am_F (am_I1 (az_E z)) (am_run (am_I1 (az_E z))) m n (pc + 3) ls st' h1) = some (r, h') := e0
          unfold am_ip at e0
          split at e0
          · rename_i cc na hcm
            refine am_do_W hcall hx hb hm hml hown hts hXt hS hW hL.2.1.1 hRf hRl hcm (Or.inr (Or.inr ⟨Or.inl rfl, rfl⟩)) hd e0 (fun st' h1 g2 hle => ?_) (fun st' h1 H1 locs1 g2 hle w1 w2 => ih _ _ _ _ _ _ _ _ _ g2 hL w1 w2 ?_ ?_)
            · have := mono g2; have := this.1; have := (mono g2).2; have := hle.1; have := hle.2; omega
            · have := (mono g2).1; have := hle.1; omega
            · have := (mono g2).2; have := hle.2; omega
          · rename_i cc na hcm
            refine am_do_W hcall hx hb hm hml hown hts hXt hS hW hL.2.1.1 hRf hRl hcm (Or.inr (Or.inr ⟨Or.inr rfl, rfl⟩)) hd e0 (fun st' h1 g2 hle => ?_) (fun st' h1 H1 locs1 g2 hle w1 w2 => ih _ _ _ _ _ _ _ _ _ g2 hL w1 w2 ?_ ?_)
            · have := mono g2; have := this.1; have := (mono g2).2; have := hle.1; have := hle.2; omega
            · have := (mono g2).1; have := hle.1; omega
            · have := (mono g2).2; have := hle.2; omega
          · rename_i c5 na hcm
            obtain ⟨P1, -⟩ := am_cmF hcm
            unfold am_cmP at P1
            dsimp only at P1
            rcases hpl : am_lk (am_pmT (am_ow m)) x with _ | ⟨p1, p2, p3⟩
            · rw [hpl] at P1; cases P1
            · rw [hpl] at P1
              dsimp only at P1
              simp only [Bool.and_eq_true] at P1
              rcases st with _ | ⟨_ | (_ | q) | _, rr⟩
              · cases e0
              · cases e0
              · cases e0
              · obtain ⟨g1, e0⟩ := am_if_some (show am_if (Nat.blt q.1 95 && Nat.ble rr.length 4) (am_F (am_I1 (az_E z)) (am_run (am_I1 (az_E z))) m n (pc + 3) ls rr h) = some (r, h') from e0)
                simp only [Bool.and_eq_true] at g1
                rw [List.map_cons, am_vlw (Nat.le_of_ble_eq_true g1.1)]
                have hr8 := am_rest (z := z) hfv (Nat.le_of_ble_eq_true g1.2)
                exact W.objInit hx hb hown (hts _ (lw_G_in (am_wi_in P1.1.1) rfl)) (hts _ (lw_G_in (am_wi_in P1.1.2) rfl)) (hts _ (lw_G_in (am_wi_in P1.2) rfl)) rfl (by rw [hml]; exact hL.2.1.1) rfl hd (by omega) (by show 2 * 0 + _ + 12 ≤ _; omega) (ih _ _ _ _ _ _ _ _ _ e0 hL hW hS hc1 hc2)
              · cases e0
          · cases e0
        all_goals cases hkd
      · rw [hkd] at e0
        exact am_h2_W hx hb hd hl hj (show am_h2 i pc k st (fun pc' st' => am_F (am_I1 (az_E z)) (am_run (am_I1 (az_E z))) m n pc' ls st' h) = some (r, h') from e0) (fun pc' st' g2 => ih _ _ _ _ _ _ _ _ _ g2 hL hW hS hc1 hc2)
      · rw [hkd] at e0
        replace e0 : am_h3 m i st h = some (r, h') := e0
        cases i
        case ireturn =>
          obtain rfl : 1 = k := Nat.eq_of_beq_eq_true hl
          rcases st with _ | ⟨x | _, _ | _⟩
          · cases e0
          · obtain ⟨g1, e0⟩ := am_if_some (show am_if (am_rz (am_rk m) x) (some (some (.inl x), h)) = some (r, h') from e0)
            cases e0
            have h9 := hret pc lsJ H locs _ hd (Or.inl ⟨rfl, x, rfl, g1⟩) hW hS
            rw [show Cc = cells by omega, show Cs = slots by omega] at h9
            exact h9
          · cases e0
          · cases e0
          · cases e0
        case areturn =>
          obtain rfl : 1 = k := Nat.eq_of_beq_eq_true hl
          rcases st with _ | ⟨_ | x | _, _ | _⟩
          case cons.inr.inl.nil =>
            obtain ⟨g1, e0⟩ := am_if_some (show am_if (Nat.beq (am_rk m) 3) (some (some (.inr (.inl x)), h)) = some (r, h') from e0)
            cases e0
            have h9 := hret pc lsJ H locs _ hd (Or.inr (Or.inl ⟨rfl, ⟨x, rfl⟩, Nat.eq_of_beq_eq_true g1⟩)) hW hS
            rw [show Cc = cells by omega, show Cs = slots by omega] at h9
            exact h9
          all_goals cases e0
        case return_ =>
          obtain rfl : 1 = k := Nat.eq_of_beq_eq_true hl
          rcases st with _ | ⟨_, _⟩
          · obtain ⟨g1, e0⟩ := am_if_some (show am_if (Nat.beq (am_rk m) 0) (some (none, h)) = some (r, h') from e0)
            cases e0
            have h9 := hret pc lsJ H locs _ hd (Or.inr (Or.inr ⟨rfl, rfl, Nat.eq_of_beq_eq_true g1⟩)) hW hS
            rw [show Cc = cells by omega, show Cs = slots by omega] at h9
            exact h9
          · cases e0
        all_goals cases hkd
      · rw [hkd] at e0; exact pure0 e0
/-- the locals at a method's start -/
theorem am_entry {as : List am_V} (hfv : az_fv z = .null ∨ ∃ a, az_fv z = .ref a) (hn : am_nl m as = true) : am_Lr z (am_ml m) (am_en m as) ((lg_sl (as.map (am_vl z)) ++ List.replicate (am_ml m - (lg_sl (as.map (am_vl z))).length) Slot.unset).toArray) := by
  unfold am_nl at hn
  simp only [Bool.and_eq_true] at hn
  obtain ⟨hall, hlen⟩ := hn
  have hlen : as.length ≤ am_ml m := Nat.le_of_ble_eq_true hlen
  have hcat : ∀ v ∈ as, (am_vl z v).category = 1 := fun v hv => am_cat1 hfv (List.all_eq_true.mp hall v hv)
  have hsl : ∀ (vs : List am_V), (∀ v ∈ vs, (am_vl z v).category = 1) → (lg_sl (vs.map (am_vl z))).length = vs.length := by
    intro vs
    induction vs with
    | nil => intro _; rfl
    | cons v vs ih =>
      intro hv
      have h1 := hv v List.mem_cons_self
      have h2 := ih (fun w hw => hv w (List.mem_cons_of_mem _ hw))
      unfold lg_sl at h2 ⊢
      rw [List.map_cons, List.flatMap_cons, if_neg (by omega), List.length_append, h2]
      simp; omega
  have hl2 := hsl as hcat
  have hent := lv_entry (as.map (am_vl z)) (n := am_ml m) (by rw [hl2]; exact hlen)
  have hargs : ∀ (vs : List am_V) (k : Nat), (∀ v ∈ vs, (am_vl z v).category = 1) → ∀ (i : Nat) (v : am_V), vs[i]? = some v → (k + i, am_vl z v) ∈ lv_args k (vs.map (am_vl z)) := by
    intro vs
    induction vs with
    | nil => intro k _ i v hi; simp at hi
    | cons w vs ih =>
      intro k hv i v hi
      have h1 := hv w List.mem_cons_self
      show (k + i, am_vl z v) ∈ (k, am_vl z w) :: lv_args (if (am_vl z w).category = 2 then k + 2 else k + 1) (vs.map (am_vl z))
      rw [if_neg (by omega)]
      cases i with
      | zero =>
        cases hi
        exact List.mem_cons_self
      | succ i =>
        have h2 := ih (k + 1) (fun w hw => hv w (List.mem_cons_of_mem _ hw)) i v (by simpa using hi)
        rw [show k + (i + 1) = k + 1 + i by omega]
        exact List.mem_cons_of_mem _ h2
  have hget : ∀ (i : Nat) (v : am_V), (am_en m as)[i]? = some (some v) → as[i]? = some v := by
    intro i v hi
    unfold am_en at hi
    rw [List.getElem?_append] at hi
    split at hi
    · rw [List.getElem?_map] at hi
      cases h9 : as[i]? with
      | none => rw [h9] at hi; cases hi
      | some w => rw [h9] at hi; cases hi; rfl
    · rw [List.getElem?_replicate] at hi
      split at hi <;> cases hi
  refine ⟨by unfold am_en; simp; omega, ⟨hent.1, hent.2.1, fun q hq => ?_⟩, fun i v hi => hcat v (List.mem_of_getElem? (hget i v hi))⟩
  obtain ⟨v, h1, h2⟩ := am_ll_mem.mp hq
  have h3 := hargs as 0 hcat q.1 v (hget _ _ h1)
  refine hent.2.2 q ?_
  rw [Nat.zero_add, h2] at h3
  exact h3
set_option maxHeartbeats 4000000 in
/-- in(long, long, long), walked by hand -/
theorem am_in_Met (l : Launch) (z : am_N) : am_MetC l z mI_Mo_in := by
  intro as h r h' e0
  replace e0 : am_nt as h = some (r, h') := e0
  rcases as with _ | ⟨_ | _ | v, _ | ⟨_ | _ | a, _ | ⟨_ | _ | b, _ | _⟩⟩⟩
  case cons.inr.inr.cons.inr.inr.cons.inr.inr.nil =>
    cases e0
    rw [Nat.sub_self, Nat.sub_self]
    refine va_MetF (cc := am_by mI_Mo_in) (maxL := 6) (ret := some .boolean) (am_yok (c := mI_Mo_in) (by decide)).2.2.2.2.1 rfl ?_
    intro p e s mid args below meth c s₁ B hml hv
    obtain ⟨rfl, hW, hXt⟩ := hv
    have hx := B.exec
    have hb := B.bytes
    have hr := B.returns
    have hlocks := B.notSynchronized
    have hS : va_S (az_A z) s.heap s.heap [] := va_S.rf
    show W _ _ _ _ _ _ _ _ _ _ _ _ _ _ _ (entryFrame mid ([.long v, .long a, .long b] : List Value).toArray 6)
    rw [lg_entry_eq]
    have hl := lv_entry ([.long v, .long a, .long b]) (n := 6) (Nat.le_of_ble_eq_true rfl)
    generalize (lg_sl ([.long v, .long a, .long b]) ++ List.replicate (6 - (lg_sl ([.long v, .long a, .long b])).length) Slot.unset).toArray = ls at hl ⊢
    have hl : lv_has ls 6 [(0, .long v), (2, .long a), (4, .long b)] := hl
    have fin : ∀ x : Int32, (x = 0 ∨ x = 1) → x = (if v < a then 0 else if b < v then 0 else 1) → W p l e (am_rm (am_ht mI_Mo_in) 0 0) s mid (List.map (am_vl z) [.inr (.inr v), .inr (.inr a), .inr (.inr b)]).toArray below meth c s.heap [] 0 0 (MQ below (am_Qc z (some (.inl (if v < a then 0 else if b < v then 0 else 1))) h) (List.map (am_vl z) [.inr (.inr v), .inr (.inr a), .inr (.inr b)]).toArray s 0 0 (az_A z)) (F0 mid 18 ls [.int x]) := by
      intro x hx01 hxe
      exact W.zret hx hb hr (by rcases hx01 with rfl | rfl <;> rfl) (fun t ht hWm => ⟨by rw [hxe]; rfl, by rw [ht]; exact hW, hS.F ht⟩) hS.2.2 (am_dec (m := mI_Mo_in) (pc := 18) (by decide) rfl)
    refine lv_lload_n hx hb (am_dec (m := mI_Mo_in) (pc := 0) (by decide) rfl) rfl (lv_at hl 0 rfl) ?_
    refine lv_lload_n hx hb (am_dec (m := mI_Mo_in) (pc := 1) (by decide) rfl) rfl (lv_at hl 1 rfl) ?_
    refine W.lcmp hx hb (am_dec (m := mI_Mo_in) (pc := 2) (by decide) rfl) ?_
    refine lv_if_lt (tgt := 17) hx hb (am_dec (m := mI_Mo_in) (pc := 3) (by decide) rfl) (by decide) (fun c1 => ?_) (fun c1 => ?_)
    · refine lv_iconst (v := 0) hx hb (am_dec (m := mI_Mo_in) (pc := 17) (by decide) rfl) (by decide) ?_
      exact fin 0 (Or.inl rfl) (by rw [if_pos ((lg_cmp_lt _ _).mp c1)])
    · refine lv_lload_n hx hb (am_dec (m := mI_Mo_in) (pc := 6) (by decide) rfl) rfl (lv_at hl 0 rfl) ?_
      refine lv_lload hx hb (am_dec (m := mI_Mo_in) (pc := 7) (by decide) rfl) (lv_at hl 2 rfl) ?_
      refine W.lcmp hx hb (am_dec (m := mI_Mo_in) (pc := 9) (by decide) rfl) ?_
      refine lv_if_gt (tgt := 17) hx hb (am_dec (m := mI_Mo_in) (pc := 10) (by decide) rfl) (by decide) (fun c2 => ?_) (fun c2 => ?_)
      · refine lv_iconst (v := 0) hx hb (am_dec (m := mI_Mo_in) (pc := 17) (by decide) rfl) (by decide) ?_
        exact fin 0 (Or.inl rfl) (by rw [if_neg (fun w => c1 ((lg_cmp_lt _ _).mpr w)), if_pos ((lg_cmp_gt _ _).mp c2)])
      · refine lv_iconst (v := 1) hx hb (am_dec (m := mI_Mo_in) (pc := 13) (by decide) rfl) (by decide) ?_
        refine lv_goto (tgt := 18) hx hb (am_dec (m := mI_Mo_in) (pc := 14) (by decide) rfl) (by decide) ?_
        exact fin 1 (Or.inr rfl) (by rw [if_neg (fun w => c1 ((lg_cmp_lt _ _).mpr w)), if_neg (fun w => c2 ((lg_cmp_gt _ _).mpr w))])
  all_goals cases e0
set_option maxHeartbeats 4000000 in
theorem am_Mets (l : Launch) (z : am_N) : ∀ (d m : Nat), am_ht m < d → m < 190 → am_MetC l z m := by
  intro d
  induction d with
  | zero => intro m hm; exact absurd hm (Nat.not_lt_zero _)
  | succ d ih =>
    intro m hmd hm190
    cases hn : Nat.beq m mI_Mo_in with
    | true =>
      have := Nat.eq_of_beq_eq_true hn
      subst this
      exact am_in_Met l z
    | false =>
      intro as h r h' e0
      by_cases h0 : 0 < am_ht m
      · rw [am_run_eq (am_I1 (az_E z)) m h0 hn] at e0
        obtain ⟨hnl, e0⟩ := am_if_some e0
        obtain ⟨n, e0⟩ := am_X_ex e0
        obtain ⟨y1, y2, y3, y4, y5, y6⟩ := am_yok (show m < 191 by omega)
        refine va_MetF (cc := am_by m) (maxL := am_ml m) (ret := am_rt m) y5 rfl ?_
        intro p e s mid args below meth c s₁ B hml hv
        obtain ⟨rfl, hW, hXt⟩ := hv
        have hx := B.exec
        have hb := B.bytes
        have hr := B.returns
        have hlocks := B.notSynchronized
        have hts0 := atoms_spec (ws := am_ws m) B.pre
        have hts : ∀ w ∈ lw_G, w.before (as.map (am_vl z)).toArray s = true := fun w hw => hts0 w (List.mem_cons_of_mem _ hw)
        have hown : s.vm.findClass (am_cn (am_ow m)) = some mid.cls := by rw [← y1]; exact findClass_of_methodNamed B.named
        have hini : am_ii m = true → meth.name = "<init>" := by
          intro hi
          have h1 := List.all_eq_true.mp am_iis m (List.mem_range.mpr (by omega))
          rw [hi] at h1
          have h2 : (am_y m).name = "<init>" := of_decide_eq_true h1
          rw [← h2]
          exact (name_of_methodNamed B.named B.method).1
        have hS : va_S (az_A z) s.heap s.heap [] := va_S.rf
        have hfv : az_fv z = .null ∨ ∃ a, az_fv z = .ref a := hXt.2.2.2.2.2.2.2.2.2.2.2.2.2
        rw [lg_entry_eq]
        have hrk := List.all_eq_true.mp am_rks m (List.mem_range.mpr (by omega))
        unfold am_rk0 at hrk
        refine am_body (z := z) (m := m) (Cc := h'.length - h.length) (Cs := am_sl h' - am_sl h) (fun c hc hlt => ih c (by omega) hc) hx hb (by omega) hml hown hts hini hXt (Nat.le_refl _) (Nat.le_refl _) h0 (Nat.le_refl _) (Nat.le_refl _) ?_ n 0 (am_en m as) [] h _ s.heap [] 0 0 e0 (am_entry hfv hnl) hW hS (Nat.zero_add _) (Nat.zero_add _)
        intro pc lsJ H locs i hd hi hW1 hS1
        have fin : ∀ t : State, t.heap = H → s.WarmedH t.vm → am_Qc z r h' (as.map (am_vl z)).toArray s (.returned (r.map (am_vl z))) t := fun t ht hWm => ⟨rfl, by rw [ht]; exact hW1, hS1.F ht⟩
        rcases hi with ⟨rfl, x, rfl, hz⟩ | ⟨rfl, ⟨x, rfl⟩, hz⟩ | ⟨rfl, rfl, hz⟩
        · have hty : ∃ ty, am_rt m = some ty ∧ narrow ty (.int x) = .int x := by
            revert hrk hz
            rcases hq : am_rk m with _ | _ | _ | _ | _ | _ | k
            · intro _ hz; cases hz
            · intro hrk _
              rcases hrt : am_rt m with _ | ty
              · rw [hrt] at hrk; cases hrk
              · rw [hrt] at hrk
                cases ty <;> first | (cases hrk; done) | exact ⟨_, rfl, rfl⟩
            · intro hrk hz
              rcases hrt : am_rt m with _ | ty
              · rw [hrt] at hrk; cases hrk
              · rw [hrt] at hrk
                have hz : am_z x = true := hz
                cases ty <;> first | (cases hrk; done) | exact ⟨_, rfl, (am_ft_fits (z := z) (t := 1) (ty := .boolean) (v := .inl x) rfl hz).1⟩
            · intro _ hz; cases hz
            · intro hrk hz
              rcases hrt : am_rt m with _ | ty
              · rw [hrt] at hrk; cases hrk
              · rw [hrt] at hrk
                have hz : am_ch x = true := hz
                cases ty <;> first | (cases hrk; done) | exact ⟨_, rfl, of_decide_eq_true hz⟩
            · intro hrk hz
              rcases hrt : am_rt m with _ | ty
              · rw [hrt] at hrk; cases hrk
              · rw [hrt] at hrk
                have hz : am_by8 x = true := hz
                cases ty <;> first | (cases hrk; done) | exact ⟨_, rfl, of_decide_eq_true hz⟩
            · intro _ hz; cases hz
          obtain ⟨ty, t1, t2⟩ := hty
          rw [t1] at hr
          exact W.zret hx hb hr t2 fin hS1.2.2 hd
        · rw [hz] at hrk
          rcases hrt : am_rt m with _ | ty
          · rw [hrt] at hrk; cases hrk
          · rw [hrt] at hrk hr
            have hob : ∃ nn, ty = .object nn := by
              cases ty <;> first | (cases hrk; done) | exact ⟨_, rfl⟩
            exact W.aret hx hb hr (Or.inl hob) (am_vl_ref hfv x) fin hS1.2.2 hd
        · rw [hz] at hrk
          rcases hrt : am_rt m with _ | ty
          · rw [hrt] at hr
            exact W.vret hx hb hr fin hS1.2.2 hd
          · rw [hrt] at hrk; cases hrk
      · exfalso
        unfold am_run at e0
        rw [show am_ht m = 0 by omega] at e0
        cases e0
end
