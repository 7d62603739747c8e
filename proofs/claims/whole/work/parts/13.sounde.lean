/-! calls; a run of the machine is a run of the JVM: Met of every method -/
set_option maxRecDepth 100000 in
theorem am_nests0 : (List.range 16).all (fun o => (am_cmT o).all (fun e => match e.2.1 with
  | 3 => decide ((am_cn o, e.1, am_y e.2.2.1) ∈ am_nest)
  | 4 => decide ((am_cn o, e.1, am_y e.2.2.1) ∈ am_nest)
  | _ => true)) = true := by decide +kernel
theorem am_nests {o i kd c na : Nat} (ho : o < 16) (h : am_cm o i = some (kd, c, na)) (hk : kd = 3 ∨ kd = 4) : (am_cn o, i, am_y c) ∈ am_nest := by
  have h1 := List.all_eq_true.mp (List.all_eq_true.mp am_nests0 o (List.mem_range.mpr ho)) _ (am_lk_mem h)
  rcases hk with rfl | rfl
  · exact of_decide_eq_true h1
  · exact of_decide_eq_true h1
theorem am_cm_lt {o i kd c na : Nat} (ho : o < 16) (h : am_cm o i = some (kd, c, na)) : c < 190 :=
  Nat.le_of_ble_eq_true (List.all_eq_true.mp (List.all_eq_true.mp am_nolaw o (List.mem_range.mpr ho)) _ (am_lk_mem h))
def am_ws (c : Nat) : List Cond := .code (am_y c) (am_by c) (am_ml c) (am_rt c) :: lw_G
theorem am_ws_good {c : Nat} (hc : c < 190) : GoodIn lw_G (am_ws c) := by
  intro w hw
  rcases List.mem_cons.mp hw with rfl | hw
  · exact ⟨lw_G_in (am_cwF hc) rfl, good_of_word rfl⟩
  · exact ⟨hw, good_of_word (List.mem_filter.mp hw).2⟩
def am_rm (d mc ms : Nat) : Room := { frames := d, cells := mc, slots := ms, locals := 38 * d }
def am_Pc (z : am_N) (as : List am_V) (h : am_H) : Array Value → State → Prop := va_Pc (as.map (am_vl z)) (fun U => am_W z h U.heap ∧ am_Xt z U)
def am_Qc (z : am_N) (r : Option am_V) (h' : am_H) : Array Value → State → Outcome → State → Prop := fun _ st oc t => oc = .returned (r.map (am_vl z)) ∧ am_W z h' t.heap ∧ va_F (az_A z) st t
theorem am_blind (z : am_N) (as : List am_V) (h : am_H) : FrameBlind (am_Pc z as h) := by
  intro a U g mk q
  obtain ⟨h1, h2, h3⟩ := q
  exact ⟨h1, h2, am_Xt_call h3⟩
def am_MetC (l : Launch) (z : am_N) (c : Nat) : Prop := ∀ as h r h', am_run (am_I1 (az_E z)) c as h = some (r, h') → Met l (am_y c) (am_ws c) (am_rm (am_ht c) (h'.length - h.length) (am_sl h' - am_sl h)) (am_Pc z as h) (am_Qc z r h') (h'.length - h.length) (am_sl h' - am_sl h) (az_A z)
section
variable {p : Program} {l : Launch} {e : Env} {R : Room} {s : State} {mid : MethodId} {args : Array Value} {below : List Frame} {meth : Method} {c : Code} {H : Heap} {locs : List Loc} {cells slots : Nat} {Q : State → Prop} {z : am_N} {pc n m : Nat} {h : am_H} {st : List am_V} {lsJ : Array Slot} {i : Instr}
theorem am_call_go {mc ms : Nat} {r : Option am_V} {h' : am_H} {a : Array Value} {st0 rest : List Value} (hr : va_Run p l e R s mid args below meth c H locs cells slots mc ms (F0 mid pc lsJ st0) rest (am_Qc z r h' a) (az_A z)) (hS : va_S (az_A z) s.heap H locs)
    (kk : ∀ (H1 : Heap) (locs1 : List Loc), am_W z h' H1 → va_S (az_A z) s.heap H1 locs1 → W p l e R s mid args below meth c H1 locs1 (cells + mc) (slots + ms) Q (F0 mid (pc + 3) lsJ ((r.map (am_vl z)).toList ++ rest))) : W p l e R s mid args below meth c H locs cells slots Q (F0 mid pc lsJ st0) := by
  intro T hT X
  obtain ⟨v, st₀, t, T', L, h0, X', hL, e1, e2, ⟨hv, hw, hz, hk⟩, stp⟩ := hr T hT X
  cases hv
  rw [h0] at hz hk
  obtain ⟨t2, a1, b1⟩ := kk T'.heap (locs ++ L) (by rw [e1]; exact hw)
    ⟨Nat.le_trans hS.1 (by rw [e1]; exact hz), fun q h1 h2 => by rw [e1, hk q (Nat.lt_of_lt_of_le h1 hS.1) h2]; exact hS.2.1 q h1 h2, fun q hq => by
      rcases List.mem_append.mp hq with h | h
      · exact hS.2.2 q h
      · exact hL q h⟩ T' rfl X'
  exact ⟨t2, stp t2 a1, b1⟩
theorem am_rest {st : List am_V} (hz : az_fv z = .null ∨ ∃ a, az_fv z = .ref a) (h : st.length ≤ 4) : ((st.map (am_vl z)).map fun v => v.category).sum ≤ 8 := by
  have hc : ∀ v : am_V, (am_vl z v).category ≤ 2 := fun v => by rcases lv_cat (am_vl z v) with q | q <;> omega
  rcases st with _ | ⟨a, _ | ⟨b, _ | ⟨d, _ | ⟨f, _ | ⟨g, st⟩⟩⟩⟩⟩
  · simp
  · simp; have := hc a; omega
  · simp; have := hc a; have := hc b; omega
  · simp; have := hc a; have := hc b; have := hc d; omega
  · simp; have := hc a; have := hc b; have := hc d; have := hc f; omega
  · exact absurd h (by simp only [List.length_cons]; omega)
set_option maxHeartbeats 4000000 in
theorem am_do_W (hcall : ∀ c, c < 190 → am_ht c < am_ht m → am_MetC l z c) (hx : p.tables.exec = Jvm.exec) (hb : c.code = am_by m) (hm : m < 191) (hml : c.maxLocals = am_ml m) (hown : s.vm.findClass (am_cn (am_ow m)) = some mid.cls) (hts : ∀ w ∈ lw_G, w.before args s = true) (hXt : am_Xt z s) (hS : va_S (az_A z) s.heap H locs) (hW : am_W z h H) (hls : lsJ.size = am_ml m)
    (hRf : am_ht m ≤ R.frames) (hRl : 38 * am_ht m ≤ R.locals) {x kd cc na : Nat} (hcm : am_cm (am_ow m) x = some (kd, cc, na)) (hi : (kd = 0 ∧ i = .invokevirtual x) ∨ ((kd = 1 ∨ kd = 3) ∧ i = .invokestatic x) ∨ ((kd = 2 ∨ kd = 4) ∧ i = .invokespecial x)) (hd : decode (am_by m) pc = .ok (i, 3))
    {k : List am_V → am_H → am_R am_H} {Rr : Option am_V × am_H} (he : am_do (am_I1 (az_E z)) (am_run (am_I1 (az_E z))) m k kd cc na st h = some Rr)
    (hroom : ∀ st' h', k st' h' = some Rr → am_le h h' → cells + (h'.length - h.length) ≤ R.cells ∧ slots + (am_sl h' - am_sl h) ≤ R.slots)
    (K : ∀ st' h' H1 locs1, k st' h' = some Rr → am_le h h' → am_W z h' H1 → va_S (az_A z) s.heap H1 locs1 → W p l e R s mid args below meth c H1 locs1 (cells + (h'.length - h.length)) (slots + (am_sl h' - am_sl h)) Q (F0 mid (pc + 3) lsJ (st'.map (am_vl z)))) : W p l e R s mid args below meth c H locs cells slots Q (F0 mid pc lsJ (st.map (am_vl z))) := by
  have hfv : az_fv z = .null ∨ ∃ a, az_fv z = .ref a := hXt.2.2.2.2.2.2.2.2.2.2.2.2.2
  obtain ⟨-, -, -, -, -, how⟩ := am_yok hm
  obtain ⟨b1, b2, b3, b4, r, h', g1, g2⟩ := am_do_some he
  have hcc := am_cm_lt how hcm
  have hM := hcall cc hcc b3 _ _ _ _ g1
  have hle := am_run_le (az_E z) (am_ht cc + 1) cc (Nat.lt_succ_self _) _ _ _ _ g1
  obtain ⟨y1, y2, y3, y4, -, yo⟩ := am_yok (show cc < 191 by omega)
  obtain ⟨P1, P2⟩ := am_cmF hcm
  have hini : (Cond.initialized (am_y cc).cls).before args s = true := by
    rw [y1]
    exact hts _ (lw_G_in (am_wi_in (List.all_eq_true.mp am_inis (am_ow cc) (List.mem_range.mpr yo))) rfl)
  have hrm : (am_rm (am_ht cc) (h'.length - h.length) (am_sl h' - am_sl h)).frames + 1 ≤ R.frames ∧ 8 + (am_ml cc + 11) + (am_rm (am_ht cc) (h'.length - h.length) (am_sl h' - am_sl h)).locals ≤ R.locals := by
    show am_ht cc + 1 ≤ R.frames ∧ 8 + (am_ml cc + 11) + 38 * am_ht cc ≤ R.locals
    omega
  have hfit := hroom _ _ g2 hle
  have hrest : 2 * (F0 mid pc lsJ (st.map (am_vl z))).monitorRoom + (((st.drop na).map (am_vl z)).map fun v => v.category).sum ≤ 8 := lv_room (am_rest hfv (by rw [List.length_drop]; exact b2))
  have hst : st = (st.take na).reverse.reverse ++ st.drop na := by rw [List.reverse_reverse, List.take_append_drop]
  have hlen : ((st.take na).reverse).length = na := by rw [List.length_reverse, List.length_take]; omega
  have fin : ∀ (H1 : Heap) (locs1 : List Loc), am_W z h' H1 → va_S (az_A z) s.heap H1 locs1 → W p l e R s mid args below meth c H1 locs1 (cells + (h'.length - h.length)) (slots + (am_sl h' - am_sl h)) Q (F0 mid (pc + 3) lsJ ((r.map (am_vl z)).toList ++ (st.drop na).map (am_vl z))) := by
    intro H1 locs1 w1 w2
    have h9 := K _ _ H1 locs1 g2 hle w1 w2
    rw [List.map_append] at h9
    cases r <;> exact h9
  have hpre : ∀ U : State, U.heap = H → s.WarmedH U.vm → am_Pc z (st.take na).reverse h (((st.take na).reverse.map (am_vl z)).toArray) U := fun U hU hWm => ⟨rfl, by rw [hU]; exact hW, am_Xt_go hXt hWm (by rw [hU]; exact hS)⟩
  generalize hasE : (st.take na).reverse = as at g1 hM hst hlen b4 hpre
  have nodesc : ∀ k, (parseMethodDescriptor (am_y cc).desc).map (fun d => d.parameters.length) = some k → (am_y cc).cls ≠ "java/lang/invoke/MethodHandle" ∧ (am_y cc).cls ≠ "java/lang/invoke/VarHandle" ∧ (parseMethodDescriptor (am_y cc).desc).map (fun d => d.parameters.length) = some k := fun k hk => ⟨y2, y3, hk⟩
  have S : CallFix p mid c (am_by m) (am_ml m) s args lw_G (am_cn (am_ow m)) := ⟨hx, hb, hml, hown, hts⟩
  have hnest : (kd = 3 ∨ kd = 4) → va_Nw (.methodLinkNest (am_cn (am_ow m)) x (am_y cc) "MixedRules") s := fun hk => hXt.2.1 (am_cn (am_ow m), x, am_y cc) (am_nests how hcm hk)
  unfold am_cmP at P1
  dsimp only at P1
  rcases hpl : am_lk (am_pmT (am_ow m)) x with _ | ⟨p1, p2, p3⟩
  · rw [hpl] at P1; cases P1
  · rw [hpl] at P1
    dsimp only at P1
    rcases hi with ⟨rfl, rfl⟩ | ⟨rfl | rfl, rfl⟩ | ⟨rfl | rfl, rfl⟩
    · -- an instance method
      simp only [Bool.and_eq_true] at P1
      have P2 : (Nat.blt cc 191 && decide ((parseMethodDescriptor (am_y cc).desc).map (fun d => d.parameters.length) = some (na - 1)) && Nat.ble 1 na) = true := P2
      simp only [Bool.and_eq_true] at P2
      have hdesc := of_decide_eq_true P2.1.2
      have hna : 1 ≤ na := Nat.le_of_ble_eq_true P2.2
      rcases as with _ | ⟨_ | (_ | q) | _, As⟩
      · cases b4
      · cases b4
      · cases b4
      · have b4 : (match am_kl1 h q with | some ci => Nat.beq ci (am_ow cc) | none => false) = true := b4
        cases hkl : am_kl1 h q with
        | none => rw [hkl] at b4; cases b4
        | some ci =>
          rw [hkl] at b4
          have hci := Nat.eq_of_beq_eq_true b4
          subst hci
          have recv : ∃ b, am_vl z (.inr (.inl (some q))) = .ref b ∧ ∃ cellB : Cell, H[b]? = some cellB ∧ cellB.vm.isStatics = false ∧ s.vm.findClass (am_y cc).cls = some cellB.cls := by
            unfold am_kl1 at hkl
            cases hq9 : Nat.beq q.1 99 with
            | true =>
              rw [hq9] at hkl
              dsimp only at hkl
              have hq := Nat.eq_of_beq_eq_true hq9
              cases h6 : Nat.blt q.2 6 with
              | false => rw [h6] at hkl; cases hkl
              | true =>
                rw [h6] at hkl
                have hkl := Option.some.inj hkl
                refine ⟨_, am_vl9 (by omega), ?_⟩
                rw [show am_ad z q = z.2.2.2.1 q.2 by unfold am_ad; rw [hq]; try rfl, y1, ← hkl]
                exact vk_recv hXt.2.2.1 (Nat.le_of_ble_eq_true h6) hS
            | false =>
              rw [hq9] at hkl
              dsimp only at hkl
              rcases hcell : am_hg h q with _ | ⟨c0, fs⟩ | c0
              · rw [hcell] at hkl; cases hkl
              · rw [hcell] at hkl
                have hkl := Option.some.inj hkl
                subst hkl
                obtain ⟨hk95, hat⟩ := am_hgF hcell
                refine ⟨_, am_vlw hk95, ?_⟩
                have hee := am_pi_at (z := z) hat
                obtain ⟨r0, hr0, -⟩ := hW.2 _ _ hee
                have hc10 : am_ow cc < 10 := (List.getElem?_eq_some_iff.mp hr0).1
                obtain ⟨k1, -⟩ := am_cls hc10
                rw [y1]
                exact va_recv hXt.1 hW.2 k1 hee
              · rw [hcell] at hkl; cases hkl
          obtain ⟨b, hbv, hrecv⟩ := recv
          have hAl : As.length = na - 1 := by simp at hlen; omega
          have hstk : st.map (am_vl z) = (As.map (am_vl z)).reverse ++ .ref b :: (st.drop na).map (am_vl z) := by
            conv => lhs; rw [hst]
            simp [hbv]
          refine am_call_go (va_runV (As := As.map (am_vl z)) (rest := (st.drop na).map (am_vl z)) (b := b) (C := (am_y cc).cls) S hM ⟨callB_of (na - 1) hts (am_ws_good hcc) rfl rfl rfl hini (hts _ (lw_G_in (am_wi_in P1.1.1) rfl)) (nodesc _ hdesc) hrm, hts _ (lw_G_in (am_wi_in P1.1.2) rfl), hts _ (lw_G_in (am_wi_in P1.2) rfl)⟩
            ⟨am_blind z _ h, hrecv, fun U hU hWm => by have := hpre U hU hWm; rw [List.map_cons, hbv] at this; exact this⟩ rfl (by rw [List.length_map]; exact hAl) hls hstk hrest hd hfit) hS fin
      · cases b4
    · -- a static method of the tables
      simp only [Bool.and_eq_true] at P1
      have P2 : (Nat.blt cc 191 && decide ((parseMethodDescriptor (am_y cc).desc).map (fun d => d.parameters.length) = some na) && true) = true := P2
      simp only [Bool.and_eq_true] at P2
      have hdesc := of_decide_eq_true P2.1.2
      have hstk : st.map (am_vl z) = (as.map (am_vl z)).reverse ++ (st.drop na).map (am_vl z) := by
        conv => lhs; rw [hst]
        simp
      exact am_call_go (va_runS (As := as.map (am_vl z)) (rest := (st.drop na).map (am_vl z)) S hM ⟨callB_of na hts (am_ws_good hcc) rfl rfl rfl hini (hts _ (lw_G_in (am_wi_in P1.1) rfl)) (nodesc _ hdesc) hrm, hts _ (lw_G_in (am_wi_in P1.2) rfl)⟩
            ⟨am_blind z _ h, hpre⟩ rfl (by rw [List.length_map]; exact hlen) hls hstk hrest hd hfit) hS fin
    · -- a nest mate's static method
      simp only [Bool.and_eq_true] at P1
      have P2 : (Nat.blt cc 191 && decide ((parseMethodDescriptor (am_y cc).desc).map (fun d => d.parameters.length) = some na) && true) = true := P2
      simp only [Bool.and_eq_true] at P2
      have hdesc := of_decide_eq_true P2.1.2
      have hstk : st.map (am_vl z) = (as.map (am_vl z)).reverse ++ (st.drop na).map (am_vl z) := by
        conv => lhs; rw [hst]
        simp
      exact am_call_go (va_runSN (host := "MixedRules") (As := as.map (am_vl z)) (rest := (st.drop na).map (am_vl z)) S hM ⟨va_cnB (ws' := lw_G) na hts (am_ws_good hcc) rfl rfl rfl (hnest (Or.inl rfl)) hini (nodesc _ hdesc) hrm, hts _ (lw_G_in (am_wi_in P1.2) rfl), trivial⟩
            ⟨am_blind z _ h, hpre⟩ rfl (by rw [List.length_map]; exact hlen) hls hstk hrest hd hfit) hS fin
    · -- a constructor
      simp only [Bool.and_eq_true] at P1
      have P2 : (Nat.blt cc 191 && decide ((parseMethodDescriptor (am_y cc).desc).map (fun d => d.parameters.length) = some (na - 1)) && Nat.ble 1 na) = true := P2
      simp only [Bool.and_eq_true] at P2
      have hdesc := of_decide_eq_true P2.1.2
      have hna : 1 ≤ na := Nat.le_of_ble_eq_true P2.2
      have hrt := of_decide_eq_true P1.2
      rcases as with _ | ⟨_ | (_ | q) | _, As⟩
      · cases b4
      · cases b4
      · cases b4
      · have b4 : Nat.blt q.1 95 = true := b4
        have hk95 : q.1 < 95 := Nat.le_of_ble_eq_true b4
        have hbv := am_vlw (z := z) hk95
        have hAl : As.length = na - 1 := by simp at hlen; omega
        have hstk : st.map (am_vl z) = (As.map (am_vl z)).reverse ++ .ref (z.1 + am_ps q) :: (st.drop na).map (am_vl z) := by
          conv => lhs; rw [hst]
          simp [hbv]
        have hwsn : am_ws cc = .code (am_y cc) (am_by cc) (am_ml cc) none :: lw_G := by unfold am_ws; rw [hrt]
        exact am_call_go (va_runI (As := As.map (am_vl z)) (rest := (st.drop na).map (am_vl z)) (b := z.1 + am_ps q) S hM ⟨callB_of (na - 1) hts (am_ws_good hcc) hwsn rfl rfl hini (hts _ (lw_G_in (am_wi_in P1.1.1.1) rfl)) (nodesc _ hdesc) hrm, of_decide_eq_true P1.1.2, hts _ (lw_G_in (am_wi_in P1.1.1.2) rfl)⟩
            ⟨am_blind z _ h, fun U hU hWm => by have := hpre U hU hWm; rw [List.map_cons, hbv] at this; exact this⟩ rfl (by rw [List.length_map]; exact hAl) hls hstk hrest hd hfit) hS fin
      · cases b4
    · -- a nest mate's constructor
      simp only [Bool.and_eq_true] at P1
      have P2 : (Nat.blt cc 191 && decide ((parseMethodDescriptor (am_y cc).desc).map (fun d => d.parameters.length) = some (na - 1)) && Nat.ble 1 na) = true := P2
      simp only [Bool.and_eq_true] at P2
      have hdesc := of_decide_eq_true P2.1.2
      have hna : 1 ≤ na := Nat.le_of_ble_eq_true P2.2
      have hrt := of_decide_eq_true P1.2
      rcases as with _ | ⟨_ | (_ | q) | _, As⟩
      · cases b4
      · cases b4
      · cases b4
      · have b4 : Nat.blt q.1 95 = true := b4
        have hk95 : q.1 < 95 := Nat.le_of_ble_eq_true b4
        have hbv := am_vlw (z := z) hk95
        have hAl : As.length = na - 1 := by simp at hlen; omega
        have hstk : st.map (am_vl z) = (As.map (am_vl z)).reverse ++ .ref (z.1 + am_ps q) :: (st.drop na).map (am_vl z) := by
          conv => lhs; rw [hst]
          simp [hbv]
        have hwsn : am_ws cc = .code (am_y cc) (am_by cc) (am_ml cc) none :: lw_G := by unfold am_ws; rw [hrt]
        exact am_call_go (va_runIN (host := "MixedRules") (As := As.map (am_vl z)) (rest := (st.drop na).map (am_vl z)) (b := z.1 + am_ps q) S hM ⟨va_cnB (na - 1) hts (am_ws_good hcc) hwsn rfl rfl (hnest (Or.inr rfl)) hini (nodesc _ hdesc) hrm, of_decide_eq_true P1.1.2, hts _ (lw_G_in (am_wi_in P1.1.1.2) rfl)⟩
            ⟨am_blind z _ h, fun U hU hWm => by have := hpre U hU hWm; rw [List.map_cons, hbv] at this; exact this⟩ rfl (by rw [List.length_map]; exact hAl) hls hstk hrest hd hfit) hS fin
      · cases b4
end
