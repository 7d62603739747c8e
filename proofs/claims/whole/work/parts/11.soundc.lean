/-! fields, arrays, new cells: the list heap's operations hold of the JVM -/
theorem am_hgF {h : am_H} {q : am_K} {c : am_C} (e : am_hg h q = some c) : q.1 < 95 ∧ h[am_ps q]? = some c := by
  unfold am_hg at e
  cases hb : Nat.blt q.1 95 with
  | false => rw [hb] at e; cases e
  | true => rw [hb] at e; exact ⟨Nat.le_of_ble_eq_true hb, e⟩
theorem am_adw {z : am_N} {q : am_K} (h : q.1 < 95) : am_ad z q = z.1 + am_ps q := by
  unfold am_ad
  split <;> first | omega | rfl
theorem am_vlw {z : am_N} {q : am_K} (h : q.1 < 95) : am_vl z (.inr (.inl (some q))) = .ref (z.1 + am_ps q) := by
  show (match Nat.beq q.1 95 with | true => az_fv z | false => Value.ref (am_ad z q)) = _
  cases hb : Nat.beq q.1 95 with
  | true => have := Nat.eq_of_beq_eq_true hb; omega
  | false => show Value.ref (am_ad z q) = _; rw [am_adw h]
theorem am_vl9 {z : am_N} {q : am_K} (h : 95 < q.1) : am_vl z (.inr (.inl (some q))) = .ref (am_ad z q) := by
  show (match Nat.beq q.1 95 with | true => az_fv z | false => Value.ref (am_ad z q)) = _
  cases hb : Nat.beq q.1 95 with
  | true => have := Nat.eq_of_beq_eq_true hb; omega
  | false => rfl
theorem am_in_vp {i : Int32} {n : Nat} (h : am_in i n = true) : vp_in i n := by
  unfold am_in at h
  simp only [Bool.and_eq_true, Bool.not_eq_true', decide_eq_false_iff_not, decide_eq_true_eq] at h
  intro q
  rcases q with q | q
  · exact h.1 q
  · omega
theorem am_in_lt {i : Int32} {n : Nat} (h : am_in i n = true) : am_ix i < n := by
  unfold am_in at h
  simp only [Bool.and_eq_true, decide_eq_true_eq] at h
  exact h.2
theorem am_W_set {z : am_N} {h : am_H} {H H' : Heap} {n : Nat} {c0 c' : am_C} (hW : am_W z h H) (hn : h[n]? = some c0) (he : va_at (az_D z) am_cl0 (z.1 + n, am_te z c') H') (hs : H'.size = H.size) (ho : ∀ q : Nat, q ≠ z.1 + n → H'[q]? = H[q]?) : am_W z (h.set n c') H' :=
  ⟨by rw [hs, List.length_set]; exact hW.1, by rw [← am_pi_set]; exact hW.2.set (am_pi_D z h) (am_pi_at hn) he ho⟩
theorem am_W_app {z : am_N} {h : am_H} {H H' : Heap} {c' : am_C} (hW : am_W z h H) (he : va_at (az_D z) am_cl0 (z.1 + h.length, am_te z c') H') (hs : H'.size = H.size + 1) (ho : ∀ q : Nat, q < H.size → H'[q]? = H[q]?) : am_W z (h ++ [c']) H' := by
  refine ⟨by rw [hs, hW.1, List.length_append]; rfl, ?_⟩
  rw [am_pi_app]
  refine (hW.2.kept (fun k x hx => ho x.1 ((hW.2 k x hx).lt))).app (fun k x hx => ?_)
  have hz : k < 1 := (List.getElem?_eq_some_iff.mp hx).1
  rw [show k = 0 by omega] at hx
  cases hx
  exact he
theorem am_arI : Cond.arrayClass .int ∈ lw_tbl := List.mem_of_getElem? (i := 135) (by decide +kernel)
theorem am_arZ : Cond.arrayClass .boolean ∈ lw_tbl := List.mem_of_getElem? (i := 230) (by decide +kernel)
section
variable {p : Program} {l : Launch} {e : Env} {R : Room} {s : State} {mid : MethodId} {args : Array Value} {below : List Frame} {meth : Method} {c : Code} {H : Heap} {locs : List Loc} {cells slots : Nat} {Q : State → Prop} {z : am_N} {pc m : Nat} {h : am_H} {rest : List Value} {lsJ : Array Slot} {q : am_K}
theorem am_gf_W (hx : p.tables.exec = Jvm.exec) (hb : c.code = am_by m) (hown : s.vm.findClass (am_cn (am_ow m)) = some mid.cls) (hts : ∀ w ∈ lw_G, w.before args s = true) (hXt : am_Xt z s) (hS : va_S (az_A z) s.heap H locs) (hW : am_W z h H)
    {x ci f : Nat} {v : am_V} (hd : decode (am_by m) pc = .ok (.getfield x, 3)) (hc : am_cf (am_ow m) x = some (ci, f)) (hg : am_gf1 h q ci f = some v)
    (k : W p l e R s mid args below meth c H locs cells slots Q (F0 mid (pc + 3) lsJ (am_vl z v :: rest))) : W p l e R s mid args below meth c H locs cells slots Q (F0 mid pc lsJ (am_vl z (.inr (.inl (some q))) :: rest)) := by
  obtain ⟨hlink, hf⟩ := am_cfF hc
  have hlk := hts _ (lw_G_in hlink rfl)
  unfold am_gf1 at hg
  cases hq : Nat.beq q.1 99 with
  | true =>
    rw [hq] at hg
    have hq9 := Nat.eq_of_beq_eq_true hq
    dsimp only at hg
    cases hc2 : (Nat.beq ci 12 && Nat.blt q.2 6) with
    | false => rw [hc2] at hg; cases hg
    | true =>
      rw [hc2] at hg
      simp only [Bool.and_eq_true] at hc2
      have hci := Nat.eq_of_beq_eq_true hc2.1
      have hq6 : q.2 < 6 := Nat.le_of_ble_eq_true hc2.2
      subst hci
      obtain ⟨-, h2, h3, -⟩ := hXt.2.2.1.1 q.2 hq6
      have had : am_ad z q = z.2.2.2.1 q.2 := by unfold am_ad; rw [hq9]; try rfl
      rw [am_vl9 (by omega), had]
      rcases f with _ | _ | f
      · cases hg
        exact vk_getf hx hb h3 hS hown hlk (fun _ h9 => h9) hd k
      · cases hg
        exact vk_getf hx hb h2 hS hown hlk (fun _ h9 => h9) hd k
      · cases hg
  | false =>
    rw [hq] at hg
    dsimp only at hg
    rcases hcell : am_hg h q with _ | ⟨c0, fs⟩ | cc
    · rw [hcell] at hg; cases hg
    · rw [hcell] at hg
      dsimp only at hg
      cases hcc : Nat.beq c0 ci with
      | false => rw [hcc] at hg; cases hg
      | true =>
        rw [hcc] at hg
        have hg : fs[f]? = some v := hg
        have hci := Nat.eq_of_beq_eq_true hcc
        subst hci
        obtain ⟨hk95, hat⟩ := am_hgF hcell
        rw [am_vlw hk95]
        have he := am_pi_at (z := z) hat
        obtain ⟨r, hr, -⟩ := hW.2 _ _ he
        have hc10 : c0 < 10 := (List.getElem?_eq_some_iff.mp hr).1
        obtain ⟨k1, k2, k3, k4, k5, k6⟩ := am_cls hc10
        rw [k6 f] at hlk
        exact va_get (D := az_D z) (ci := c0) (v := am_vl z v) (C := am_cn c0) (T := am_T c0) (N := am_nf c0) hx hb hts k2 hown hXt.1 hW.2 (am_ps q) he k1 f hf hlk (fun y h9 => by rw [(k5 f hf).2] at h9; exact h9) (by rw [List.getElem?_map, hg]; rfl) hd k
    · rw [hcell] at hg; cases hg
theorem am_ft_fits {t : Nat} {ty : FieldType} {v : am_V} (h1 : am_tt t ty = true) (h2 : am_ft t v = true) : narrow ty (am_vl z v) = am_vl z v ∧ fits ty (am_vl z v) = true := by
  rcases t with _ | _ | _ | t
  · cases ty <;> first | (cases h1; done) | skip
    rcases v with x | r | x
    · exact ⟨rfl, rfl⟩
    · cases h2
    · cases h2
  · cases ty <;> first | (cases h1; done) | skip
    rcases v with x | r | x
    · have h2 : am_z x = true := h2
      unfold am_z at h2
      simp only [Bool.or_eq_true, decide_eq_true_eq] at h2
      rcases h2 with rfl | rfl
      · exact ⟨rfl, rfl⟩
      · exact ⟨rfl, rfl⟩
    · cases h2
    · cases h2
  · rcases v with x | r | x
    · cases h2
    · rcases r with _ | q
      · cases ty <;> first | (cases h1; done) | exact ⟨rfl, rfl⟩
      · have h2 : Nat.blt q.1 95 = true := h2
        rw [am_vlw (Nat.le_of_ble_eq_true h2)]
        cases ty <;> first | (cases h1; done) | exact ⟨rfl, rfl⟩
    · cases h2
  · cases ty <;> cases h1
theorem am_pf_W (hx : p.tables.exec = Jvm.exec) (hb : c.code = am_by m) (hown : s.vm.findClass (am_cn (am_ow m)) = some mid.cls) (hts : ∀ w ∈ lw_G, w.before args s = true) (hini : am_ii m = true → meth.name = "<init>") (hXt : am_Xt z s) (hS : va_S (az_A z) s.heap H locs) (hW : am_W z h H)
    {x ci f : Nat} {v : am_V} (hd : decode (am_by m) pc = .ok (.putfield x, 3)) (hc : am_cf (am_ow m) x = some (ci, f)) (hfo : am_fo m ci f = true) (hg : (am_pf1 h q ci f v).1 = true)
    (kk : ∀ (H1 : Heap) (locs1 : List Loc), am_W z (am_pf1 h q ci f v).2 H1 → va_S (az_A z) s.heap H1 locs1 → W p l e R s mid args below meth c H1 locs1 cells slots Q (F0 mid (pc + 3) lsJ rest)) : W p l e R s mid args below meth c H locs cells slots Q (F0 mid pc lsJ (am_vl z v :: am_vl z (.inr (.inl (some q))) :: rest)) := by
  obtain ⟨hlink, hf⟩ := am_cfF hc
  have hlk := hts _ (lw_G_in hlink rfl)
  unfold am_pf1 at hg kk
  rcases hcell : am_hg h q with _ | ⟨c0, fs⟩ | cc
  · rw [hcell] at hg; cases hg
  · rw [hcell] at hg kk
    dsimp only at hg kk
    simp only [Bool.and_eq_true] at hg
    obtain ⟨g1, g2, g3⟩ := hg
    have hci := Nat.eq_of_beq_eq_true g1
    subst hci
    obtain ⟨hk95, hat⟩ := am_hgF hcell
    rw [am_vlw hk95]
    have he := am_pi_at (z := z) hat
    obtain ⟨r, hr, cell, q1, q2, q3, q4⟩ := hW.2 _ _ he
    have hc10 : c0 < 10 := (List.getElem?_eq_some_iff.mp hr).1
    obtain ⟨k1, k2, k3, k4, k5, k6⟩ := am_cls hc10
    cases hr.symm.trans k1
    rw [k6 f] at hlk
    have htt : am_tt (am_ty c0 f) (am_tyF c0 f) = true := by
      have h1 := List.all_eq_true.mp (List.all_eq_true.mp am_tts c0 (List.mem_range.mpr hc10)) f (List.mem_range.mpr hf)
      simp only [Bool.and_eq_true] at h1
      exact h1.1
    obtain ⟨hn, hfit⟩ := am_ft_fits (z := z) htt g3
    have hap := va_apart (own := am_cn (am_ow m)) (args := args) (s := s) hts k2 (am_tyF c0) k3 k4 hXt.1 k1
    obtain ⟨hSl, hfc, kC, hkC, hkind⟩ := hXt.1.1 c0 _ k1
    obtain ⟨cf, kf, fi, fd, hi, hsl⟩ := hSl f hf
    have hlay := hts _ (k2 _ (u_in_lay hf))
    have hl2 := u_lays hts k2 hf
    have hst := (u_facts hfc hkC hl2 hi).1
    have hi2 := hi
    rw [(k5 f hf).2] at hi2
    have hflen : f < fs.length := Nat.le_of_ble_eq_true g2
    have fin : ∀ H' : Heap, H'[z.1 + am_ps q]? = some (cell.setSlot fd.slot (am_vl z v)) → H'.size = H.size → (∀ y, y ≠ z.1 + am_ps q → H'[y]? = H[y]?) → W p l e R s mid args below meth c H' (locs ++ [⟨z.1 + am_ps q, fd.slot⟩]) cells slots Q (F0 mid (pc + 3) lsJ rest) := by
      intro H' e1 e2 e3
      rw [hsl] at e1
      refine kk H' _ (am_W_set hW hat ⟨_, k1, ?_⟩ e2 e3) (hS.put e2 e3 (show z.1 ≤ _ by omega))
      refine t_OB.to (V := updV (vp_V (fs.map (am_vl z))) f (am_vl z v)) ⟨_, e1, q2, q3, t_set q4 hap hf _⟩ (fun j _ => ?_)
      rw [vp_updV_set (by rw [List.length_map]; exact hflen), List.map_set]
    have hlt : fd.slot < cell.slots.size := by rw [hsl]; exact k2_hasslot (q4 f hf)
    cases hff : am_ff c0 f with
    | false =>
      unfold u_lay at hlay
      rw [if_neg (by rw [← (k5 f hf).1, hff]; decide)] at hlay
      have h6 := u_store hfc hkC hkind hlay hi (k3 f hf) hn hfit
      exact W.putK hx hb (f := fd) ⟨hown, hlk, ⟨_, _, _, hi2⟩, hst⟩ (by rw [q2]; exact h6) q1 q3 hlt rfl rfl hd fin
    | true =>
      unfold am_fo at hfo
      rw [hff] at hfo
      simp only [Bool.and_eq_true] at hfo
      have hoc := Nat.eq_of_beq_eq_true hfo.2
      unfold u_lay at hlay
      rw [if_pos (by rw [← (k5 f hf).1, hff])] at hlay
      have hcf : mid.cls = cf := by
        obtain ⟨_, _, c', _, _, _, -, -, hf', -, -, -, hown2, -⟩ := Cond.laysFinal_spec hlay
        have e1 : c' = cf := by have := hi.symm.trans hf'; simp at this; exact this.1.symm
        rw [(k5 f hf).2, ← hoc] at hown2
        rw [← e1]; exact Option.some.inj (hown.symm.trans hown2)
      have h6 := u_fits hfc hkC hkind hl2 hi (k3 f hf) hn hfit
      exact W.putFinK hx hb hown hlk hi2 hst hcf (hini hfo.1) (by rw [q2]; exact h6) q1 q3 hlt rfl rfl hd fin
  · rw [hcell] at hg; cases hg
theorem am_al_W (hx : p.tables.exec = Jvm.exec) (hb : c.code = am_by m) (hXt : am_Xt z s) (hS : va_S (az_A z) s.heap H locs) (hW : am_W z h H)
    {ty : Nat} {i : Instr} (hi : (ty = 0 ∧ i = .iaload) ∨ (ty = 1 ∧ i = .baload) ∨ (ty = 2 ∧ i = .aaload)) {j : Int32} (hd : decode (am_by m) pc = .ok (i, 1)) (hg : (am_al1 (az_E z) h ty q j).1 = true)
    (k : W p l e R s mid args below meth c H locs cells slots Q (F0 mid (pc + 1) lsJ (am_vl z (am_al1 (az_E z) h ty q j).2 :: rest))) : W p l e R s mid args below meth c H locs cells slots Q (F0 mid pc lsJ (.int j :: am_vl z (.inr (.inl (some q))) :: rest)) := by
  by_cases h98 : q.1 = 98
  · have e1 : am_al1 (az_E z) h ty q j = (Nat.beq ty 0 && am_in j 18, .inl (am_or.getD (am_ix j) 0)) := by unfold am_al1; rw [h98]; try rfl
    rw [e1] at hg k
    simp only [Bool.and_eq_true] at hg
    have ht := Nat.eq_of_beq_eq_true hg.1
    rcases hi with ⟨-, rfl⟩ | ⟨h1, -⟩ | ⟨h1, -⟩
    · rw [am_vl9 (by omega), show am_ad z q = z.2.1 by unfold am_ad; rw [h98]; try rfl]
      exact va_ti hx hb hXt.2.2.2.2.2.1 hS (am_in_vp hg.2) rfl hd k
    · omega
    · omega
  by_cases h97 : q.1 = 97
  · have e1 : am_al1 (az_E z) h ty q j = (Nat.beq ty 0 && am_in j (az_E z).1, .inl ((az_E z).2 (am_ix j))) := by unfold am_al1; rw [h97]; try rfl
    rw [e1] at hg k
    simp only [Bool.and_eq_true] at hg
    have ht := Nat.eq_of_beq_eq_true hg.1
    rcases hi with ⟨-, rfl⟩ | ⟨h1, -⟩ | ⟨h1, -⟩
    · rw [am_vl9 (by omega), show am_ad z q = z.2.2.1 by unfold am_ad; rw [h97]; try rfl]
      have hbl := hXt.2.2.2.2.2.2.2.2.2.2.2.1
      exact va_sld (A := az_A z) hx hb hXt.2.2.2.2.2.2.2.2.2.2.1 (by have := hXt.2.2.2.2.2.2.2.2.2.2.2.2.1; omega) (Nat.not_le.mpr hbl) hS (am_in_vp hg.2) hd k
    · omega
    · omega
  by_cases h96 : q.1 = 96
  · have e1 : am_al1 (az_E z) h ty q j = (Nat.blt q.2 6 && (Nat.beq ty 1 && am_in j (am_wd.getD q.2 []).length), .inl ((am_wd.getD q.2 []).getD (am_ix j) 0)) := by unfold am_al1; rw [h96]; try rfl
    rw [e1] at hg k
    simp only [Bool.and_eq_true] at hg
    have ht := Nat.eq_of_beq_eq_true hg.2.1
    have hq6 : q.2 < 6 := Nat.le_of_ble_eq_true hg.1
    rcases hi with ⟨h1, -⟩ | ⟨-, rfl⟩ | ⟨h1, -⟩
    · omega
    · rw [am_vl9 (by omega), show am_ad z q = z.2.2.2.2.1 q.2 by unfold am_ad; rw [h96]; try rfl]
      obtain ⟨-, -, -, h4⟩ := hXt.2.2.1.1 q.2 hq6
      have hlen : am_wl.getD q.2 0 = (am_wd.getD q.2 []).length := by
        have : ∀ i, i < 6 → am_wl.getD i 0 = (am_wd.getD i []).length := by decide
        exact this _ hq6
      exact va_tb hx hb h4 hS (by rw [hlen]; exact am_in_vp hg.2.2) rfl hd k
    · omega
  have e1 : am_al1 (az_E z) h ty q j = (match am_hg h q with
    | some (.inr (.inl (t, l))) => (Nat.blt t 2 && (Nat.beq ty t && am_in j l.length), .inl (l.getD (am_ix j) 0))
    | some (.inr (.inr (t, l))) => (Nat.beq ty 2 && (am_in j l.length && ((Nat.beq t 2 || Nat.beq t 3) && am_kq (l.getD (am_ix j) none))), .inr (.inl (l.getD (am_ix j) none)))
    | _ => (false, .inl 0)) := by
    unfold am_al1
    split <;> first | omega | rfl
  rw [e1] at hg k
  rcases hcell : am_hg h q with _ | cc | ⟨t, a⟩ | ⟨t, a⟩
  · rw [hcell] at hg; cases hg
  · rw [hcell] at hg; cases hg
  · rw [hcell] at hg k
    dsimp only at hg k
    simp only [Bool.and_eq_true] at hg
    obtain ⟨g1, g2, g3⟩ := hg
    have ht := Nat.eq_of_beq_eq_true g2
    have ht2 : t < 2 := Nat.le_of_ble_eq_true g1
    obtain ⟨hk95, hat⟩ := am_hgF hcell
    rw [am_vlw hk95]
    have he := am_pi_at (z := z) hat
    subst ht
    rcases hi with ⟨rfl, rfl⟩ | ⟨rfl, rfl⟩ | ⟨rfl, -⟩
    · exact va_iald hx hb hXt.1 hW.2 (am_ps q) 0 he rfl (am_in_vp g3) hd k
    · exact va_zald hx hb hXt.1 hW.2 (am_ps q) 1 he rfl (am_in_vp g3) hd k
    · omega
  · rw [hcell] at hg k
    dsimp only at hg k
    simp only [Bool.and_eq_true, Bool.or_eq_true] at hg
    obtain ⟨g1, g2, g3, g4⟩ := hg
    have ht := Nat.eq_of_beq_eq_true g1
    obtain ⟨hk95, hat⟩ := am_hgF hcell
    rw [am_vlw hk95]
    have he := am_pi_at (z := z) hat
    have hval : am_vl z (.inr (.inl (a.getD (am_ix j) none))) = va_rf ((a.getD (am_ix j) none).map (am_ad z)) := by
      cases ha : a.getD (am_ix j) none with
      | none => rfl
      | some y =>
        rw [ha] at g4
        have hy : y.1 < 95 := Nat.le_of_ble_eq_true g4
        rw [am_vlw hy]
        show _ = Value.ref (am_ad z y)
        rw [am_adw hy]
    rw [hval] at k
    rcases hi with ⟨h1, -⟩ | ⟨h1, -⟩ | ⟨-, rfl⟩
    · omega
    · omega
    · rcases g3 with g3 | g3
      · have := Nat.eq_of_beq_eq_true g3
        subst this
        exact va_aldq hx hb hXt.1 hW.2 (am_ps q) 2 he rfl (am_in_vp g2) hd k
      · have := Nat.eq_of_beq_eq_true g3
        subst this
        exact va_aldq hx hb hXt.1 hW.2 (am_ps q) 3 he rfl (am_in_vp g2) hd k
theorem am_ln_W (hx : p.tables.exec = Jvm.exec) (hb : c.code = am_by m) (hXt : am_Xt z s) (hS : va_S (az_A z) s.heap H locs) (hW : am_W z h H)
    {v : Int32} (hd : decode (am_by m) pc = .ok (.arraylength, 1)) (hg : am_ln1 (az_E z) h q = some v)
    (k : W p l e R s mid args below meth c H locs cells slots Q (F0 mid (pc + 1) lsJ (.int v :: rest))) : W p l e R s mid args below meth c H locs cells slots Q (F0 mid pc lsJ (am_vl z (.inr (.inl (some q))) :: rest)) := by
  by_cases h98 : q.1 = 98
  · have e1 : am_ln1 (az_E z) h q = some 18 := by unfold am_ln1; rw [h98]; try rfl
    rw [e1] at hg
    cases hg
    rw [am_vl9 (by omega), show am_ad z q = z.2.1 by unfold am_ad; rw [h98]; try rfl]
    exact va_tlen hx hb hXt.2.2.2.2.2.1 hS rfl hd k
  by_cases h97 : q.1 = 97
  · have e1 : am_ln1 (az_E z) h q = some (Int32.ofNat (az_E z).1) := by unfold am_ln1; rw [h97]; try rfl
    rw [e1] at hg
    cases hg
    rw [am_vl9 (by omega), show am_ad z q = z.2.2.1 by unfold am_ad; rw [h97]; try rfl]
    have hbl := hXt.2.2.2.2.2.2.2.2.2.2.2.1
    exact va_slen (A := az_A z) hx hb hXt.2.2.2.2.2.2.2.2.2.2.1 (by have := hXt.2.2.2.2.2.2.2.2.2.2.2.2.1; omega) (Nat.not_le.mpr hbl) hS hd k
  by_cases h96 : q.1 = 96
  · have e1 : am_ln1 (az_E z) h q = (match Nat.blt q.2 6 with | true => some (Int32.ofNat (am_wd.getD q.2 []).length) | false => none) := by unfold am_ln1; rw [h96]; try rfl
    rw [e1] at hg
    cases hb6 : Nat.blt q.2 6 with
    | false => rw [hb6] at hg; cases hg
    | true =>
      rw [hb6] at hg
      cases hg
      have hq6 : q.2 < 6 := Nat.le_of_ble_eq_true hb6
      rw [am_vl9 (by omega), show am_ad z q = z.2.2.2.2.1 q.2 by unfold am_ad; rw [h96]; try rfl]
      obtain ⟨-, -, -, h4⟩ := hXt.2.2.1.1 q.2 hq6
      have hlen : am_wl.getD q.2 0 = (am_wd.getD q.2 []).length := by
        have : ∀ i, i < 6 → am_wl.getD i 0 = (am_wd.getD i []).length := by decide
        exact this _ hq6
      exact va_tlen hx hb h4 hS (by rw [hlen]) hd k
  have e1 : am_ln1 (az_E z) h q = (match am_hg h q with
    | some (.inr (.inl (t, l))) => (match Nat.blt t 2 with
      | true => some (Int32.ofNat l.length)
      | false => none)
    | some (.inr (.inr (t, l))) => (match Nat.beq t 2 || Nat.beq t 3 with
      | true => some (Int32.ofNat l.length)
      | false => none)
    | _ => none) := by
    unfold am_ln1
    split <;> first | omega | rfl
  rw [e1] at hg
  rcases hcell : am_hg h q with _ | cc | ⟨t, a⟩ | ⟨t, a⟩
  · rw [hcell] at hg; cases hg
  · rw [hcell] at hg; cases hg
  · rw [hcell] at hg
    dsimp only at hg
    cases ht : Nat.blt t 2 with
    | false => rw [ht] at hg; cases hg
    | true =>
      rw [ht] at hg
      cases hg
      have ht2 : t < 2 := Nat.le_of_ble_eq_true ht
      obtain ⟨hk95, hat⟩ := am_hgF hcell
      rw [am_vlw hk95]
      have he := am_pi_at (z := z) hat
      rcases t with _ | _ | t
      · exact va_alen hx hb hXt.1 hW.2 (am_ps q) 0 he rfl rfl hd k
      · exact va_alen hx hb hXt.1 hW.2 (am_ps q) 1 he rfl rfl hd k
      · omega
  · rw [hcell] at hg
    dsimp only at hg
    cases ht : (Nat.beq t 2 || Nat.beq t 3) with
    | false => rw [ht] at hg; cases hg
    | true =>
      rw [ht] at hg
      cases hg
      simp only [Bool.or_eq_true] at ht
      obtain ⟨hk95, hat⟩ := am_hgF hcell
      rw [am_vlw hk95]
      have he := am_pi_at (z := z) hat
      rcases ht with ht | ht
      · have := Nat.eq_of_beq_eq_true ht
        subst this
        exact va_alen hx hb hXt.1 hW.2 (am_ps q) 2 he rfl rfl hd k
      · have := Nat.eq_of_beq_eq_true ht
        subst this
        exact va_alen hx hb hXt.1 hW.2 (am_ps q) 3 he rfl rfl hd k
theorem am_setI {a : List Int32} {j : Nat} {x : Int32} (hj : j < a.length) : updV (fun i => Value.int (a.getD i 0)) j (.int x) = fun i => Value.int ((a.set j x).getD i 0) := by
  funext i
  unfold updV
  simp only [List.getD_eq_getElem?_getD, List.getElem?_set]
  by_cases e : i = j
  · subst e
    simp [hj]
  · simp [e, Ne.symm e]
theorem am_setQ {a : List (Option am_K)} {j : Nat} {y : am_K} (hj : j < a.length) : updV (fun i => va_rf ((a.getD i none).map (am_ad z))) j (.ref (am_ad z y)) = fun i => va_rf (((a.set j (some y)).getD i none).map (am_ad z)) := by
  funext i
  unfold updV
  simp only [List.getD_eq_getElem?_getD, List.getElem?_set]
  by_cases e : i = j
  · subst e
    simp [hj, va_rf]
  · simp [e, Ne.symm e]
theorem am_as_W (hx : p.tables.exec = Jvm.exec) (hb : c.code = am_by m) (hXt : am_Xt z s) (hS : va_S (az_A z) s.heap H locs) (hW : am_W z h H)
    {ty : Nat} {i : Instr} (hi : (ty = 0 ∧ i = .iastore) ∨ (ty = 1 ∧ i = .bastore) ∨ (ty = 2 ∧ i = .aastore)) {j : Int32} {v : am_V} (hd : decode (am_by m) pc = .ok (i, 1)) (hg : (am_as1 h ty q j v).1 = true)
    (kk : ∀ (H1 : Heap) (locs1 : List Loc), am_W z (am_as1 h ty q j v).2 H1 → va_S (az_A z) s.heap H1 locs1 → W p l e R s mid args below meth c H1 locs1 cells slots Q (F0 mid (pc + 1) lsJ rest)) : W p l e R s mid args below meth c H locs cells slots Q (F0 mid pc lsJ (am_vl z v :: .int j :: am_vl z (.inr (.inl (some q))) :: rest)) := by
  unfold am_as1 at hg kk
  rcases hcell : am_hg h q with _ | cc | ⟨t, a⟩ | ⟨t, a⟩
  · rw [hcell] at hg; cases hg
  · rw [hcell] at hg; cases hg
  · rw [hcell] at hg kk
    obtain ⟨hk95, hat⟩ := am_hgF hcell
    rw [am_vlw hk95]
    have he := am_pi_at (z := z) hat
    have hc0 := hW.2 _ _ he
    rcases v with x | v
    · dsimp only at hg kk
      simp only [Bool.and_eq_true] at hg
      obtain ⟨g1, g2, g3⟩ := hg
      have ht := Nat.eq_of_beq_eq_true g1
      subst ht
      have hlt := am_in_lt g2
      have hin := am_in_vp g2
      have hA : ∀ {H' : Heap} {sl : Nat}, H'.size = H.size → (∀ y, y ≠ z.1 + am_ps q → H'[y]? = H[y]?) → va_S (az_A z) s.heap H' (locs ++ [⟨z.1 + am_ps q, sl⟩]) := fun e2 e3 => hS.put e2 e3 (show z.1 ≤ _ by omega)
      rcases hi with ⟨rfl, rfl⟩ | ⟨rfl, rfl⟩ | ⟨rfl, -⟩
      · refine W.iast hx hb hc0 ((hXt.1.2 0 _ rfl).1 a.length _) (fun y => by cases y) (by show ¬ (j < 0 ∨ (arrV _ _ _).slots.size ≤ _); rw [arrV_size]; exact hin) rfl rfl hd fun H' e1 e2 e3 => ?_
        refine kk H' _ (am_W_set hW hat ?_ e2 e3) (hA e2 e3)
        show H'[z.1 + am_ps q]? = some (vp_cell _ _)
        rw [e1]
        dsimp only
        rw [vp_cell_i, vp_cell_i, arrV_store, List.length_set]
        exact congrArg (fun f => some (arrV _ _ f)) (am_setI hlt)
      · have hz : narrow .boolean (.int x) = .int x := (am_ft_fits (z := z) (t := 1) (ty := .boolean) (v := .inl x) rfl g3).1
        refine W.zast hx hb hc0 ((hXt.1.2 1 _ rfl).1 a.length _) (fun y => by cases y) (by show ¬ (j < 0 ∨ (arrV _ _ _).slots.size ≤ _); rw [arrV_size]; exact hin) rfl rfl hd fun H' e1 e2 e3 => ?_
        refine kk H' _ (am_W_set hW hat ?_ e2 e3) (hA e2 e3)
        show H'[z.1 + am_ps q]? = some (vp_cell _ _)
        rw [e1, hz]
        dsimp only
        rw [vp_cell_i, vp_cell_i, arrV_store, List.length_set]
        exact congrArg (fun f => some (arrV _ _ f)) (am_setI hlt)
      · cases g3
    · cases hg
  · rw [hcell] at hg kk
    obtain ⟨hk95, hat⟩ := am_hgF hcell
    rw [am_vlw hk95]
    have he := am_pi_at (z := z) hat
    have hc0 := hW.2 _ _ he
    rcases v with x | (_ | y) | x
    · cases hg
    · cases hg
    · dsimp only at hg kk
      simp only [Bool.and_eq_true, Bool.or_eq_true] at hg
      obtain ⟨g1, g2, g3, g4⟩ := hg
      have ht := Nat.eq_of_beq_eq_true g1
      have hlt := am_in_lt g2
      have hin := am_in_vp g2
      unfold am_oc at g4
      rcases hcy : am_hg h y with _ | ⟨cy, fy⟩ | cc
      · rw [hcy] at g4; cases g4
      · rw [hcy] at g4
        have g4 := Nat.eq_of_beq_eq_true g4
        subst g4
        obtain ⟨hy95, hyat⟩ := am_hgF hcy
        rw [am_vlw hy95]
        have hey := am_pi_at (z := z) hyat
        have hc1 := hW.2 _ _ hey
        obtain ⟨r', hr', cellV, v1, v2, v3, -⟩ := hc1
        have hec10 : am_ec t < 10 := (List.getElem?_eq_some_iff.mp hr').1
        obtain ⟨k1, -⟩ := am_cls hec10
        have hcls := (hXt.1.1 (am_ec t) _ k1).2
        obtain ⟨kC, hkC, -⟩ := id hcls.2
        have core : ∀ (tt : Nat), tt = t → ∀ C : String, (am_tys z)[t]? = some (az_cA z t, .object C) → am_cn (am_ec t) = C → i = .aastore → W p l e R s mid args below meth c H locs cells slots Q (F0 mid pc lsJ (.ref (z.1 + am_ps y) :: .int j :: .ref (z.1 + am_ps q) :: rest)) := by
          intro tt _ C htys hC hi0
          subst hi0
          obtain ⟨kA, comp, a1, a2, a3, -⟩ := (hXt.1.2 t _ htys).2
          have hcomp : comp = (az_D z).1 (am_ec t) := Option.some.inj (a3.symm.trans (by rw [← hC]; exact hcls.1))
          subst hcomp
          refine W.aast hx hb hc0 (fun _ hh => by cases hh) (fun hh => by cases hh) a1 a2 rfl hkC ⟨fun w => hin (Or.inl w), by show _ < (arrV _ _ _).slots.size; rw [arrV_size]; exact hlt⟩ v1 (fun _ hh => by rw [v3] at hh; cases hh) (by rw [v2]; exact hkC) (by rw [v2]; exact va_assign hcls) rfl rfl hd fun H' e1 e2 e3 => ?_
          refine kk H' _ (am_W_set hW hat ?_ e2 e3) (hS.put e2 e3 (show z.1 ≤ _ by omega))
          show H'[z.1 + am_ps q]? = some (vp_cell _ _)
          rw [e1]
          dsimp only
          rw [vp_cell_q, vp_cell_q, arrV_store, List.length_set]
          have h9 := am_setQ (z := z) (a := a) (y := y) hlt
          rw [am_adw hy95] at h9
          exact congrArg (fun f => some (arrV _ _ f)) h9
        rcases hi with ⟨h1, -⟩ | ⟨h1, -⟩ | ⟨-, hi0⟩
        · omega
        · omega
        · rcases g3 with g3 | g3
          · have := Nat.eq_of_beq_eq_true g3
            subst this
            exact core 2 rfl "MixedRules$Flow" rfl rfl hi0
          · have := Nat.eq_of_beq_eq_true g3
            subst this
            exact core 3 rfl "MixedRules$Letter" rfl rfl hi0
      · rw [hcy] at g4; cases g4
    · cases hg
theorem am_dv_df {ci j : Nat} (hci : ci < 10) (hj : j < am_nf ci) : defaultValue (am_tyF ci j) = vp_V ((am_df ci).map (am_vl z)) j := by
  have h1 := List.all_eq_true.mp (List.all_eq_true.mp am_tts ci (List.mem_range.mpr hci)) j (List.mem_range.mpr hj)
  simp only [Bool.and_eq_true] at h1
  have hlen : (am_tyT ci).length = am_nf ci := Nat.eq_of_beq_eq_true h1.2
  have e1 : vp_V ((am_df ci).map (am_vl z)) j = am_vl z (am_dv (am_ty ci j)) := by
    unfold vp_V am_df am_ty
    rw [List.map_map, List.getD_eq_getElem?_getD, List.getElem?_map, List.getD_eq_getElem?_getD, List.getElem?_eq_getElem (by omega)]
    rfl
  rw [e1]
  have h2 := h1.1
  generalize am_ty ci j = t at h2 ⊢
  generalize am_tyF ci j = ty at h2 ⊢
  rcases t with _ | _ | _ | t
  · cases ty <;> first | (cases h2; done) | rfl
  · cases ty <;> first | (cases h2; done) | rfl
  · cases ty <;> first | (cases h2; done) | rfl
  · cases ty <;> cases h2
theorem am_nw_W (hx : p.tables.exec = Jvm.exec) (hb : c.code = am_by m) (hown : s.vm.findClass (am_cn (am_ow m)) = some mid.cls) (hts : ∀ w ∈ lw_G, w.before args s = true) (hXt : am_Xt z s) (hS : va_S (az_A z) s.heap H locs) (hW : am_W z h H)
    {x ci : Nat} {h' : am_H} (hd : decode (am_by m) pc = .ok (.new x, 3)) (hc : am_cc (am_ow m) x = some ci) (hg : am_nw1 h ci = some (q, h')) (hcells : cells + 1 ≤ R.cells) (hslots : slots + am_nf ci ≤ R.slots)
    (kk : ∀ (H1 : Heap), am_W z h' H1 → va_S (az_A z) s.heap H1 locs → W p l e R s mid args below meth c H1 locs (cells + 1) (slots + am_nf ci) Q (F0 mid (pc + 3) lsJ (am_vl z (.inr (.inl (some q))) :: rest))) : W p l e R s mid args below meth c H locs cells slots Q (F0 mid pc lsJ rest) := by
  unfold am_nw1 at hg
  cases hbb : (am_fr h && Nat.blt ci 10) with
  | false => rw [hbb] at hg; cases hg
  | true =>
    rw [hbb] at hg
    cases hg
    simp only [Bool.and_eq_true, am_fr] at hbb
    obtain ⟨⟨g1, g2⟩, g3⟩ := hbb
    have hps := Nat.eq_of_beq_eq_true g1
    have hk95 : (am_nm h.length).1 < 95 := Nat.le_of_ble_eq_true g2
    have hc10 : ci < 10 := Nat.le_of_ble_eq_true g3
    obtain ⟨k1, k2, k3, k4, k5, k6⟩ := am_cls hc10
    have hinst : (Cond.instantiable (am_cn ci) (am_nf ci)).before args s = true := hts _ (lw_G_in (am_wi_in (List.all_eq_true.mp am_insts ci (List.mem_range.mpr hc10))) rfl)
    have hini : (Cond.initialized (am_cn ci)).before args s = true := hts _ (lw_G_in (am_wi_in (List.all_eq_true.mp am_inis ci (List.mem_range.mpr (by omega)))) rfl)
    have hKn := hXt.1.1 ci _ k1
    refine W.newcK hx hb hown (hts _ (lw_G_in (am_ccF hc) rfl)) hinst hini rfl hd hcells hslots hKn.2.1 rfl fun H1 kC hkC e1 z1 o1 => ?_
    have he : va_at (az_D z) am_cl0 (z.1 + h.length, am_te z (.inl (ci, am_df ci))) H1 := by
      refine ⟨_, k1, ?_⟩
      rw [← hW.1]
      exact (u_born (am_tyF ci) hts k2 hKn hkC e1 k3).to (fun j hj => am_dv_df hc10 hj)
    have h9 := kk H1 (am_W_app hW he z1 o1) ⟨Nat.le_trans hS.1 (by omega), fun y h1 h2 => (o1 y (Nat.lt_of_lt_of_le h1 hS.1)).trans (hS.2.1 y h1 h2), hS.2.2⟩
    rw [am_vlw hk95, hps, ← hW.1] at h9
    exact h9
theorem am_na_W (hx : p.tables.exec = Jvm.exec) (hb : c.code = am_by m) (hown : s.vm.findClass (am_cn (am_ow m)) = some mid.cls) (hts : ∀ w ∈ lw_G, w.before args s = true) (hXt : am_Xt z s) (hS : va_S (az_A z) s.heap H locs) (hW : am_W z h H)
    {t n : Nat} {i : Instr} (hi : (t = 0 ∧ i = .newarray .int ∧ n = 2) ∨ (t = 1 ∧ i = .newarray .boolean ∧ n = 2) ∨ (∃ x ci, (t = 2 ∨ t = 3) ∧ i = .anewarray x ∧ n = 3 ∧ am_cc (am_ow m) x = some ci ∧ ci = am_ec t)) {x : Int32} (hd : decode (am_by m) pc = .ok (i, n)) (hg : (am_na1 h t x).1 = true) (hcells : cells + 1 ≤ R.cells) (hslots : slots + am_ix x ≤ R.slots)
    (kk : ∀ (H1 : Heap), am_W z (am_na1 h t x).2.2 H1 → va_S (az_A z) s.heap H1 locs → W p l e R s mid args below meth c H1 locs (cells + 1) (slots + am_ix x) Q (F0 mid (pc + n) lsJ (am_vl z (.inr (.inl (some (am_na1 h t x).2.1))) :: rest))) : W p l e R s mid args below meth c H locs cells slots Q (F0 mid pc lsJ (.int x :: rest)) := by
  unfold am_na1 at hg kk
  dsimp only at hg kk
  simp only [Bool.and_eq_true, am_fr] at hg
  obtain ⟨⟨g1, g2⟩, g3, g4⟩ := hg
  have hps := Nat.eq_of_beq_eq_true g1
  have hk95 : (am_nm h.length).1 < 95 := Nat.le_of_ble_eq_true g2
  have hx0 : ¬ x < 0 := fun w => am_in_vp g4 (Or.inl w)
  have hxl : am_ix x < 1000 := am_in_lt g4
  have key : ∀ (H1 : Heap) , va_at (az_D z) am_cl0 (z.1 + h.length, am_te z (am_nc1 t (am_ix x))) H1 → H1.size = H.size + 1 → (∀ y, y < H.size → H1[y]? = H[y]?) → W p l e R s mid args below meth c H1 locs (cells + 1) (slots + am_ix x) Q (F0 mid (pc + n) lsJ (.ref H.size :: rest)) := by
    intro H1 he z1 o1
    have h9 := kk H1 (am_W_app hW he z1 o1) ⟨Nat.le_trans hS.1 (by omega), fun y h1 h2 => (o1 y (Nat.lt_of_lt_of_le h1 hS.1)).trans (hS.2.1 y h1 h2), hS.2.2⟩
    rw [am_vlw hk95, hps, ← hW.1] at h9
    exact h9
  have rep : ∀ (k : Nat) (y : Int32), (fun j => Value.int ((List.replicate k (0 : Int32)).getD j 0)) = fun _ => Value.int 0 := by
    intro k _
    funext j
    rw [List.getD_eq_getElem?_getD, List.getElem?_replicate]
    split <;> rfl
  have repq : ∀ (k : Nat), (fun j => va_rf (((List.replicate k (none : Option am_K)).getD j none).map (am_ad z))) = fun _ => Value.null := by
    intro k
    funext j
    rw [List.getD_eq_getElem?_getD, List.getElem?_replicate]
    split <;> rfl
  rcases hi with ⟨rfl, rfl, rfl⟩ | ⟨rfl, rfl, rfl⟩ | ⟨y, ci, ht, rfl, rfl, hcc, hci⟩
  · have hcA : s.vm.findClass ("[" ++ (newarray.typeOf .int).toString) = some (az_cA z 0) := (hXt.1.2 0 _ rfl).2
    have har : (Cond.arrayClass (newarray.typeOf .int)).before args s = true := hts _ (lw_G_in am_arI rfl)
    refine va_newaK (atype := .int) (N := am_ix x) hx hb har rfl hd rfl hx0 rfl (by show am_ix x * 4 ≤ _; omega) hcells hslots rfl fun H1 cA e1 z1 o1 _ hNm => ?_
    have hc1 : cA = az_cA z 0 := Option.some.inj (hNm.symm.trans hcA)
    subst hc1
    refine key H1 ?_ z1 o1
    show H1[z.1 + h.length]? = some (vp_cell (az_cA z 0) ((List.replicate (am_ix x) (0 : Int32)).length, .inl (fun j => (List.replicate (am_ix x) (0 : Int32)).getD j 0)))
    rw [vp_cell_i, ← hW.1, e1, List.length_replicate, rep _ x]
    rfl
  · have hcA : s.vm.findClass ("[" ++ (newarray.typeOf .boolean).toString) = some (az_cA z 1) := (hXt.1.2 1 _ rfl).2
    have har : (Cond.arrayClass (newarray.typeOf .boolean)).before args s = true := hts _ (lw_G_in am_arZ rfl)
    refine va_newaK (atype := .boolean) (N := am_ix x) hx hb har rfl hd rfl hx0 rfl (by show am_ix x * 1 ≤ _; omega) hcells hslots rfl fun H1 cA e1 z1 o1 _ hNm => ?_
    have hc1 : cA = az_cA z 1 := Option.some.inj (hNm.symm.trans hcA)
    subst hc1
    refine key H1 ?_ z1 o1
    show H1[z.1 + h.length]? = some (vp_cell (az_cA z 1) ((List.replicate (am_ix x) (0 : Int32)).length, .inl (fun j => (List.replicate (am_ix x) (0 : Int32)).getD j 0)))
    rw [vp_cell_i, ← hW.1, e1, List.length_replicate, rep _ x]
    rfl
  · have hclink := hts _ (lw_G_in (am_ccF hcc) rfl)
    have core : ∀ C : String, am_cn ci = C → va_AO C s → (am_tys z)[t]? = some (az_cA z t, .object C) → am_nc1 t (am_ix x) = .inr (.inr (t, List.replicate (am_ix x) none)) → W p l e R s mid args below meth c H locs cells slots Q (F0 mid pc lsJ (.int x :: rest)) := by
      intro C hC hAO htys hnc
      rw [hC] at hclink
      obtain ⟨kA, comp, a1, a2, a3, a4⟩ := (hXt.1.2 t _ htys).2
      refine W.anew hx hb hown hclink (va_AO.use hAO) rfl hd rfl hx0 (by show am_ix x * 4 ≤ _; omega) hcells hslots fun cA kA2 comp2 f1 f2 f3 f4 => ?_
      have hc1 : cA = az_cA z t := Option.some.inj (f1.symm.trans a4)
      subst hc1
      refine key _ ?_ (by simp) (fun y hy => by rw [Array.getElem?_push, if_neg (Nat.ne_of_lt hy)])
      rw [hnc]
      show (H.push _)[z.1 + h.length]? = some (vp_cell (az_cA z t) ((List.replicate (am_ix x) (none : Option am_K)).length, .inr (.inr (.inr (.inr (fun j => ((List.replicate (am_ix x) (none : Option am_K)).getD j none).map (am_ad z)))))))
      rw [vp_cell_q, ← hW.1, Array.getElem?_push_size, List.length_replicate]
      rw [arrV_new]
      exact congrArg (fun f => some (arrV _ _ f)) (repq _).symm
    rcases ht with rfl | rfl
    · exact core "MixedRules$Flow" (by rw [hci]; rfl) hXt.2.2.2.2.2.2.2.2.1 rfl rfl
    · exact core "MixedRules$Letter" (by rw [hci]; rfl) hXt.2.2.2.2.2.2.2.2.2.1 rfl rfl
end
