/-! the rows of 02 hold of the Statement's class files: decided by the kernel; written by wip/whole/gen3.py -/
def am_okm (m : Nat) : Bool := (List.range (16 * (am_tb m).length)).all fun pc => match am_at m pc with
  | some x => decide (decode (am_by m) pc = .ok x)
  | none => true
set_option maxRecDepth 100000 in
theorem am_ok0 : (List.range' 0 18).all am_okm = true := by decide +kernel
set_option maxRecDepth 100000 in
theorem am_ok1 : (List.range' 18 13).all am_okm = true := by decide +kernel
set_option maxRecDepth 100000 in
theorem am_ok2 : (List.range' 31 12).all am_okm = true := by decide +kernel
set_option maxRecDepth 100000 in
theorem am_ok3 : (List.range' 43 8).all am_okm = true := by decide +kernel
set_option maxRecDepth 100000 in
theorem am_ok4 : (List.range' 51 13).all am_okm = true := by decide +kernel
set_option maxRecDepth 100000 in
theorem am_ok5 : (List.range' 64 9).all am_okm = true := by decide +kernel
set_option maxRecDepth 100000 in
theorem am_ok6 : (List.range' 73 13).all am_okm = true := by decide +kernel
set_option maxRecDepth 100000 in
theorem am_ok7 : (List.range' 86 14).all am_okm = true := by decide +kernel
set_option maxRecDepth 100000 in
theorem am_ok8 : (List.range' 100 9).all am_okm = true := by decide +kernel
set_option maxRecDepth 100000 in
theorem am_ok9 : (List.range' 109 11).all am_okm = true := by decide +kernel
set_option maxRecDepth 100000 in
theorem am_ok10 : (List.range' 120 5).all am_okm = true := by decide +kernel
set_option maxRecDepth 100000 in
theorem am_ok11 : (List.range' 125 7).all am_okm = true := by decide +kernel
set_option maxRecDepth 100000 in
theorem am_ok12 : (List.range' 132 8).all am_okm = true := by decide +kernel
set_option maxRecDepth 100000 in
theorem am_ok13 : (List.range' 140 11).all am_okm = true := by decide +kernel
set_option maxRecDepth 100000 in
theorem am_ok14 : (List.range' 151 11).all am_okm = true := by decide +kernel
set_option maxRecDepth 100000 in
theorem am_ok15 : (List.range' 162 4).all am_okm = true := by decide +kernel
set_option maxRecDepth 100000 in
theorem am_ok16 : (List.range' 166 6).all am_okm = true := by decide +kernel
set_option maxRecDepth 100000 in
theorem am_ok17 : (List.range' 172 8).all am_okm = true := by decide +kernel
set_option maxRecDepth 100000 in
theorem am_ok18 : (List.range' 180 10).all am_okm = true := by decide +kernel
def am_okp (m pc : Nat) : Bool := match am_at m pc with
  | some x => decide (decode (am_by m) pc = .ok x)
  | none => true
set_option maxRecDepth 100000 in
theorem am_okl0 : (List.range' 0 64).all (am_okp 190) = true := by decide +kernel
set_option maxRecDepth 100000 in
theorem am_okl1 : (List.range' 64 64).all (am_okp 190) = true := by decide +kernel
set_option maxRecDepth 100000 in
theorem am_okl2 : (List.range' 128 64).all (am_okp 190) = true := by decide +kernel
set_option maxRecDepth 100000 in
theorem am_okl3 : (List.range' 192 64).all (am_okp 190) = true := by decide +kernel
set_option maxRecDepth 100000 in
theorem am_okl4 : (List.range' 256 64).all (am_okp 190) = true := by decide +kernel
set_option maxRecDepth 100000 in
theorem am_okl5 : (List.range' 320 64).all (am_okp 190) = true := by decide +kernel
set_option maxRecDepth 100000 in
theorem am_okl6 : (List.range' 384 64).all (am_okp 190) = true := by decide +kernel
set_option maxRecDepth 100000 in
theorem am_okl7 : (List.range' 448 64).all (am_okp 190) = true := by decide +kernel
set_option maxRecDepth 100000 in
theorem am_okl8 : (List.range' 512 64).all (am_okp 190) = true := by decide +kernel
set_option maxRecDepth 100000 in
theorem am_okl9 : (List.range' 576 64).all (am_okp 190) = true := by decide +kernel
set_option maxRecDepth 100000 in
theorem am_okl10 : (List.range' 640 64).all (am_okp 190) = true := by decide +kernel
set_option maxRecDepth 100000 in
theorem am_okl11 : (List.range' 704 64).all (am_okp 190) = true := by decide +kernel
set_option maxRecDepth 100000 in
theorem am_okl12 : (List.range' 768 64).all (am_okp 190) = true := by decide +kernel
set_option maxRecDepth 100000 in
theorem am_okl13 : (List.range' 832 64).all (am_okp 190) = true := by decide +kernel
set_option maxRecDepth 100000 in
theorem am_okl14 : (List.range' 896 64).all (am_okp 190) = true := by decide +kernel
set_option maxRecDepth 100000 in
theorem am_okl15 : (List.range' 960 64).all (am_okp 190) = true := by decide +kernel
theorem am_okL : am_okm 190 = true := by
  refine List.all_eq_true.mpr (fun pc hp => ?_)
  have hp : pc < 1024 := List.mem_range.mp hp
  by_cases h0 : pc < 64
  · exact List.all_eq_true.mp am_okl0 pc (List.mem_range'_1.mpr (by omega))
  by_cases h1 : pc < 128
  · exact List.all_eq_true.mp am_okl1 pc (List.mem_range'_1.mpr (by omega))
  by_cases h2 : pc < 192
  · exact List.all_eq_true.mp am_okl2 pc (List.mem_range'_1.mpr (by omega))
  by_cases h3 : pc < 256
  · exact List.all_eq_true.mp am_okl3 pc (List.mem_range'_1.mpr (by omega))
  by_cases h4 : pc < 320
  · exact List.all_eq_true.mp am_okl4 pc (List.mem_range'_1.mpr (by omega))
  by_cases h5 : pc < 384
  · exact List.all_eq_true.mp am_okl5 pc (List.mem_range'_1.mpr (by omega))
  by_cases h6 : pc < 448
  · exact List.all_eq_true.mp am_okl6 pc (List.mem_range'_1.mpr (by omega))
  by_cases h7 : pc < 512
  · exact List.all_eq_true.mp am_okl7 pc (List.mem_range'_1.mpr (by omega))
  by_cases h8 : pc < 576
  · exact List.all_eq_true.mp am_okl8 pc (List.mem_range'_1.mpr (by omega))
  by_cases h9 : pc < 640
  · exact List.all_eq_true.mp am_okl9 pc (List.mem_range'_1.mpr (by omega))
  by_cases h10 : pc < 704
  · exact List.all_eq_true.mp am_okl10 pc (List.mem_range'_1.mpr (by omega))
  by_cases h11 : pc < 768
  · exact List.all_eq_true.mp am_okl11 pc (List.mem_range'_1.mpr (by omega))
  by_cases h12 : pc < 832
  · exact List.all_eq_true.mp am_okl12 pc (List.mem_range'_1.mpr (by omega))
  by_cases h13 : pc < 896
  · exact List.all_eq_true.mp am_okl13 pc (List.mem_range'_1.mpr (by omega))
  by_cases h14 : pc < 960
  · exact List.all_eq_true.mp am_okl14 pc (List.mem_range'_1.mpr (by omega))
  by_cases h15 : pc < 1024
  · exact List.all_eq_true.mp am_okl15 pc (List.mem_range'_1.mpr (by omega))
  omega
theorem am_oks : ∀ m, m < 191 → am_okm m = true := by
  intro m h
  by_cases h0 : m < 18
  · exact List.all_eq_true.mp am_ok0 m (List.mem_range'_1.mpr (by omega))
  by_cases h1 : m < 31
  · exact List.all_eq_true.mp am_ok1 m (List.mem_range'_1.mpr (by omega))
  by_cases h2 : m < 43
  · exact List.all_eq_true.mp am_ok2 m (List.mem_range'_1.mpr (by omega))
  by_cases h3 : m < 51
  · exact List.all_eq_true.mp am_ok3 m (List.mem_range'_1.mpr (by omega))
  by_cases h4 : m < 64
  · exact List.all_eq_true.mp am_ok4 m (List.mem_range'_1.mpr (by omega))
  by_cases h5 : m < 73
  · exact List.all_eq_true.mp am_ok5 m (List.mem_range'_1.mpr (by omega))
  by_cases h6 : m < 86
  · exact List.all_eq_true.mp am_ok6 m (List.mem_range'_1.mpr (by omega))
  by_cases h7 : m < 100
  · exact List.all_eq_true.mp am_ok7 m (List.mem_range'_1.mpr (by omega))
  by_cases h8 : m < 109
  · exact List.all_eq_true.mp am_ok8 m (List.mem_range'_1.mpr (by omega))
  by_cases h9 : m < 120
  · exact List.all_eq_true.mp am_ok9 m (List.mem_range'_1.mpr (by omega))
  by_cases h10 : m < 125
  · exact List.all_eq_true.mp am_ok10 m (List.mem_range'_1.mpr (by omega))
  by_cases h11 : m < 132
  · exact List.all_eq_true.mp am_ok11 m (List.mem_range'_1.mpr (by omega))
  by_cases h12 : m < 140
  · exact List.all_eq_true.mp am_ok12 m (List.mem_range'_1.mpr (by omega))
  by_cases h13 : m < 151
  · exact List.all_eq_true.mp am_ok13 m (List.mem_range'_1.mpr (by omega))
  by_cases h14 : m < 162
  · exact List.all_eq_true.mp am_ok14 m (List.mem_range'_1.mpr (by omega))
  by_cases h15 : m < 166
  · exact List.all_eq_true.mp am_ok15 m (List.mem_range'_1.mpr (by omega))
  by_cases h16 : m < 172
  · exact List.all_eq_true.mp am_ok16 m (List.mem_range'_1.mpr (by omega))
  by_cases h17 : m < 180
  · exact List.all_eq_true.mp am_ok17 m (List.mem_range'_1.mpr (by omega))
  by_cases h18 : m < 190
  · exact List.all_eq_true.mp am_ok18 m (List.mem_range'_1.mpr (by omega))
  rw [show m = 190 by omega]
  exact am_okL
theorem am_dec {m pc : Nat} {x : Instr × Nat} (hm : m < 191) (h : am_at m pc = some x) : decode (am_by m) pc = .ok x := by
  by_cases hp : pc < 16 * (am_tb m).length
  · have h1 := List.all_eq_true.mp (am_oks m hm) pc (List.mem_range.mpr hp)
    simp only [h] at h1
    exact of_decide_eq_true h1
  · exfalso
    have h2 : (am_tb m).length ≤ pc / 16 := by omega
    unfold am_at at h
    rw [List.getD_eq_getElem?_getD, List.getD_eq_getElem?_getD, List.getElem?_eq_none h2] at h
    simp at h
