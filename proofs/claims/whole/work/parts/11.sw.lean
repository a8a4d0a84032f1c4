/-! switches that fall through -/
theorem sw_i {x : Int32} {k : Int} (h : ¬ x = Int32.ofInt k) (hk : -2147483648 ≤ k ∧ k < 2147483648) : x.toInt ≠ k := by
  intro e
  apply h
  rw [← Int32.toInt_inj, Int32.toInt_ofInt_of_le hk.1 hk.2]
  exact e
theorem sw_out1_3 {x : Int32} (h1 : ¬ x = 1) (h2 : ¬ x = 2) (h3 : ¬ x = 3) : x.toInt < 1 ∨ 3 < x.toInt := by
  have a1 := sw_i (k := 1) h1 (by decide)
  have a2 := sw_i (k := 2) h2 (by decide)
  have a3 := sw_i (k := 3) h3 (by decide)
  omega
theorem sw_out0_4 {x : Int32} (h0 : ¬ x = 0) (h1 : ¬ x = 1) (h2 : ¬ x = 2) (h3 : ¬ x = 3) (h4 : ¬ x = 4) : x.toInt < 0 ∨ 4 < x.toInt := by
  have a0 := sw_i (k := 0) h0 (by decide)
  have a1 := sw_i (k := 1) h1 (by decide)
  have a2 := sw_i (k := 2) h2 (by decide)
  have a3 := sw_i (k := 3) h3 (by decide)
  have a4 := sw_i (k := 4) h4 (by decide)
  omega
theorem sw_out0_3 {x : Int32} (h0 : ¬ x = 0) (h1 : ¬ x = 1) (h2 : ¬ x = 2) (h3 : ¬ x = 3) : x.toInt < 0 ∨ 3 < x.toInt := by
  have a0 := sw_i (k := 0) h0 (by decide)
  have a1 := sw_i (k := 1) h1 (by decide)
  have a2 := sw_i (k := 2) h2 (by decide)
  have a3 := sw_i (k := 3) h3 (by decide)
  omega
theorem lk_out_1_2 {x : Int32} {a b d : Int} (h1 : ¬ x = 1) (h2 : ¬ x = 2) : Op.lookupswitch.offset [(1, a), (2, b)] d x.toInt = d := by
  have a1 := sw_i (k := 1) h1 (by decide)
  have a2 := sw_i (k := 2) h2 (by decide)
  simp [Op.lookupswitch.offset, Ne.symm a1, Ne.symm a2, a1, a2]
theorem lk_out_0_1 {x : Int32} {a b d : Int} (h0 : ¬ x = 0) (h1 : ¬ x = 1) : Op.lookupswitch.offset [(0, a), (1, b)] d x.toInt = d := by
  have a0 := sw_i (k := 0) h0 (by decide)
  have a1 := sw_i (k := 1) h1 (by decide)
  simp [Op.lookupswitch.offset, Ne.symm a0, Ne.symm a1, a0, a1]
