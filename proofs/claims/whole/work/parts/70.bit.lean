/-! ===== bits of a set of works ===== -/
def bt (x : Int32) (i : Nat) : Bool := x.toBitVec.getLsbD i
theorem bt_ext {x y : Int32} (h : ∀ i, i < 32 → bt x i = bt y i) : x = y := Int32.toBitVec_inj.mp (BitVec.eq_of_getLsbD_eq (fun i hi => h i hi))
theorem bt_or (x y : Int32) (i : Nat) : bt (x ||| y) i = (bt x i || bt y i) := by unfold bt; rw [Int32.toBitVec_or, BitVec.getLsbD_or]
theorem bt_and (x y : Int32) (i : Nat) : bt (x &&& y) i = (bt x i && bt y i) := by unfold bt; rw [Int32.toBitVec_and, BitVec.getLsbD_and]
theorem bt_0 (i : Nat) : bt 0 i = false := by unfold bt; rw [Int32.toBitVec_zero, BitVec.getLsbD_zero]
theorem bt_1 : ∀ i, i < 32 → bt 1 i = decide (i = 0) := by decide
theorem bt_one : ∀ w, w < 9 → ∀ i, i < 32 → bt (1 <<< (nI w &&& 31)) i = decide (i = w) := by decide
theorem bt_low : ∀ w, w < 9 → ∀ i, i < 32 → bt ((1 <<< (nI w &&& 31)) - 1) i = decide (i < w) := by decide
theorem bt_hi (x : Int32) {i : Nat} (h : 32 ≤ i) : bt x i = false := BitVec.getLsbD_of_ge _ _ h
theorem sm_w : ∀ w, w < 9 → ((nI w &&& 31).toBitVec.smod 32#32).toNat = w := by decide
theorem bt_shr {x : Int32} {w : Nat} (hw : w < 9) : bt (x >>> (nI w &&& 31)) 0 = bt x w := by
  unfold bt
  rw [Int32.toBitVec_shiftRight, BitVec.sshiftRight', show ((32 : BitVec 32)) = 32#32 from rfl, sm_w w hw, BitVec.getLsbD_sshiftRight]
  have h1 : ¬ (32 ≤ 0) := by omega
  have h2 : w + 0 < 32 := by omega
  simp only [h1, decide_false, Bool.not_false, Bool.true_and, Nat.add_zero]
  exact if_pos (by omega)
theorem bt_and1 (y : Int32) (i : Nat) (h : i < 32) : bt (y &&& 1) i = (bt y i && decide (i = 0)) := by rw [bt_and, bt_1 i h]
theorem and1_0 (y : Int32) : (y &&& 1) = (if bt y 0 = true then 1 else 0) := by
  apply bt_ext
  intro i hi
  rw [bt_and1 y i hi]
  by_cases e : i = 0
  · subst e
    cases h : bt y 0
    · rw [if_neg (by decide), bt_0]; rfl
    · rw [if_pos rfl, bt_1 0 (by omega)]; rfl
  · split
    · rw [bt_1 i hi]; simp [e]
    · rw [bt_0]; simp [e]
theorem tst_eq {x : Int32} {w : Nat} (hw : w < 9) : ((x >>> (nI w &&& 31)) &&& 1) = (if bt x w = true then 1 else 0) := by rw [and1_0, bt_shr hw]
theorem low_iff {x : Int32} {w : Nat} (hw : w < 9) : ((x &&& ((1 <<< (nI w &&& 31)) - 1)) = 0) ↔ ∀ i, i < w → bt x i = false := by
  constructor
  · intro h i hi
    have := congrArg (fun z => bt z i) h
    replace this : bt (x &&& ((1 <<< (nI w &&& 31)) - 1)) i = bt 0 i := this
    rw [bt_and, bt_0, bt_low w hw i (by omega), decide_eq_true hi, Bool.and_true] at this
    exact this
  · intro h
    apply bt_ext
    intro i hi
    rw [bt_and, bt_0, bt_low w hw i hi]
    by_cases e : i < w
    · rw [h i e]; rfl
    · rw [decide_eq_false e, Bool.and_false]
theorem one_iff {x : Int32} {w : Nat} (hw : w < 9) : (x = (1 <<< (nI w &&& 31))) ↔ ∀ i, i < 32 → bt x i = decide (i = w) := by
  constructor
  · intro h i hi
    rw [h, bt_one w hw i hi]
  · intro h
    apply bt_ext
    intro i hi
    rw [h i hi, bt_one w hw i hi]
