/-! ===== ranges: class and reference ask alike ===== -/
theorem in_lt {x y : Int64} : (lg_cmp x y < 0) = (x < y) := by
  unfold lg_cmp
  apply propext
  by_cases h1 : x > y
  · rw [if_pos h1]
    exact ⟨fun h => absurd h (by decide), fun h => absurd h1 (by rw [gt_iff_lt, Int64.lt_iff_toInt_lt]; rw [Int64.lt_iff_toInt_lt] at h; omega)⟩
  · rw [if_neg h1]
    by_cases h2 : x = y
    · rw [if_pos h2]
      subst h2
      exact ⟨fun h => absurd h (by decide), fun h => absurd h h1⟩
    · rw [if_neg h2]
      refine ⟨fun _ => ?_, fun _ => by decide⟩
      rw [gt_iff_lt, Int64.lt_iff_toInt_lt] at h1
      rw [← Int64.toInt_inj] at h2
      rw [Int64.lt_iff_toInt_lt]
      omega
theorem in_gt {x y : Int64} : (0 < lg_cmp x y) = (y < x) := by
  unfold lg_cmp
  apply propext
  by_cases h1 : x > y
  · rw [if_pos h1]
    exact ⟨fun _ => h1, fun _ => by decide⟩
  · rw [if_neg h1]
    refine ⟨fun h => ?_, fun h => absurd h h1⟩
    by_cases h2 : x = y
    · rw [if_pos h2] at h; exact absurd h (by decide)
    · rw [if_neg h2] at h; exact absurd h (by decide)
theorem in_eq (x l h : Int64) : m_X12_in x l h = some (if l.toInt ≤ x.toInt ∧ x.toInt ≤ h.toInt then 1 else 0) := by
  unfold m_X12_in m_X12_in_J17 m_X12_in_J18
  simp only [in_lt, in_gt, Int64.lt_iff_toInt_lt]
  by_cases h1 : x.toInt < l.toInt
  · rw [if_pos h1, ckb_0, if_neg (by omega)]
  · rw [if_neg h1]
    by_cases h2 : h.toInt < x.toInt
    · rw [if_pos h2, ckb_0, if_neg (by omega)]
    · rw [if_neg h2, ckb_1, if_pos (by omega)]
theorem rng_eq (x l h : Int32) : m_X11_inRange x l h = some (if l.toInt ≤ x.toInt ∧ x.toInt ≤ h.toInt then 1 else 0) := by
  unfold m_X11_inRange m_X11_inRange_J14 m_X11_inRange_J15
  simp only [Int32.lt_iff_toInt_lt]
  by_cases h1 : x.toInt < l.toInt
  · rw [if_pos h1, ckb_0, if_neg (by omega)]
  · rw [if_neg h1]
    by_cases h2 : h.toInt < x.toInt
    · rw [if_pos h2, ckb_0, if_neg (by omega)]
    · rw [if_neg h2, ckb_1, if_pos (by omega)]
theorem nI_back {x : Int32} (h : 0 ≤ x.toInt) : ∃ k : Nat, (k : Int) = x.toInt ∧ x = nI k := by
  refine ⟨x.toInt.toNat, by omega, ?_⟩
  apply i32_ext
  have h2 : x.toInt < 2147483648 := Int32.toInt_lt x
  rw [nI_toI (by omega)]
  omega
/-- an argument in a range, or out of it, for both -/
theorem rng (x : Int32) (l h : Nat) (hl : l < 2147483648) (hh : h < 2147483648) : (∃ k, l ≤ k ∧ k ≤ h ∧ x = nI k ∧ m_X11_inRange x (nI l) (nI h) = some 1 ∧ m_X12_in (Int32.toInt64 x) (lN l) (lN h) = some 1) ∨ (m_X11_inRange x (nI l) (nI h) = some 0 ∧ m_X12_in (Int32.toInt64 x) (lN l) (lN h) = some 0) := by
  rw [rng_eq, in_eq, Int32.toInt_toInt64]
  rw [nI_toI hl, nI_toI hh, lN_toInt hl, lN_toInt hh]
  by_cases c : (l : Int) ≤ x.toInt ∧ x.toInt ≤ (h : Int)
  · obtain ⟨k, e1, e2⟩ := nI_back (x := x) (by omega)
    exact Or.inl ⟨k, by omega, by omega, e2, by rw [if_pos c], by rw [if_pos c]⟩
  · exact Or.inr ⟨by rw [if_neg c], by rw [if_neg c]⟩
theorem has_eq (x : Int32) {n : Nat} (hn : n < 1000) : m_X9_has (nI n) x = some (if 0 ≤ x.toInt ∧ x.toInt < n then 1 else 0) ∧ m_X1_has (nI n) x = some (if 0 ≤ x.toInt ∧ x.toInt < n then 1 else 0) := by
  unfold m_X9_has m_X9_has_J16 m_X9_has_J17 m_X1_has m_X1_has_J16 m_X1_has_J17
  simp only [Int32.lt_iff_toInt_lt, Int32.le_iff_toInt_le, nI_toI (show n < 2147483648 by omega), show (0 : Int32).toInt = 0 from rfl]
  by_cases h1 : x.toInt < 0
  · rw [if_pos h1, ckb_0, if_neg (by omega)]
    exact ⟨rfl, rfl⟩
  · rw [if_neg h1]
    by_cases h2 : (n : Int) ≤ x.toInt
    · rw [if_pos h2, ckb_0, if_neg (by omega)]
      exact ⟨rfl, rfl⟩
    · rw [if_neg h2, ckb_1, if_pos (by omega)]
      exact ⟨rfl, rfl⟩
theorem isw_eq (x : Int32) {n : Nat} (hn : n < 1000) {s : Nat → Int32} : (s 0 = nI n → m_X12_isWork s x = some (if 0 ≤ x.toInt ∧ x.toInt < n then 1 else 0)) ∧ (s 70 = nI n → m_X12_isCitation s x = some (if 0 ≤ x.toInt ∧ x.toInt < n then 1 else 0)) := by
  have e1 : (nI n - 1).toInt = (n : Int) - 1 := by
    rw [Int32.toInt_sub, nI_toI (by omega), show (1 : Int32).toInt = 1 from rfl, Int.bmod_eq_of_le (by omega) (by omega)]
  have key : m_X12_in (Int32.toInt64 x) 0 (Int32.toInt64 (nI n - 1)) = some (if 0 ≤ x.toInt ∧ x.toInt < n then 1 else 0) := by
    rw [in_eq, Int32.toInt_toInt64, Int32.toInt_toInt64, e1, show (0 : Int64).toInt = 0 from rfl]
    by_cases c : 0 ≤ x.toInt ∧ x.toInt < (n : Int)
    · rw [if_pos c, if_pos (by omega)]
    · rw [if_neg c, if_neg (by omega)]
  constructor
  · intro h
    unfold m_X12_isWork
    rw [ck_lit (by decide) (by decide), show Int32.toNatClampNeg 0 = 0 from rfl, h, key]
    by_cases c : 0 ≤ x.toInt ∧ x.toInt < (n : Int)
    · rw [if_pos c]; exact ckb_1
    · rw [if_neg c]; exact ckb_0
  · intro h
    unfold m_X12_isCitation
    rw [ck_lit (by decide) (by decide), show Int32.toNatClampNeg 70 = 70 from rfl, h, key]
    by_cases c : 0 ≤ x.toInt ∧ x.toInt < (n : Int)
    · rw [if_pos c]; exact ckb_1
    · rw [if_neg c]; exact ckb_0
/-- the number of a work, or not, for both -/
theorem hasW (x : Int32) {n : Nat} (hn : n ≤ 8) {s : Nat → Int32} (hs : s 0 = nI n) : (∃ k, k < n ∧ x = nI k ∧ m_X9_has (nI n) x = some 1 ∧ m_X12_isWork s x = some 1) ∨ (m_X9_has (nI n) x = some 0 ∧ m_X12_isWork s x = some 0) := by
  rw [(has_eq x (by omega)).1, (isw_eq x (n := n) (by omega)).1 hs]
  by_cases c : 0 ≤ x.toInt ∧ x.toInt < (n : Int)
  · obtain ⟨k, e1, e2⟩ := nI_back (x := x) (by omega)
    exact Or.inl ⟨k, by omega, e2, by rw [if_pos c], by rw [if_pos c]⟩
  · exact Or.inr ⟨by rw [if_neg c], by rw [if_neg c]⟩
theorem hasC (x : Int32) {n : Nat} (hn : n ≤ 10) {s : Nat → Int32} (hs : s 70 = nI n) : (∃ k, k < n ∧ x = nI k ∧ m_X1_has (nI n) x = some 1 ∧ m_X12_isCitation s x = some 1) ∨ (m_X1_has (nI n) x = some 0 ∧ m_X12_isCitation s x = some 0) := by
  rw [(has_eq x (by omega)).2, (isw_eq x (n := n) (by omega)).2 hs]
  by_cases c : 0 ≤ x.toInt ∧ x.toInt < (n : Int)
  · obtain ⟨k, e1, e2⟩ := nI_back (x := x) (by omega)
    exact Or.inl ⟨k, by omega, e2, by rw [if_pos c], by rw [if_pos c]⟩
  · exact Or.inr ⟨by rw [if_neg c], by rw [if_neg c]⟩
/-! ===== what is kept ===== -/
theorem keepsJ_ok (M_s M_ke : Nat → Int32) {h : Nat} (hh : h < 8) : OkS (m_X12_keeps_J50 M_s M_ke (nI h)) (fun o => o.2 = nI (h + 1) ∧ (∀ j, j < 131 → o.1 (131 * h + j) = M_s j) ∧ (∀ j, j < 131 * h → o.1 j = M_ke j)) := by
  unfold m_X12_keeps_J50
  refine ok_bind (Q := fun r => (∀ j, j < 131 → r (131 * h + j) = M_s j) ∧ (∀ j, j < 131 * h → r j = M_ke j)) ?_ (fun r hr => ok_some ⟨by rw [lit32, nI_add], hr⟩)
  refine ok_for (fun i st => st.1 = nI i ∧ (∀ j, j < i → st.2 (131 * h + j) = M_s j) ∧ (∀ j, j < 131 * h → st.2 j = M_ke j)) 131 ⟨rfl, fun j hj => absurd hj (Nat.not_lt_zero j), fun _ _ => rfl⟩ ?_ ?_ (by omega)
  · rintro i ⟨s1, s2⟩ hi ⟨e1, e2, e3⟩
    dsimp only at e1 e2 e3
    subst e1
    unfold m_X12_keeps_B52
    simp (disch := omega) only [lit32, nI_le_iff, nI_mul, nI_add, ck_nI, tn_nI]
    rw [if_neg (by omega)]
    refine ok_l ⟨rfl, fun j hj => ?_, fun j hj => ?_⟩
    · by_cases e : j = i
      · subst e
        exact upd_eq _ _ _
      · exact (upd_ne _ _ (by omega)).trans (e2 j (by omega))
    · exact (upd_ne _ _ (by omega)).trans (e3 j hj)
  · rintro ⟨s1, s2⟩ ⟨e1, e2, e3⟩
    dsimp only at e1 e2 e3
    subst e1
    unfold m_X12_keeps_B52
    simp (disch := omega) only [lit32, nI_le_iff]
    rw [if_pos (by omega)]
    exact ok_r ⟨e2, e3⟩
theorem keeps_ok (M_s M_ke : Nat → Int32) {h : Nat} (hh : h ≤ 8) : OkS (m_X12_keeps M_s M_ke (nI h)) (fun o => ∃ g, o.2 = nI (g + 1) ∧ g = min h 7 ∧ (∀ j, j < 131 → o.1 (131 * g + j) = M_s j) ∧ (∀ i j, i < g → j < 131 → o.1 (131 * i + j) = M_ke (131 * (i + (h - g)) + j))) := by
  unfold m_X12_keeps
  simp (disch := omega) only [lit32, nI_eq_iff]
  by_cases c : h = 8
  · subst c
    rw [if_pos rfl]
    refine ok_bind (Q := fun r => ∀ j, j < 917 → r j = M_ke (131 + j)) ?_ (fun r hr => ?_)
    · refine ok_for (fun i st => st.1 = nI i ∧ (∀ j, j < i → st.2 j = M_ke (131 + j)) ∧ (∀ j, i ≤ j → st.2 j = M_ke j)) 917 ⟨rfl, fun j hj => absurd hj (Nat.not_lt_zero j), fun _ _ => rfl⟩ ?_ ?_ (by omega)
      · rintro i ⟨s1, s2⟩ hi ⟨e1, e2, e3⟩
        dsimp only at e1 e2 e3
        subst e1
        unfold m_X12_keeps_B11
        simp (disch := omega) only [lit32, nI_le_iff, nI_add, ck_nI, tn_nI]
        rw [if_neg (by omega)]
        refine ok_l ⟨rfl, fun j hj => ?_, fun j hj => ?_⟩
        · by_cases e : j = i
          · subst e
            exact (upd_eq _ _ _).trans (e3 _ (by omega))
          · exact (upd_ne _ _ (by omega)).trans (e2 j (by omega))
        · exact (upd_ne _ _ (by omega)).trans (e3 j (by omega))
      · rintro ⟨s1, s2⟩ ⟨e1, e2, e3⟩
        dsimp only at e1 e2 e3
        subst e1
        unfold m_X12_keeps_B11
        simp (disch := omega) only [lit32, nI_le_iff]
        rw [if_pos (by omega)]
        exact ok_r e2
    · rw [nI_sub (by omega) (by omega)]
      refine ok_mono (keepsJ_ok M_s r (h := 7) (by omega)) (fun o ho => ⟨7, ho.1, by omega, ho.2.1, fun i j hi hj => ?_⟩)
      rw [ho.2.2 (131 * i + j) (by omega), hr (131 * i + j) (by omega)]
      congr 1
      omega
  · rw [if_neg c]
    refine ok_mono (keepsJ_ok M_s M_ke (h := h) (by omega)) (fun o ho => ⟨h, ho.1, by omega, ho.2.1, fun i j hi hj => ?_⟩)
    rw [ho.2.2 (131 * i + j) (by omega)]
    congr 1
    omega
