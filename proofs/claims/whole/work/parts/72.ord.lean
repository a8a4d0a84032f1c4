/-! ===== the two ways to compare come to one order ===== -/
theorem authorsM {s : Nat → Int32} {a : Nat → Nat} (h : RM s a) {w : Nat} (hw : w < 8) : m_X12_authors s (nI w) = some (nI (a (1 + 7 * w))) := by
  unfold m_X12_authors
  simp (disch := omega) only [lit32, nI_mul, nI_add, ck_nI, tn_nI]
  rw [h _ (by omega)]
theorem authorM {s : Nat → Int32} {a : Nat → Nat} (h : RM s a) {w k : Nat} (hw : w < 8) (hk : k < 4) : m_X12_author s (nI w) (nI k) = some (nI (a (2 + 7 * w + k))) := by
  unfold m_X12_author
  simp (disch := omega) only [lit32, nI_mul, nI_add, ck_nI, tn_nI]
  rw [show 1 + 7 * w + 1 + k = 2 + 7 * w + k by omega, h _ (by omega)]
theorem yearM {s : Nat → Int32} {a : Nat → Nat} (h : RM s a) {w : Nat} (hw : w < 8) : m_X12_year s (nI w) = some (nI (a (6 + 7 * w))) := by
  unfold m_X12_year
  simp (disch := omega) only [lit32, nI_mul, nI_add, ck_nI, tn_nI]
  rw [show 1 + 7 * w + 5 = 6 + 7 * w by omega, h _ (by omega)]
theorem titleM {s : Nat → Int32} {a : Nat → Nat} (h : RM s a) {w : Nat} (hw : w < 8) : m_X12_title s (nI w) = some (nI (a (7 + 7 * w))) := by
  unfold m_X12_title
  simp (disch := omega) only [lit32, nI_mul, nI_add, ck_nI, tn_nI]
  rw [show 1 + 7 * w + 6 = 7 + 7 * w by omega, h _ (by omega)]
theorem authM_ok {s : Nat → Int32} {a : Nat → Nat} (ho : OkW a) (r4 : RM s a) {v w : Nat} (hv : v < a 0) (hw : w < a 0) : OkS (m_X12_againstAuthors s (nI v) (nI w)) (fun r => Sg r (kA a v) (kA a w)) := by
  have h8 := ho.1
  obtain ⟨p1, p2, p3, p4⟩ := ho.2 v hv
  obtain ⟨q1, q2, q3, q4⟩ := ho.2 w hw
  have key : OkS (m_X12_againstAuthors_J26 (nI v) (nI w) (nI (min (a (1 + 7 * v)) (a (1 + 7 * w)))) s) (fun r => Sg r (kA a v) (kA a w)) := by
    unfold m_X12_againstAuthors_J26
    refine ok_bind (Q := fun r => Sum.elim (fun z => ∃ i, i < a (1 + 7 * v) ∧ i < a (1 + 7 * w) ∧ (∀ k, k < i → a (2 + 7 * v + k) = a (2 + 7 * w + k)) ∧ z = nI i ∧ a (2 + 7 * v + i) ≠ a (2 + 7 * w + i)) (fun _ => ∀ k, k < min (a (1 + 7 * v)) (a (1 + 7 * w)) → a (2 + 7 * v + k) = a (2 + 7 * w + k)) r) ?_ ?_
    · refine ok_for (fun i st => st = nI i ∧ ∀ k, k < i → a (2 + 7 * v + k) = a (2 + 7 * w + k)) (min (a (1 + 7 * v)) (a (1 + 7 * w))) ⟨rfl, fun k hk => absurd hk (by omega)⟩ ?_ ?_ (by omega)
      · rintro i st hi ⟨e1, e2⟩
        subst e1
        have a3 := p2 i (by omega)
        have a4 := q2 i (by omega)
        unfold m_X12_againstAuthors_B30
        rw [if_neg (by rw [nI_le_iff (by omega) (by omega)]; omega), authorM r4 (by omega) (by omega), bd, authorM r4 (by omega) (by omega), bd]
        simp (disch := omega) only [lit32, nI_add, nI_eq_iff]
        refine ok_if (fun c1 => ?_) (fun c1 => ?_)
        · refine ok_l ⟨rfl, fun k hk => ?_⟩
          by_cases e : k = i
          · subst e; exact c1
          · exact e2 k (by omega)
        · exact ok_r ⟨i, by omega, by omega, e2, rfl, c1⟩
      · rintro st ⟨e1, e2⟩
        subst e1
        unfold m_X12_againstAuthors_B30
        rw [if_pos (by rw [nI_le_iff (by omega) (by omega)]; omega)]
        exact ok_r e2
    · rintro (z | _) h
      · obtain ⟨i, i1, i2, i3, i4, i5⟩ := h
        subst i4
        have a3 := p2 i (by omega)
        have a4 := q2 i (by omega)
        simp only [Sum.elim_inl]
        rw [authorM r4 (by omega) (by omega), bd, authorM r4 (by omega) (by omega), bd]
        exact ok_some (sgA ho hv hw i1 i2 i3 (by omega) (by omega) (by omega) (by omega) (by omega))
      · simp only [Sum.elim_inr]
        rw [authorsM r4 (by omega), bd, authorsM r4 (by omega), bd]
        exact ok_some (sgL ho hv hw h)
  unfold m_X12_againstAuthors
  rw [authorsM r4 (by omega), bd, authorsM r4 (by omega), bd, bd, bd]
  by_cases e : a (1 + 7 * w) ≤ a (1 + 7 * v)
  · rw [if_pos (by rw [nI_le_iff (by omega) (by omega)]; exact e)]
    rw [Nat.min_eq_right e] at key
    exact key
  · rw [if_neg (by rw [nI_le_iff (by omega) (by omega)]; exact e)]
    rw [Nat.min_eq_left (by omega)] at key
    exact key
theorem cmpC_ok {W_n : Int32} {W_ac W_fa W_in W_yr W_ti : Nat → Int32} {a : Nat → Nat} (ho : OkW a) (r1 : RW W_n W_ac W_fa W_in W_yr W_ti a) {v w j : Nat} (hv : v < a 0) (hw : w < a 0) (hk : a (64 + 2 * j) ≤ 3) : OkS (m_X0_compare W_ac W_fa W_in W_yr W_ti (nI (a (64 + 2 * j))) (nI v) (nI w)) (fun r => Sg r (kS a j v) (kS a j w)) := by
  have h8 := ho.1
  obtain ⟨v1, v2, v3, v4⟩ := r1.2 v hv
  obtain ⟨w1, w2, w3, w4⟩ := r1.2 w hw
  obtain ⟨p1, p2, p3, p4⟩ := ho.2 v hv
  obtain ⟨q1, q2, q3, q4⟩ := ho.2 w hw
  unfold m_X0_compare
  simp (disch := omega) only [lit32, ck_nI, tn_nI, v3, v4, w3, w4, nI_eq_iff]
  refine ok_if (fun c => ?_) (fun c => ok_if (fun c2 => ?_) (fun c2 => ok_if (fun c3 => ?_) (fun c3 => ?_)))
  · unfold kS
    rw [if_pos c, if_pos c]
    exact ok_bind (authC_ok ho r1 hv hw) (fun r h => ok_some h)
  · unfold kS
    rw [if_neg c, if_neg c, if_pos c2, if_pos c2]
    exact ok_some (sg_sub (by omega) (by omega) (by omega) (by omega))
  · unfold kS
    rw [if_neg c, if_neg c, if_neg c2, if_neg c2, if_pos c3, if_pos c3]
    exact ok_some (sg_sub (by omega) (by omega) (by omega) (by omega))
  · unfold kS
    rw [if_neg c, if_neg c, if_neg c2, if_neg c2, if_neg c3, if_neg c3]
    exact ok_some ⟨by decide, by decide, by decide⟩
theorem kD_eq {a : Nat → Nat} {v w j : Nat} (h : kS a j v = kS a j w) : kD a j v = kD a j w := by unfold kD; rw [h]
theorem fin_K {a : Nat → Nat} (ho : OkW a) {v w j : Nat} {r : Int32} (hv : v < a 0) (hw : w < a 0) (hj : j < 3) (he : ∀ k, k < j → kS a k v = kS a k w) (hs : Sg r (kS a j v) (kS a j w)) (hne : kS a j v ≠ kS a j w) : KK2 a v < KK2 a w ↔ (if a (65 + 2 * j) = 1 then 0 < r.toInt else r.toInt < 0) := by
  have k1 := kS_le ho hv j
  have k2 := kS_le ho hw j
  have hd : ∀ k, k < j → kD a k v = kD a k w := fun k hk => kD_eq (he k hk)
  obtain ⟨s1, s2, s3⟩ := hs
  have up : kD a j v < kD a j w → KK2 a v < KK2 a w := K_lt ho hv hw hj hd
  have dn : kD a j w < kD a j v → KK2 a w < KK2 a v := K_lt ho hw hv hj (fun k hk => (hd k hk).symm)
  unfold kD at up dn
  split
  · next e =>
    rw [if_pos e, if_pos e] at up dn
    rw [s3]
    constructor
    · intro h
      rcases Nat.lt_or_gt_of_ne hne with h' | h'
      · have := dn (by omega); omega
      · exact h'
    · intro h; exact up (by omega)
  · next e =>
    rw [if_neg e, if_neg e] at up dn
    rw [s2]
    constructor
    · intro h
      rcases Nat.lt_or_gt_of_ne hne with h' | h'
      · exact h'
      · have := dn h'; omega
    · exact up
theorem precedes_ok {W_n : Int32} {W_ac W_fa W_in W_yr W_ti : Nat → Int32} {S_st S_mi S_fi S_sp S_cl S_nu S_co : Int32} {S_ke S_di : Nat → Int32} {a : Nat → Nat} (ho : OkW a) (he : OkE a) (r1 : RW W_n W_ac W_fa W_in W_yr W_ti a) (r2 : RS S_st S_mi S_fi S_sp S_cl S_nu S_co S_ke S_di a) {v w : Nat} (hv : v < a 0) (hw : w < a 0) : m_X0_precedes W_ac W_fa W_in W_yr W_ti S_ke S_di (nI v) (nI w) = some (if KK2 a v < KK2 a w then 1 else 0) := by
  have h8 := ho.1
  suffices h : OkS (m_X0_precedes W_ac W_fa W_in W_yr W_ti S_ke S_di (nI v) (nI w)) (fun r => r = if KK2 a v < KK2 a w then 1 else 0) by
    obtain ⟨r, h1, h2⟩ := h
    rw [h1, h2]
  unfold m_X0_precedes
  refine ok_bind (Q := fun r => Sum.elim (fun z => ∃ j, j < 3 ∧ z.1 = nI j ∧ (∀ k, k < j → kS a k v = kS a k w) ∧ Sg z.2 (kS a j v) (kS a j w) ∧ kS a j v ≠ kS a j w) (fun _ => ∀ k, k < 3 → kS a k v = kS a k w) r) ?_ ?_
  · refine ok_for (fun j st => st = nI j ∧ ∀ k, k < j → kS a k v = kS a k w) 3 ⟨rfl, fun k hk => absurd hk (by omega)⟩ ?_ ?_ (by omega)
    · rintro j st hj ⟨e1, e2⟩
      subst e1
      unfold m_X0_precedes_B2
      simp (disch := omega) only [lit32, nI_le_iff, ck_nI, tn_nI]
      rw [if_neg (by omega), (r2.2 j hj).1]
      refine ok_bind (cmpC_ok ho r1 hv hw (he.2 j hj).1) (fun r hs => ?_)
      refine ok_if (fun c => ?_) (fun c => ?_)
      · have := (Sg_0 hs).mp c
        refine ok_l ⟨by rw [nI_add], fun k hk => ?_⟩
        by_cases e : k = j
        · subst e; exact this
        · exact e2 k (by omega)
      · exact ok_r ⟨j, hj, rfl, e2, hs, fun e => c ((Sg_0 hs).mpr e)⟩
    · rintro st ⟨e1, e2⟩
      subst e1
      unfold m_X0_precedes_B2
      simp (disch := omega) only [lit32, nI_le_iff]
      rw [if_pos (by omega)]
      exact ok_r e2
  · rintro (⟨z1, z2⟩ | _) h
    · obtain ⟨j, j1, j2, j3, j4, j5⟩ := h
      dsimp only at j2 j4
      subst j2
      have hK := fin_K ho hv hw j1 j3 j4 j5
      have hdi := (he.2 j j1).2
      have hne := fun e => j5 ((Sg_0 j4).mp e)
      have hz : z2.toInt ≠ 0 := fun e => hne (i32_ext e)
      simp only [Sum.elim_inl]
      unfold m_X0_precedes_J39 m_X0_precedes_J56 m_X0_precedes_J64
      simp (disch := omega) only [lit32, ck_nI, tn_nI, (r2.2 j j1).2, nI_eq_iff]
      by_cases e : a (65 + 2 * j) = 1
      · rw [if_pos e] at hK
        by_cases g : 0 ≤ z2.toInt
        · rw [if_pos (by rw [Int32.le_iff_toInt_le]; exact g), if_neg (by omega), if_pos trivial, if_pos (hK.mpr (by omega))]
          exact ok_some rfl
        · rw [if_neg (by rw [Int32.le_iff_toInt_le]; exact g), if_neg (by omega), if_neg (by omega), if_neg (fun q => by have := hK.mp q; omega)]
          exact ok_some rfl
      · rw [if_neg e] at hK
        by_cases g : 0 ≤ z2.toInt
        · rw [if_pos (by rw [Int32.le_iff_toInt_le]; exact g), if_pos (by omega), if_neg (by omega), if_neg (fun q => by have := hK.mp q; omega)]
          exact ok_some rfl
        · rw [if_neg (by rw [Int32.le_iff_toInt_le]; exact g), if_pos (by omega), if_pos trivial, if_pos (hK.mpr (by omega))]
          exact ok_some rfl
    · have hK := K_eq (v := v) (w := w) (fun k hk => kD_eq (h k hk))
      simp only [Sum.elim_inr]
      unfold m_X0_precedes_J81
      by_cases e : w ≤ v
      · rw [if_pos (by rw [nI_le_iff (by omega) (by omega)]; exact e), if_neg (by omega)]
        exact ok_some rfl
      · rw [if_neg (by rw [nI_le_iff (by omega) (by omega)]; exact e), if_pos (by omega)]
        exact ok_some rfl
theorem against_ok {s : Nat → Int32} {a : Nat → Nat} (ho : OkW a) (he : OkE a) (r4 : RM s a) {v w : Nat} (hv : v < a 0) (hw : w < a 0) : OkS (m_X12_against s (nI v) (nI w)) (fun r => r.toInt < 0 ↔ KK2 a v < KK2 a w) := by
  have h8 := ho.1
  obtain ⟨p1, p2, p3, p4⟩ := ho.2 v hv
  obtain ⟨q1, q2, q3, q4⟩ := ho.2 w hw
  unfold m_X12_against
  refine ok_bind (Q := fun r => Sum.elim (fun z => ∃ j, j < 3 ∧ z.1 = nI j ∧ (∀ k, k < j → kS a k v = kS a k w) ∧ Sg z.2 (kS a j v) (kS a j w) ∧ kS a j v ≠ kS a j w) (fun _ => ∀ k, k < 3 → kS a k v = kS a k w) r) ?_ ?_
  · refine ok_for (fun j st => st = nI j ∧ ∀ k, k < j → kS a k v = kS a k w) 3 ⟨rfl, fun k hk => absurd hk (by omega)⟩ ?_ ?_ (by omega)
    · rintro j st hj ⟨e1, e2⟩
      subst e1
      have key : ∀ r, Sg r (kS a j v) (kS a j w) → OkS (m_X12_against_J76 (nI v) (nI w) (nI j) r) (Sum.elim (fun st => st = nI (j + 1) ∧ ∀ k, k < j + 1 → kS a k v = kS a k w) (fun r => Sum.elim (fun z => ∃ j, j < 3 ∧ z.1 = nI j ∧ (∀ k, k < j → kS a k v = kS a k w) ∧ Sg z.2 (kS a j v) (kS a j w) ∧ kS a j v ≠ kS a j w) (fun _ => ∀ k, k < 3 → kS a k v = kS a k w) r)) := by
        intro r hs
        unfold m_X12_against_J76
        refine ok_if (fun c => ?_) (fun c => ?_)
        · have := (Sg_0 hs).mp c
          refine ok_l ⟨by rw [show (1 : Int32) = nI 1 from rfl, nI_add], fun k hk => ?_⟩
          by_cases e : k = j
          · subst e; exact this
          · exact e2 k (by omega)
        · exact ok_r ⟨j, hj, rfl, e2, hs, fun e => c ((Sg_0 hs).mpr e)⟩
      have hk3 := (he.2 j hj).1
      unfold m_X12_against_B2
      simp (disch := omega) only [lit32, nI_le_iff, nI_mul, nI_add, ck_nI, tn_nI, r4 (64 + 2 * j) (by omega), nI_eq_iff]
      rw [if_neg (by omega), yearM r4 (by omega), bd, yearM r4 (by omega), bd, titleM r4 (by omega), bd, titleM r4 (by omega), bd]
      refine ok_if (fun c => ?_) (fun c => ok_if (fun c2 => ?_) (fun c2 => ok_if (fun c3 => ?_) (fun c3 => ?_)))
      · refine ok_bind (authM_ok ho r4 hv hw) (fun r hs => key r ?_)
        unfold kS
        rw [if_pos c, if_pos c]
        exact hs
      · refine key _ ?_
        unfold kS
        rw [if_neg c, if_neg c, if_pos c2, if_pos c2]
        exact sg_sub (by omega) (by omega) (by omega) (by omega)
      · refine key _ ?_
        unfold kS
        rw [if_neg c, if_neg c, if_neg c2, if_neg c2, if_pos c3, if_pos c3]
        exact sg_sub (by omega) (by omega) (by omega) (by omega)
      · refine key _ ?_
        unfold kS
        rw [if_neg c, if_neg c, if_neg c2, if_neg c2, if_neg c3, if_neg c3]
        exact ⟨by decide, by decide, by decide⟩
    · rintro st ⟨e1, e2⟩
      subst e1
      unfold m_X12_against_B2
      simp (disch := omega) only [lit32, nI_le_iff]
      rw [if_pos (by omega)]
      exact ok_r e2
  · rintro (⟨z1, z2⟩ | _) h
    · obtain ⟨j, j1, j2, j3, j4, j5⟩ := h
      dsimp only at j2 j4
      subst j2
      have hK := fin_K ho hv hw j1 j3 j4 j5
      have hdi := (he.2 j j1).2
      simp only [Sum.elim_inl]
      unfold m_X12_against_J108
      simp (disch := omega) only [lit32, nI_mul, nI_add, ck_nI, tn_nI, show 64 + 2 * j + 1 = 65 + 2 * j by omega, r4 (65 + 2 * j) (by omega), nI_eq_iff]
      have hb := j4.1
      by_cases e : a (65 + 2 * j) = 1
      · rw [if_pos e]
        rw [if_pos e] at hK
        refine ok_some ?_
        rw [hK, Int32.toInt_neg, Int.bmod_eq_of_le (by omega) (by omega)]
        omega
      · rw [if_neg e]
        rw [if_neg e] at hK
        exact ok_some hK.symm
    · have hK := K_eq (v := v) (w := w) (fun k hk => kD_eq (h k hk))
      simp only [Sum.elim_inr]
      refine ok_some ?_
      rw [hK, sub_toInt (by omega) (by omega)]
      omega
