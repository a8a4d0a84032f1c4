/-! ===== groups: the lowest work with the same label ===== -/
def IsG (l : Nat → Nat → Bool) (w x : Nat) : Prop := x ≤ w ∧ l x w = true ∧ ∀ u, u < x → l u w = false
theorem groupsM_ok {s : Nat → Int32} {a sh ini sx : Nat → Nat} (ho : OkW a) (r4 : RM s a) {M_sh M_in M_su : Nat → Int32} (hM : LbM a sh ini sx M_sh M_in M_su) (hO : LbO a sh ini sx) (M_gr : Nat → Int32) : OkS (m_X12_layGroups s M_sh M_in M_su M_gr) (fun o => ∃ gr : Nat → Nat, ∀ w, w < a 0 → o w = nI (gr w) ∧ IsG (lab a sh ini sx) w (gr w)) := by
  have h8 := ho.1
  unfold m_X12_layGroups
  refine ok_bind (Q := fun o => ∃ gr : Nat → Nat, ∀ w, w < a 0 → o w = nI (gr w) ∧ IsG (lab a sh ini sx) w (gr w)) ?_ (fun r h => ok_some h)
  refine ok_for (fun i st => st.1 = nI i ∧ ∃ gr : Nat → Nat, ∀ w, w < i → st.2 w = nI (gr w) ∧ IsG (lab a sh ini sx) w (gr w)) (a 0) ⟨rfl, fun _ => 0, fun w hw => absurd hw (by omega)⟩ ?_ ?_ (by omega)
  · rintro i ⟨s1, s2⟩ hi ⟨e1, gr, e2⟩
    dsimp only at e1 e2
    subst e1
    unfold m_X12_layGroups_B2
    rw [ck_lit (by decide) (by decide), show Int32.toNatClampNeg 0 = 0 from rfl, r4 0 (by omega)]
    dsimp only
    rw [if_neg (by rw [nI_le_iff (by omega) (by omega)]; omega), ck_nI (by omega) (by omega), tn_nI (by omega)]
    refine ok_bind (Q := fun o => (∀ w, w < i → o w = s2 w) ∧ ∃ x, o i = nI x ∧ IsG (lab a sh ini sx) i x) ?_ ?_
    · refine ok_for (fun k st => st.1.toInt = (i : Int) - 1 - k ∧ (∀ w, w < i → st.2 w = s2 w) ∧ ∃ x, st.2 i = nI x ∧ x ≤ i ∧ i ≤ x + k ∧ lab a sh ini sx x i = true ∧ ∀ u, i ≤ u + k → u < x → lab a sh ini sx u i = false) i ⟨?_, fun w hw => upd_ne _ _ (by omega), i, upd_eq _ _ _, Nat.le_refl _, by omega, lab_rfl _ _ _ _ _, fun u h1 h2 => absurd h1 (by omega)⟩ ?_ ?_ (by omega)
      · show (nI i - nI 1).toInt = _
        rw [sub_toInt (by omega) (by omega)]
        omega
      · rintro k ⟨t1, t2⟩ hk ⟨f1, f2, x, f3, f4, f5, f6, f7⟩
        dsimp only at f1 f2 f3
        have ht1 : t1 = nI (i - 1 - k) := i32_ext (by rw [f1, nI_toI (by omega)]; omega)
        subst ht1
        unfold m_X12_layGroups_B23 m_X12_layGroups_J51
        dsimp only
        rw [if_neg (by rw [Int32.lt_iff_toInt_lt, f1, show (0 : Int32).toInt = 0 from rfl]; omega), labelM_ok ho r4 hM hO (by omega) hi, bd, ck_nI (by omega) (by omega), ck_nI (by omega) (by omega), tn_nI (by omega)]
        have hdec : (nI (i - 1 - k) + (-1)).toInt = (i : Int) - 1 - (k + 1 : Nat) := by
          rw [Int32.toInt_add, f1, show (-1 : Int32).toInt = -1 from rfl, Int.bmod_eq_of_le (by omega) (by omega)]
          omega
        cases hl : lab a sh ini sx (i - 1 - k) i
        · rw [if_pos (by decide)]
          refine ok_l ⟨hdec, fun w hw => ?_, x, ?_, f4, by omega, f6, fun u hu hux => ?_⟩
          · dsimp only; rw [upd_ne _ _ (by omega)]; exact f2 w hw
          · dsimp only; rw [upd_eq]; exact f3
          · by_cases e : u = i - 1 - k
            · rw [e]; exact hl
            · exact f7 u (by omega) hux
        · rw [if_neg (by decide), ck_nI (by omega) (by omega)]
          refine ok_l ⟨hdec, fun w hw => ?_, i - 1 - k, ?_, by omega, by omega, hl, fun u hu hux => absurd hux (by omega)⟩
          · dsimp only; rw [upd_ne _ _ (by omega)]; exact f2 w hw
          · dsimp only; rw [upd_eq]
      · rintro ⟨t1, t2⟩ ⟨f1, f2, x, f3, f4, f5, f6, f7⟩
        dsimp only at f1 f2 f3
        unfold m_X12_layGroups_B23
        dsimp only
        rw [if_pos (by rw [Int32.lt_iff_toInt_lt, f1, show (0 : Int32).toInt = 0 from rfl]; omega)]
        exact ok_r ⟨f2, x, f3, f4, f6, fun u hu => f7 u (by omega) hu⟩
    · rintro o ⟨o1, x, o2, o3⟩
      refine ok_l ⟨nI_s _, upN gr i x, fun w hw => ?_⟩
      dsimp only
      by_cases e : w = i
      · subst e
        rw [upN_eq]
        exact ⟨o2, o3⟩
      · rw [upN_ne _ _ e, o1 w (by omega)]
        exact e2 w (by omega)
  · rintro ⟨s1, s2⟩ ⟨e1, gr, e2⟩
    dsimp only at e1 e2
    subst e1
    unfold m_X12_layGroups_B2
    rw [ck_lit (by decide) (by decide), show Int32.toNatClampNeg 0 = 0 from rfl, r4 0 (by omega)]
    dsimp only
    rw [if_pos (by rw [nI_le_iff (by omega) (by omega)]; omega)]
    exact ok_r ⟨gr, e2⟩
theorem gr_iff {a sh ini sx gr : Nat → Nat} (h : ∀ w, w < a 0 → IsG (lab a sh ini sx) w (gr w)) {v w : Nat} (hv : v < a 0) (hw : w < a 0) : gr v = gr w ↔ lab a sh ini sx v w = true := by
  obtain ⟨v1, v2, v3⟩ := h v hv
  obtain ⟨w1, w2, w3⟩ := h w hw
  constructor
  · intro e
    rw [e] at v2
    rw [lab_sym] at v2
    rw [lab_tr w2 v] at v2
    exact v2
  · intro e
    rcases Nat.lt_trichotomy (gr v) (gr w) with hh | hh | hh
    · have := w3 _ hh
      rw [← lab_tr e (gr v), v2] at this
      exact absurd this (by decide)
    · exact hh
    · have := v3 _ hh
      rw [lab_tr e (gr w), w2] at this
      exact absurd this (by decide)
theorem cnt_pos {p : Nat → Bool} : ∀ n, 0 < cnt p n → ∃ i, i < n ∧ p i = true := by
  intro n
  induction n with
  | zero => intro h; exact absurd h (Nat.lt_irrefl 0)
  | succ n ih =>
    intro h
    by_cases c : p n = true
    · exact ⟨n, by omega, c⟩
    · rw [cnt_s, if_neg c] at h
      obtain ⟨i, h1, h2⟩ := ih (by omega)
      exact ⟨i, by omega, h2⟩
theorem cnt_two {p : Nat → Bool} : ∀ n, 1 < cnt p n ↔ ∃ i j, i < j ∧ j < n ∧ p i = true ∧ p j = true := by
  intro n
  induction n with
  | zero => exact ⟨fun h => absurd (show 1 < 0 from h) (by omega), fun ⟨i, j, h1, h2, _⟩ => absurd h2 (by omega)⟩
  | succ n ih =>
    rw [cnt_s]
    by_cases c : p n = true
    · rw [if_pos c]
      constructor
      · intro h
        have h0 : 0 < cnt p n := by omega
        obtain ⟨i, h1, h2⟩ := cnt_pos n h0
        exact ⟨i, n, h1, Nat.lt_succ_self n, h2, c⟩
      · rintro ⟨i, j, h1, h2, h3, h4⟩
        have : 0 < cnt p n := by
          have hs := cnt_strict (p := fun _ => false) (q := p) (v := i) rfl h3 n (by omega) (fun _ _ h => absurd h (by decide))
          omega
        omega
    · rw [if_neg c, Nat.add_zero, ih]
      constructor
      · rintro ⟨i, j, h1, h2, h3⟩
        exact ⟨i, j, h1, by omega, h3⟩
      · rintro ⟨i, j, h1, h2, h3, h4⟩
        have : j ≠ n := fun e => c (by rw [← e]; exact h4)
        exact ⟨i, j, h1, by omega, h3, h4⟩
theorem size_ok {s : Nat → Int32} {a gr : Nat → Nat} (ho : OkW a) (r4 : RM s a) {M_gr : Nat → Int32} (hG : ∀ w, w < a 0 → M_gr w = nI (gr w) ∧ gr w < 8) {g : Nat} (hg : g < 8) : m_X12_sizeOf s M_gr (nI g) = some (nI (cnt (fun w => decide (gr w = g)) (a 0))) := by
  have h8 := ho.1
  unfold m_X12_sizeOf
  rw [show ((0 : Int32), (0 : Int32)) = (fun i => (nI (cnt (fun w => decide (gr w = g)) i), nI i)) 0 from rfl, it_run (fun i => (nI (cnt (fun w => decide (gr w = g)) i), nI i)) (a 0) (nI (cnt (fun w => decide (gr w = g)) (a 0))) ?_ ?_ (by omega)]
  · rfl
  · intro i hi
    have hgi := hG i hi
    unfold m_X12_sizeOf_B4 m_X12_sizeOf_J30
    simp (disch := omega) only [lit32, ck_nI, tn_nI, r4 0 (by omega), nI_le_iff, hgi.1, nI_eq_iff, nI_add]
    rw [if_neg (by omega), cnt_s]
    by_cases c : gr i = g
    · rw [if_pos c, if_pos (decide_eq_true c)]
    · rw [if_neg c, if_neg (by rw [decide_eq_true_eq]; exact c)]
  · unfold m_X12_sizeOf_B4
    simp (disch := omega) only [lit32, ck_nI, tn_nI, r4 0 (by omega), nI_le_iff]
    rw [if_pos (by omega)]
theorem first_ok {a sh ini sx gr : Nat → Nat} (ho : OkW a) (hG : ∀ w, w < a 0 → IsG (lab a sh ini sx) w (gr w)) {L_gr : Nat → Int32} {w : Nat} (hw : w < a 0) (hx : SB (a 0) (L_gr w) (lab a sh ini sx w)) : m_X3_isFirstOfGroup L_gr (nI w) = some (if 1 < cnt (fun v => decide (gr v = w)) (a 0) then 1 else 0) ∧ (1 < cnt (fun v => decide (gr v = w)) (a 0) → SB (a 0) (L_gr w) (fun v => decide (gr v = w))) := by
  have h8 := ho.1
  have hb : (∀ i, i < w → bt (L_gr w) i = false) ↔ gr w = w := by
    constructor
    · intro h
      obtain ⟨g1, g2, g3⟩ := hG w hw
      rcases Nat.lt_or_ge (gr w) w with e | e
      · have := h _ e
        rw [SB_at hx (by omega) h8, lab_sym, g2] at this
        exact absurd this (by decide)
      · omega
    · intro h i hi
      obtain ⟨g1, g2, g3⟩ := hG w hw
      rw [SB_at hx (by omega) h8, lab_sym]
      exact g3 i (by omega)
  have hone : L_gr w = (1 <<< (nI w &&& 31)) ↔ ∀ i, i < a 0 → lab a sh ini sx w i = true → i = w := by
    rw [one_iff (by omega)]
    constructor
    · intro h i hi hl
      have := h i (by omega)
      rw [SB_at hx hi h8, hl] at this
      exact of_decide_eq_true this.symm
    · intro h i hi
      rw [hx i hi]
      by_cases e : i = w
      · subst e; rw [lab_rfl, decide_eq_true hw, decide_eq_true rfl]; rfl
      · rw [decide_eq_false e]
        by_cases e2 : i < a 0
        · cases hl : lab a sh ini sx w i
          · rw [Bool.and_false]
          · exact absurd (h i e2 hl) e
        · rw [decide_eq_false e2, Bool.false_and]
  have hcount : 1 < cnt (fun v => decide (gr v = w)) (a 0) ↔ (gr w = w ∧ ¬ ∀ i, i < a 0 → lab a sh ini sx w i = true → i = w) := by
    rw [cnt_two]
    constructor
    · rintro ⟨i, j, h1, h2, h3, h4⟩
      have h3 := of_decide_eq_true h3
      have h4 := of_decide_eq_true h4
      have l3 : lab a sh ini sx w i = true := by have := (hG i (by omega)).2.1; rw [h3] at this; exact this
      have l4 : lab a sh ini sx w j = true := by have := (hG j (by omega)).2.1; rw [h4] at this; exact this
      refine ⟨by rw [(gr_iff hG hw (by omega : i < a 0)).mpr l3]; exact h3, fun hh => ?_⟩
      have e1 := hh i (by omega) l3
      have e2 := hh j (by omega) l4
      omega
    · rintro ⟨h1, h2⟩
      have ⟨i, hi, hl, hne⟩ : ∃ i, i < a 0 ∧ lab a sh ini sx w i = true ∧ i ≠ w := by
        apply Classical.byContradiction
        intro hc
        exact h2 (fun i hi hl => Classical.byContradiction (fun hne => hc ⟨i, hi, hl, hne⟩))
      have gi : gr i = w := by rw [← (gr_iff hG hw hi).mpr hl]; exact h1
      rcases Nat.lt_or_gt_of_ne hne with h | h
      · exact ⟨i, w, h, hw, decide_eq_true gi, decide_eq_true h1⟩
      · exact ⟨w, i, h, hi, decide_eq_true h1, decide_eq_true gi⟩
  constructor
  · unfold m_X3_isFirstOfGroup m_X3_isFirstOfGroup_J29 m_X3_isFirstOfGroup_J30
    rw [ck_nI (by omega) (by omega), ck_nI (by omega) (by omega), tn_nI (by omega), ckb_0, ckb_1]
    by_cases c1 : L_gr w = (1 <<< (nI w &&& 31))
    · rw [if_pos c1, if_neg (fun h => (hcount.mp h).2 (hone.mp c1))]
    · rw [if_neg c1]
      rcases below_ok (x := L_gr w) (w := w) (by omega) with ⟨b1, b2⟩ | ⟨b1, b2⟩
      · rw [b2, bd, if_pos rfl, if_pos (hcount.mpr ⟨hb.mp b1, fun h => c1 (hone.mpr h)⟩)]
      · rw [b2, bd, if_neg (by decide), if_neg (fun h => b1 (hb.mpr (hcount.mp h).1))]
  · intro h i hi
    rw [hx i hi]
    by_cases e : i < a 0
    · congr 1
      have h1 := (hcount.mp h).1
      have h2 := gr_iff hG hw e
      rw [h1] at h2
      cases hl : lab a sh ini sx w i
      · rw [hl] at h2
        exact (decide_eq_false (fun h => absurd (h2.mp h.symm) (by decide))).symm
      · exact (decide_eq_true (h2.mpr hl).symm).symm
    · rw [decide_eq_false e, Bool.false_and, Bool.false_and]
