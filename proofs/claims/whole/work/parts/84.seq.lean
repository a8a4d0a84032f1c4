/-! ===== the works of a citation in the order in which they are rendered ===== -/
theorem rankM_ok {a nm : Nat → Nat} {od nu li bo bn s : Nat → Int32} (ho : Ok a) (r4 : RM s a) (h : AR a nm od nu li bo bn) {w : Nat} (hw : w < a 0) : m_X12_rankOf s bo bn (nI w) = some (nI (rk a nm w)) := by
  have h8 := ho.1.1
  have h2 := ho.2.1.1.1
  unfold m_X12_rankOf m_X12_rankOf_J32
  simp (disch := omega) only [lit32, ck_nI, tn_nI, r4 57 (by omega), nI_eq_iff]
  rw [placeBn h8 h hw, placeBo ho.1 h hw, bd, bd]
  unfold rk
  split <;> rfl
theorem citesC_ok {C_n : Int32} {C_sz C_cd : Nat → Int32} {a : Nat → Nat} (ho : OkC a) (h8 : a 0 ≤ 8) (r3 : RT C_n C_sz C_cd a) {c w : Nat} (hc : c < a 70) (hw : w < 8) : ((∃ j, j < a (71 + 6 * c) ∧ a (72 + 6 * c + j) = w) ∧ m_X1_cites C_sz C_cd (nI c) (nI w) = some 1) ∨ ((∀ j, j < a (71 + 6 * c) → a (72 + 6 * c + j) ≠ w) ∧ m_X1_cites C_sz C_cd (nI c) (nI w) = some 0) := by
  have h10 := ho.1
  obtain ⟨q1, q2, q3⟩ := ho.2 c hc
  obtain ⟨z1, z2⟩ := r3.2 c hc
  have : OkS (it (m_X1_cites_B2 (nI c) (nI w) C_sz C_cd) fu 0) (fun r => Sum.elim (fun _ => ∃ j, j < a (71 + 6 * c) ∧ a (72 + 6 * c + j) = w) (fun _ => ∀ j, j < a (71 + 6 * c) → a (72 + 6 * c + j) ≠ w) r) := by
    refine ok_for (fun i st => st = nI i ∧ ∀ j, j < i → a (72 + 6 * c + j) ≠ w) (a (71 + 6 * c)) ⟨rfl, fun j hj => absurd hj (by omega)⟩ ?_ ?_ (by omega)
    · rintro i st hi ⟨e1, e2⟩
      subst e1
      have := q2 i hi
      unfold m_X1_cites_B2
      rw [ck_nI (by omega) (by omega), tn_nI (by omega), z1, if_neg (by rw [nI_le_iff (by omega) (by omega)]; omega), workAt_ok (by omega), bd, z2 i hi, nI_s]
      by_cases e : a (72 + 6 * c + i) = w
      · rw [if_pos (by rw [e])]
        exact ok_r ⟨i, hi, e⟩
      · rw [if_neg (by rw [nI_eq_iff (by omega) (by omega)]; exact e)]
        refine ok_l ⟨rfl, fun j hj => ?_⟩
        by_cases e' : j = i
        · rw [e']; exact e
        · exact e2 j (by omega)
    · rintro st ⟨e1, e2⟩
      subst e1
      unfold m_X1_cites_B2
      rw [ck_nI (by omega) (by omega), tn_nI (by omega), z1, if_pos (by rw [nI_le_iff (by omega) (by omega)]; omega)]
      exact ok_r e2
  obtain ⟨r, h1, h2⟩ := this
  unfold m_X1_cites
  rw [h1, bd]
  cases r with
  | inl u => exact Or.inl ⟨h2, rfl⟩
  | inr u => exact Or.inr ⟨h2, rfl⟩
theorem addSeq_ok {se : Nat → Int32} {n : Nat} (hn : n < 5) (x : Int32) : m_X5_addToSequence se (nI n) x = some (upd se n x, nI (n + 1)) := by
  unfold m_X5_addToSequence m_X5_addToSequence_J28
  rw [if_neg (by rw [show (5 : Int32) = nI 5 from rfl, nI_le_iff (by omega) (by omega)]; omega), ck_nI (by omega) (by omega), tn_nI (by omega), nI_s]
theorem seqA2 {W_n : Int32} {C_n : Int32} {C_sz C_cd s bo bn : Nat → Int32} {a : Nat → Nat} (hoC : OkC a) (r3 : RT C_n C_sz C_cd a) (r4 : RM s a) {c : Nat} (hc : c < a 70) (h63 : a 63 = 0) (A_li E_se M_ro : Nat → Int32) (E_sn : Int32) : Ok2 (m_X5_putInSequence W_n 0 C_sz C_cd A_li E_se E_sn (nI c)) (m_X12_layRow s bo bn M_ro (nI c)) (fun u v => u.2 = nI (a (71 + 6 * c)) ∧ ∀ i, i < a (71 + 6 * c) → u.1 i = nI (a (72 + 6 * c + i)) ∧ v i = nI (a (72 + 6 * c + i))) := by
  have h10 := hoC.1
  obtain ⟨q1, q2, q3⟩ := hoC.2 c hc
  obtain ⟨z1, z2⟩ := r3.2 c hc
  unfold m_X5_putInSequence m_X12_layRow
  rw [if_pos rfl]
  refine ok2_bind (Q := fun u v => u.2 = nI (a (71 + 6 * c)) ∧ ∀ i, i < a (71 + 6 * c) → u.1 i = nI (a (72 + 6 * c + i)) ∧ v i = nI (a (72 + 6 * c + i))) ?_ (fun u v h => ok2_some h)
  refine ok2_for (fun k st tt => st.1 = nI k ∧ tt.1 = nI k ∧ st.2.2 = nI k ∧ ∀ i, i < k → st.2.1 i = nI (a (72 + 6 * c + i)) ∧ tt.2 i = nI (a (72 + 6 * c + i))) (a (71 + 6 * c)) ⟨rfl, rfl, rfl, fun i hi => absurd hi (by omega)⟩ ?_ ?_ (by omega)
  · rintro k ⟨c1, c2, c3⟩ ⟨t1, t2⟩ hk ⟨e1, e2, e3, e4⟩
    dsimp only at e1 e2 e3 e4
    subst e1 e2 e3
    have st : it (m_X12_layRow_B13 (nI c) (nI k) s bo bn) fu (nI k, t2) = some (nI k, t2) := by
      show it (m_X12_layRow_B13 (nI c) (nI k) s bo bn) (1999 + 1) (nI k, t2) = _
      rw [it_succ]
      unfold m_X12_layRow_B13
      rw [ck_lit (by decide) (by decide), show Int32.toNatClampNeg 63 = 63 from rfl, r4 63 (by omega), h63, if_neg (by decide), bd]
      rfl
    unfold m_X5_putInSequence_B17 m_X12_layRow_B2
    rw [ck_nI (by omega) (by omega), tn_nI (by omega), z1, citesM_ok r4 (by omega), bd]
    have hk' : ¬ (nI (a (71 + 6 * c)) ≤ nI k) := by rw [nI_le_iff (by omega) (by omega)]; omega
    dsimp only
    rw [if_neg hk', if_neg hk', workAt_ok (by omega), bd, z2 k hk, addSeq_ok (by omega), bd, st, bd, cited_ok r4 (by omega), bd, ck_nI (by omega) (by omega), tn_nI (by omega), nI_s]
    refine ok2_il ⟨rfl, rfl, rfl, fun i hi => ?_⟩
    dsimp only
    by_cases e : i = k
    · subst e; rw [upd_eq, upd_eq]; exact ⟨rfl, rfl⟩
    · rw [upd_ne _ _ e, upd_ne _ _ e]; exact e4 i (by omega)
  · rintro ⟨c1, c2, c3⟩ ⟨t1, t2⟩ ⟨e1, e2, e3, e4⟩
    dsimp only at e1 e2 e3 e4
    subst e1 e2 e3
    unfold m_X5_putInSequence_B17 m_X12_layRow_B2
    rw [ck_nI (by omega) (by omega), tn_nI (by omega), z1, citesM_ok r4 (by omega), bd]
    have hk' : nI (a (71 + 6 * c)) ≤ nI (a (71 + 6 * c)) := by rw [nI_le_iff (by omega) (by omega)]; omega
    dsimp only
    rw [if_pos hk', if_pos hk']
    exact ok2_ir ⟨rfl, e4⟩
/-- how many of the first k lie below -/
def psn (r : Nat → Nat) (k j : Nat) : Nat := cnt (fun l => decide (r l < r j)) k
theorem ps_lt {r : Nat → Nat} {k j : Nat} (hj : j < k) : psn r k j < k := cnt_lt (w := j) (by simp) _ hj
theorem ps_mono {r : Nat → Nat} {k i j : Nat} (hi : i < k) (h : r i < r j) : psn r k i < psn r k j := cnt_strict (v := i) (by simp) (by simpa using h) _ hi (fun l _ hl => by simp only [decide_eq_true_eq] at hl ⊢; omega)
theorem ps_inj {r : Nat → Nat} {k : Nat} (hr : ∀ i j, i < k → j < k → r i = r j → i = j) {i j : Nat} (hi : i < k) (hj : j < k) (h : psn r k i = psn r k j) : i = j := by
  apply hr i j hi hj
  rcases Nat.lt_trichotomy (r i) (r j) with h' | h' | h'
  · have := ps_mono (k := k) hi h'; omega
  · exact h'
  · have := ps_mono (k := k) hj h'; omega
theorem ps_sur {r : Nat → Nat} {k : Nat} (hr : ∀ i j, i < k → j < k → r i = r j → i = j) {p : Nat} (hp : p < k) : ∃ j, j < k ∧ psn r k j = p := pigeon k (psn r k) (fun i hi => ps_lt hi) (fun i j hi hj h => ps_inj hr hi hj h) p hp
theorem seqC_ok {a nm : Nat → Nat} {W_n : Int32} {od nu li bo bn : Nat → Int32} {C_n : Int32} {C_sz C_cd : Nat → Int32} (ho : Ok a) (hWn : W_n = nI (a 0)) (r3 : RT C_n C_sz C_cd a) (h : AR a nm od nu li bo bn) {c : Nat} (hc : c < a 70) (E_se : Nat → Int32) (E_sn : Int32) : OkS (m_X5_putInSequence W_n 1 C_sz C_cd li E_se E_sn (nI c)) (fun u => u.2 = nI (a (71 + 6 * c)) ∧ ∀ j, j < a (71 + 6 * c) → u.1 (psn (fun l => rk a nm (a (72 + 6 * c + l))) (a (71 + 6 * c)) j) = nI (a (72 + 6 * c + j))) := by
  have h8 := ho.1.1
  have h10 := ho.2.2.1
  obtain ⟨q1, q2, q3⟩ := ho.2.2.2 c hc
  have hr : ∀ i j, i < a (71 + 6 * c) → j < a (71 + 6 * c) → rk a nm (a (72 + 6 * c + i)) = rk a nm (a (72 + 6 * c + j)) → i = j := by
    intro i j hi hj e
    have := rk_inj ho.1 h (q2 i hi) (q2 j hj) e
    rcases Nat.lt_trichotomy i j with g | g | g
    · exact absurd this (q3 i j g hj)
    · exact g
    · exact absurd this.symm (q3 j i g hi)
  unfold m_X5_putInSequence
  rw [if_neg (by decide)]
  refine ok_bind (Q := fun u => u.2 = nI (a (71 + 6 * c)) ∧ ∀ j, j < a (71 + 6 * c) → u.1 (psn (fun l => rk a nm (a (72 + 6 * c + l))) (a (71 + 6 * c)) j) = nI (a (72 + 6 * c + j))) ?_ (fun r h => ok_some h)
  refine ok_for (fun p st => st.1 = nI p ∧ st.2.2 = nI (cnt (fun l => decide (rk a nm (a (72 + 6 * c + l)) < p)) (a (71 + 6 * c))) ∧ ∀ j, j < a (71 + 6 * c) → rk a nm (a (72 + 6 * c + j)) < p → st.2.1 (psn (fun l => rk a nm (a (72 + 6 * c + l))) (a (71 + 6 * c)) j) = nI (a (72 + 6 * c + j))) (a 0) ⟨rfl, by rw [cnt_none _ (fun i _ => decide_eq_false (by omega))]; rfl, fun j hj hp => absurd hp (by omega)⟩ ?_ ?_ (by omega)
  · rintro p ⟨s1, s2, s3⟩ hp ⟨e1, e2, e3⟩
    dsimp only at e1 e2 e3
    subst e1 e2
    obtain ⟨w, hw, rfl⟩ := rk_sur ho.1 h hp
    unfold m_X5_putInSequence_B52 m_X5_putInSequence_J96
    rw [hWn, if_neg (by rw [nI_le_iff (by omega) (by omega)]; omega), ck_nI (by omega) (by omega), ck_nI (by omega) (by omega), tn_nI (by omega), li_at h hw]
    rcases citesC_ok ho.2.2 h8 r3 hc (show w < 8 by omega) with ⟨⟨j, hj, ej⟩, f⟩ | ⟨ne, f⟩
    · have hlt : cnt (fun l => decide (rk a nm (a (72 + 6 * c + l)) < rk a nm w)) (a (71 + 6 * c)) < a (71 + 6 * c) := cnt_lt (w := j) (by rw [ej]; simp) _ hj
      have hup : cnt (fun l => decide (rk a nm (a (72 + 6 * c + l)) < rk a nm w + 1)) (a (71 + 6 * c)) = cnt (fun l => decide (rk a nm (a (72 + 6 * c + l)) < rk a nm w)) (a (71 + 6 * c)) + 1 := cnt_up (w := j) (by rw [ej]; simp) (by rw [ej]; simp) _ hj (fun i hi hne => by
        have : rk a nm (a (72 + 6 * c + i)) ≠ rk a nm w := fun e => hne (hr i j hi hj (by rw [ej]; exact e))
        exact decide_eq_decide.mpr (by omega))
      have hps : psn (fun l => rk a nm (a (72 + 6 * c + l))) (a (71 + 6 * c)) j = cnt (fun l => decide (rk a nm (a (72 + 6 * c + l)) < rk a nm w)) (a (71 + 6 * c)) := by simp only [psn, ej]
      rw [f, bd, if_neg (by decide), addSeq_ok (by omega), bd, nI_s]
      refine ok_l ⟨rfl, by dsimp only; rw [hup], fun i hi hlt' => ?_⟩
      dsimp only
      by_cases e : i = j
      · subst e; rw [hps, upd_eq, ej]
      · have hne : rk a nm (a (72 + 6 * c + i)) ≠ rk a nm w := fun e' => e (hr i j hi hj (by rw [ej]; exact e'))
        rw [upd_ne _ _ (by rw [← hps]; exact fun e' => e (ps_inj hr hi hj e'))]
        exact e3 i hi (by omega)
    · have hsame : cnt (fun l => decide (rk a nm (a (72 + 6 * c + l)) < rk a nm w + 1)) (a (71 + 6 * c)) = cnt (fun l => decide (rk a nm (a (72 + 6 * c + l)) < rk a nm w)) (a (71 + 6 * c)) := cnt_cg _ (fun i hi => by
        have : rk a nm (a (72 + 6 * c + i)) ≠ rk a nm w := fun e => ne i hi (rk_inj ho.1 h (q2 i hi) hw e)
        exact decide_eq_decide.mpr (by omega))
      rw [f, bd, if_pos rfl, nI_s]
      refine ok_l ⟨rfl, by dsimp only; rw [hsame], fun i hi hlt' => ?_⟩
      have : rk a nm (a (72 + 6 * c + i)) ≠ rk a nm w := fun e => ne i hi (rk_inj ho.1 h (q2 i hi) hw e)
      exact e3 i hi (by omega)
  · rintro ⟨s1, s2, s3⟩ ⟨e1, e2, e3⟩
    dsimp only at e1 e2 e3
    subst e1 e2
    unfold m_X5_putInSequence_B52
    rw [hWn, if_pos (by rw [nI_le_iff (by omega) (by omega)]; omega)]
    refine ok_r ⟨by dsimp only; rw [cnt_full _ (fun i hi => decide_eq_true (rk_lt h (q2 i hi)))], fun j hj => e3 j hj (rk_lt h (q2 j hj))⟩
theorem rowM_ok {a nm : Nat → Nat} {od nu li bo bn s : Nat → Int32} (ho : Ok a) (r4 : RM s a) (h : AR a nm od nu li bo bn) {c : Nat} (hc : c < a 70) (h63 : a 63 = 1) (M_ro : Nat → Int32) : OkS (m_X12_layRow s bo bn M_ro (nI c)) (fun v => ∀ j, j < a (71 + 6 * c) → v (psn (fun l => rk a nm (a (72 + 6 * c + l))) (a (71 + 6 * c)) j) = nI (a (72 + 6 * c + j))) := by
  have h8 := ho.1.1
  have h10 := ho.2.2.1
  obtain ⟨q1, q2, q3⟩ := ho.2.2.2 c hc
  have hr : ∀ i j, i < a (71 + 6 * c) → j < a (71 + 6 * c) → rk a nm (a (72 + 6 * c + i)) = rk a nm (a (72 + 6 * c + j)) → i = j := by
    intro i j hi hj e
    have := rk_inj ho.1 h (q2 i hi) (q2 j hj) e
    rcases Nat.lt_trichotomy i j with g | g | g
    · exact absurd this (q3 i j g hj)
    · exact g
    · exact absurd this.symm (q3 j i g hi)
  have hrk : ∀ i, i < a (71 + 6 * c) → rk a nm (a (72 + 6 * c + i)) < 8 := fun i hi => by have := rk_lt h (q2 i hi); omega
  unfold m_X12_layRow
  refine ok_bind (Q := fun v => ∀ j, j < a (71 + 6 * c) → v (psn (fun l => rk a nm (a (72 + 6 * c + l))) (a (71 + 6 * c)) j) = nI (a (72 + 6 * c + j))) ?_ (fun r h => ok_some h)
  refine ok_for (fun k st => st.1 = nI k ∧ ∀ j, j < k → st.2 (psn (fun l => rk a nm (a (72 + 6 * c + l))) k j) = nI (a (72 + 6 * c + j))) (a (71 + 6 * c)) ⟨rfl, fun j hj => absurd hj (by omega)⟩ ?_ ?_ (by omega)
  · rintro k ⟨s1, s2⟩ hk ⟨e1, e2⟩
    dsimp only at e1 e2
    subst e1
    unfold m_X12_layRow_B2
    rw [citesM_ok r4 (by omega), bd]
    dsimp only
    rw [if_neg (by rw [nI_le_iff (by omega) (by omega)]; omega)]
    have hm : psn (fun l => rk a nm (a (72 + 6 * c + l))) k k ≤ k := cnt_le _ _
    have hrk' : ∀ i j, i < k → j < k → rk a nm (a (72 + 6 * c + i)) = rk a nm (a (72 + 6 * c + j)) → i = j := fun i j hi hj => hr i j (by omega) (by omega)
    refine ok_bind (Q := fun st => st.1 = nI (psn (fun l => rk a nm (a (72 + 6 * c + l))) k k) ∧ ∀ j, j < k → st.2 (if psn (fun l => rk a nm (a (72 + 6 * c + l))) k j < psn (fun l => rk a nm (a (72 + 6 * c + l))) k k then psn (fun l => rk a nm (a (72 + 6 * c + l))) k j else psn (fun l => rk a nm (a (72 + 6 * c + l))) k j + 1) = nI (a (72 + 6 * c + j))) ?_ ?_
    · refine ok_for (fun t st => st.1 = nI (k - t) ∧ ∀ j, j < k → st.2 (if psn (fun l => rk a nm (a (72 + 6 * c + l))) k j < k - t then psn (fun l => rk a nm (a (72 + 6 * c + l))) k j else psn (fun l => rk a nm (a (72 + 6 * c + l))) k j + 1) = nI (a (72 + 6 * c + j))) (k - psn (fun l => rk a nm (a (72 + 6 * c + l))) k k) ⟨rfl, fun j hj => by rw [if_pos (by have := ps_lt (r := fun l => rk a nm (a (72 + 6 * c + l))) hj; omega)]; exact e2 j hj⟩ ?_ ?_ (by omega)
      · rintro t ⟨t1, t2⟩ ht ⟨f1, f2⟩
        dsimp only at f1 f2
        subst f1
        obtain ⟨j, hj, ej⟩ := ps_sur (r := fun l => rk a nm (a (72 + 6 * c + l))) (k := k) hrk' (p := k - t - 1) (by omega)
        have hgt : rk a nm (a (72 + 6 * c + k)) < rk a nm (a (72 + 6 * c + j)) := by
          apply Classical.byContradiction
          intro hn
          have hne : rk a nm (a (72 + 6 * c + j)) ≠ rk a nm (a (72 + 6 * c + k)) := fun e => by have := hr j k (by omega) hk e; omega
          have := ps_mono (r := fun l => rk a nm (a (72 + 6 * c + l))) (k := k) (i := j) (j := k) hj (by omega)
          omega
        have hval := f2 j hj
        rw [ej, if_pos (by omega)] at hval
        have b1 := hrk j (by omega)
        have b2 := hrk k hk
        have b3 := q2 j (by omega)
        unfold m_X12_layRow_B13
        rw [ck_lit (by decide) (by decide), show Int32.toNatClampNeg 63 = 63 from rfl, r4 63 (by omega), h63, if_pos (show nI 1 = 1 from rfl)]
        dsimp only
        rw [if_neg (by rw [show (0 : Int32) = nI 0 from rfl, nI_le_iff (by omega) (by omega)]; omega), show nI (k - t) - 1 = nI (k - t - 1) by rw [show (1 : Int32) = nI 1 from rfl, nI_sub (by omega) (by omega)], ck_nI (by omega) (by omega), tn_nI (by omega), hval, rankM_ok ho r4 h b3, bd, cited_ok r4 (by omega), bd, rankM_ok ho r4 h (q2 k hk), bd, if_neg (by rw [nI_le_iff (by omega) (by omega)]; omega), ck_nI (by omega) (by omega), ck_nI (by omega) (by omega), tn_nI (by omega)]
        refine ok_l ⟨?_, fun i hi => ?_⟩
        · show nI (k - t) + (-1) = nI (k - (t + 1))
          apply i32_ext
          rw [Int32.toInt_add, nI_toI (by omega), nI_toI (by omega), show (-1 : Int32).toInt = -1 from rfl, Int.bmod_eq_of_le (by omega) (by omega)]
          omega
        · dsimp only
          have old := f2 i hi
          by_cases e : i = j
          · subst e
            rw [ej, if_neg (by omega), show k - t - 1 + 1 = k - t by omega, upd_eq]
          · have hne : psn (fun l => rk a nm (a (72 + 6 * c + l))) k i ≠ k - t - 1 := fun e' => e (ps_inj (r := fun l => rk a nm (a (72 + 6 * c + l))) hrk' hi hj (by rw [e', ej]))
            by_cases c1 : psn (fun l => rk a nm (a (72 + 6 * c + l))) k i < k - (t + 1)
            · rw [if_pos c1, upd_ne _ _ (by omega)]
              rw [if_pos (by omega)] at old
              exact old
            · rw [if_neg c1, upd_ne _ _ (by omega)]
              rw [if_neg (by omega)] at old
              exact old
      · rintro ⟨t1, t2⟩ ⟨f1, f2⟩
        dsimp only at f1 f2
        subst f1
        rw [show k - (k - psn (fun l => rk a nm (a (72 + 6 * c + l))) k k) = psn (fun l => rk a nm (a (72 + 6 * c + l))) k k by omega] at f2 ⊢
        unfold m_X12_layRow_B13
        rw [ck_lit (by decide) (by decide), show Int32.toNatClampNeg 63 = 63 from rfl, r4 63 (by omega), h63, if_pos (show nI 1 = 1 from rfl)]
        dsimp only
        by_cases e0 : psn (fun l => rk a nm (a (72 + 6 * c + l))) k k = 0
        · rw [if_pos (by rw [show (0 : Int32) = nI 0 from rfl, nI_le_iff (by omega) (by omega)]; omega)]
          exact ok_r ⟨rfl, f2⟩
        · obtain ⟨j, hj, ej⟩ := ps_sur (r := fun l => rk a nm (a (72 + 6 * c + l))) (k := k) hrk' (p := psn (fun l => rk a nm (a (72 + 6 * c + l))) k k - 1) (by omega)
          have hlt : rk a nm (a (72 + 6 * c + j)) ≤ rk a nm (a (72 + 6 * c + k)) := by
            apply Classical.byContradiction
            intro hn
            have : psn (fun l => rk a nm (a (72 + 6 * c + l))) k k ≤ psn (fun l => rk a nm (a (72 + 6 * c + l))) k j := cnt_mono _ (fun l _ hl => by simp only [decide_eq_true_eq] at hl ⊢; omega)
            omega
          have hval := f2 j hj
          rw [ej, if_pos (by omega)] at hval
          have b1 := hrk j (by omega)
          have b2 := hrk k hk
          have b3 := q2 j (by omega)
          rw [if_neg (by rw [show (0 : Int32) = nI 0 from rfl, nI_le_iff (by omega) (by omega)]; omega), show nI (psn (fun l => rk a nm (a (72 + 6 * c + l))) k k) - 1 = nI (psn (fun l => rk a nm (a (72 + 6 * c + l))) k k - 1) by rw [show (1 : Int32) = nI 1 from rfl, nI_sub (by omega) (by omega)], ck_nI (by omega) (by omega), tn_nI (by omega), hval, rankM_ok ho r4 h b3, bd, cited_ok r4 (by omega), bd, rankM_ok ho r4 h (q2 k hk), bd, if_pos (by rw [nI_le_iff (by omega) (by omega)]; exact hlt)]
          exact ok_r ⟨rfl, f2⟩
    · rintro ⟨t1, t2⟩ ⟨f1, f2⟩
      dsimp only at f1 f2
      subst f1
      dsimp only
      rw [cited_ok r4 (by omega), bd, ck_nI (by omega) (by omega), tn_nI (by omega), nI_s]
      refine ok_l ⟨rfl, fun j hj => ?_⟩
      dsimp only
      have hs : psn (fun l => rk a nm (a (72 + 6 * c + l))) (k + 1) j = psn (fun l => rk a nm (a (72 + 6 * c + l))) k j + (if rk a nm (a (72 + 6 * c + k)) < rk a nm (a (72 + 6 * c + j)) then 1 else 0) := by
        unfold psn
        rw [cnt_s]
        congr 1
        by_cases e : rk a nm (a (72 + 6 * c + k)) < rk a nm (a (72 + 6 * c + j))
        · rw [if_pos (decide_eq_true e), if_pos e]
        · rw [if_neg (by rw [decide_eq_true_eq]; exact e), if_neg e]
      by_cases e : j = k
      · subst e
        rw [hs, if_neg (by omega), Nat.add_zero, upd_eq]
      · have old := f2 j (by omega)
        have hne : rk a nm (a (72 + 6 * c + j)) ≠ rk a nm (a (72 + 6 * c + k)) := fun e' => e (hr j k (by omega) hk e')
        rw [hs]
        by_cases c1 : rk a nm (a (72 + 6 * c + k)) < rk a nm (a (72 + 6 * c + j))
        · have : psn (fun l => rk a nm (a (72 + 6 * c + l))) k k ≤ psn (fun l => rk a nm (a (72 + 6 * c + l))) k j := cnt_mono _ (fun l _ hl => by simp only [decide_eq_true_eq] at hl ⊢; omega)
          rw [if_neg (by omega)] at old
          rw [if_pos c1, upd_ne _ _ (by omega)]
          exact old
        · have := ps_mono (r := fun l => rk a nm (a (72 + 6 * c + l))) (k := k) (i := j) (j := k) (by omega) (by omega)
          rw [if_pos (by omega)] at old
          rw [if_neg c1, Nat.add_zero, upd_ne _ _ (by omega)]
          exact old
  · rintro ⟨s1, s2⟩ ⟨e1, e2⟩
    dsimp only at e1 e2
    subst e1
    unfold m_X12_layRow_B2
    rw [citesM_ok r4 (by omega), bd]
    dsimp only
    rw [if_pos (by rw [nI_le_iff (by omega) (by omega)]; omega)]
    exact ok_r e2
/-- a citation's works in the order of rendering -/
def SqR (a : Nat → Nat) (c : Nat) (q : Nat → Nat) (se ro : Nat → Int32) : Prop := ∀ i, i < a (71 + 6 * c) → (∃ j, j < a (71 + 6 * c) ∧ q i = a (72 + 6 * c + j)) ∧ se i = nI (q i) ∧ ro i = nI (q i)
theorem seq2 {W_n : Int32} {a nm : Nat → Nat} {S_co : Int32} {od nu li bo bn s : Nat → Int32} {C_n : Int32} {C_sz C_cd : Nat → Int32} (ho : Ok a) (hWn : W_n = nI (a 0)) (hco : S_co = nI (a 63)) (r3 : RT C_n C_sz C_cd a) (r4 : RM s a) (h : AR a nm od nu li bo bn) {c : Nat} (hc : c < a 70) (E_se M_ro : Nat → Int32) (E_sn : Int32) : Ok2 (m_X5_putInSequence W_n S_co C_sz C_cd li E_se E_sn (nI c)) (m_X12_layRow s bo bn M_ro (nI c)) (fun u v => u.2 = nI (a (71 + 6 * c)) ∧ ∃ q, SqR a c q u.1 v) := by
  have h63 := ho.2.1.1.2.2.2.2.2.2
  obtain ⟨q1, q2, q3⟩ := ho.2.2.2 c hc
  rcases (show a 63 = 0 ∨ a 63 = 1 by omega) with e | e
  · rw [hco, e]
    exact ok2_mono (seqA2 ho.2.2 r3 r4 hc e li E_se M_ro E_sn) (fun u v ⟨k1, k2⟩ => ⟨k1, fun i => a (72 + 6 * c + i), fun i hi => ⟨⟨i, hi, rfl⟩, k2 i hi⟩⟩)
  · rw [hco, e]
    refine ok2_S (seqC_ok ho hWn r3 h hc E_se E_sn) (rowM_ok ho r4 h hc e M_ro) (fun u v ⟨k1, k2⟩ k3 => ⟨k1, ?_⟩)
    have hr : ∀ i j, i < a (71 + 6 * c) → j < a (71 + 6 * c) → rk a nm (a (72 + 6 * c + i)) = rk a nm (a (72 + 6 * c + j)) → i = j := by
      intro i j hi hj e
      have := rk_inj ho.1 h (q2 i hi) (q2 j hj) e
      rcases Nat.lt_trichotomy i j with g | g | g
      · exact absurd this (q3 i j g hj)
      · exact g
      · exact absurd this.symm (q3 j i g hi)
    have hex : ∀ p, ∃ j, p < a (71 + 6 * c) → (j < a (71 + 6 * c) ∧ psn (fun l => rk a nm (a (72 + 6 * c + l))) (a (71 + 6 * c)) j = p) := by
      intro p
      by_cases hp : p < a (71 + 6 * c)
      · obtain ⟨j, h1, h2⟩ := ps_sur (r := fun l => rk a nm (a (72 + 6 * c + l))) hr hp
        exact ⟨j, fun _ => ⟨h1, h2⟩⟩
      · exact ⟨0, fun h => absurd h hp⟩
    obtain ⟨g, hg⟩ := Classical.axiomOfChoice hex
    refine ⟨fun i => a (72 + 6 * c + g i), fun i hi => ?_⟩
    obtain ⟨g1, g2⟩ := hg i hi
    refine ⟨⟨g i, g1, rfl⟩, ?_, ?_⟩
    · have := k2 (g i) g1
      rw [g2] at this
      exact this
    · have := k3 (g i) g1
      rw [g2] at this
      exact this
